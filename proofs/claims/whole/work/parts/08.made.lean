/-! SOUNDNESS, 4: fields written, cells made, what isn't made here -/
section SN4
variable {E : sn_E} {p : Program} {l : Launch} {e : Env} {R : Room} {s : State} {m : MethodId} {args : Array Value} {below : List Frame} {meth : Method} {c : Code} {nL n0 t0 : Nat} {Q : State → Prop}
variable {cc : ByteArray} {pc : Nat} {ls : pm_L} {st : List pm_V} {V : pm_M}
theorem sn_vpV {N j : Nat} {f : Nat → Value} (h : j < N) : vp_V ((List.range N).map f) j = f j := by
  unfold vp_V
  rw [List.getD_eq_getElem?_getD, List.getElem?_map, List.getElem?_range h]
  rfl
/-- what a field's write does to its cell -/
theorem sn_putU {H H1 : Heap} {C : String} {T : u_T} {N ci k q : Nat} {v : Value} {V' : pm_M} {cell : Cell} (hS : sn_S E V H) (hm : q ∈ V.1) (hkd : (pm_kd q).1 = 10 + ci) (hci : ci < 50) (hN : (pm_kd q).2 = N) (hc : vwCl[ci]? = some (C, T, N)) (hk : k < N)
    (hap : ∀ x y, x < N → y < N → x ≠ y → (E.2.2.2.1.2 ci) x ≠ (E.2.2.2.1.2 ci) y) (q2 : cell.cls = E.2.2.2.1.1 ci) (q3 : cell.vm = .none) (q4 : ∀ j, j < N → cell.slots[E.2.2.2.1.2 ci j]? = some (sn_fv E V ci q j))
    (e1 : H1[sn_ad E q]? = some (cell.setSlot (E.2.2.2.1.2 ci k) v)) (z1 : H1.size = H.size) (o1 : ∀ x, x ≠ sn_ad E q → H1[x]? = H[x]?)
    (e0 : V'.1 = V.1) (e2 : V'.2.1 = V.2.1) (er : ∀ a, a ≠ q → V'.2.2.1 a = V.2.2.1 a ∧ V'.2.2.2.1 a = V.2.2.2.1 a ∧ V'.2.2.2.2 a = V.2.2.2.2 a) (hv : sn_fv E V' ci q k = v) (hv2 : ∀ j, j ≠ k → sn_fv E V' ci q j = sn_fv E V ci q j) : sn_S E V' H1 := by
  refine hS.upd hm e0 e2 er z1 o1 ?_ (fun h2 => by omega)
  rw [sn_en_o hkd hci, hN]
  refine ⟨_, hc, ?_⟩
  refine t_OB.to (V := updV (sn_fv E V ci q) k v) ⟨_, e1, q2, q3, t_set q4 hap hk v⟩ (fun j hj => ?_)
  rw [sn_vpV hj]
  unfold updV
  split
  · rename_i h; rw [h, hv]
  · rename_i h; rw [hv2 j h]
theorem sn_putf (hx : p.tables.exec = Jvm.exec) (hb : c.code = cc) {Ts : List Cond} {own C : String} {T : u_T} {N ci index k q : Nat} {v : pm_V} {ty0 : Nat → FieldType} {V' : pm_M} (hts : ∀ w ∈ Ts, w.before args s = true) (hin : ∀ w ∈ u_ws C T N, w ∈ Ts) (hty : ∀ k, k < N → parseFieldDescriptor (T k).2.2.1 = some (ty0 k)) (hnm : ∀ a, a < N → ∀ b, b < N → a ≠ b → (T a).2.1 ≠ (T b).2.1) (hown : s.vm.findClass own = some m.cls) (hK : sn_K E s) (hc : vwCl[ci]? = some (C, T, N)) (hk : k < N) (hC : (T k).1 = C) (hlink : (Cond.fieldLink own index C (T k).2.1 (T k).2.2.1).before args s = true)
    (hfin : (T k).2.2.2 = false ∨ ((T k).2.2.2 = true ∧ meth.name = "<init>" ∧ C = own)) (hn : narrow (ty0 k) (sn_cv E v) = sn_cv E v) (hfit : fits (ty0 k) (sn_cv E v) = true)
    (hq : pm_is V q (10 + ci) = true) (hci : ci < 50) (hN : (pm_kd q).2 = N) (e0 : V'.1 = V.1) (e2 : V'.2.1 = V.2.1) (er : ∀ a, a ≠ q → V'.2.2.1 a = V.2.2.1 a ∧ V'.2.2.2.1 a = V.2.2.2.1 a ∧ V'.2.2.2.2 a = V.2.2.2.2 a) (hv : sn_fv E V' ci q k = sn_cv E v) (hv2 : ∀ j, j ≠ k → sn_fv E V' ci q j = sn_fv E V ci q j)
    (hdg : decode cc pc = .ok (.putfield index, 3)) (kk : sn_Go E p l e R s m args below meth c nL n0 t0 Q (pc + 3) ls st V') : sn_Go E p l e R s m args below meth c nL n0 t0 Q pc ls (v :: vr q :: st) V := by
  intro H locs cells slots arr hS hV hc' hs hl
  obtain ⟨hA, hkd⟩ := sn_is hq
  show W p l e R s m args below meth c H locs cells slots Q (F0 m pc arr (sn_cv E v :: sn_rf E q :: st.map (sn_cv E)))
  rw [sn_rf_ne (sn_ne0 hS hA)]
  have hm := (hS.2.2.1 q).mp hA
  have hat := hS.2.2.2.1 q hm
  rw [sn_en_o hkd hci, hN] at hat
  have hA2 : E.1 ≤ sn_ad E q := by rw [(sn_ad_lt hS hm).1]; omega
  have hap := va_apart (own := own) hts hin ty0 hty hnm hK.1 hc
  obtain ⟨r, h1, cell, q1, q2, q3, q4⟩ := hat
  have hr : r = (C, T, N) := Option.some.inj (h1.symm.trans hc)
  subst hr
  have q4 : ∀ j, j < N → cell.slots[E.2.2.2.1.2 ci j]? = some (sn_fv E V ci q j) := fun j hj => by rw [← sn_vpV (f := sn_fv E V ci q) hj]; exact q4 j hj
  obtain ⟨hS2, hfc, kC, hkC, hkind⟩ := hK.1.1 ci _ hc
  obtain ⟨cf, kf, fi, f, hi, hsl⟩ := hS2 k hk
  have hlay := hts _ (hin _ (u_in_lay hk))
  unfold u_lay at hlay
  have hst := (u_facts hfc hkC (u_lays hts hin hk) hi).1
  have hi' := hi
  rw [hC] at hi'
  have hfinal : ∀ H1 : Heap, H1[sn_ad E q]? = some (cell.setSlot f.slot (sn_cv E v)) → H1.size = H.size → (∀ x, x ≠ sn_ad E q → H1[x]? = H[x]?) → W p l e R s m args below meth c H1 (locs ++ [⟨sn_ad E q, f.slot⟩]) cells slots Q (F0 m (pc + 3) arr (st.map (sn_cv E))) := by
    intro H1 e1 z1 o1
    rw [hsl] at e1
    refine kk H1 _ cells slots arr (sn_putU hS hm hkd hci hN hc hk hap q2 q3 q4 e1 z1 o1 e0 e2 er hv hv2) (hV.put z1 o1 hA2) (by rw [e0]; exact hc') (by rw [e0]; exact hs) hl
  rcases hfin with hfin | ⟨hfin, hin2, hCo⟩
  · rw [if_neg (by rw [hfin]; decide)] at hlay
    have h6 := u_store hfc hkC hkind hlay hi (hty k hk) hn hfit
    exact W.putK hx hb (f := f) ⟨hown, hlink, ⟨_, _, _, hi'⟩, hst⟩ (by rw [q2]; exact h6) q1 q3 (by rw [hsl]; exact k2_hasslot (q4 k hk)) rfl rfl hdg hfinal
  · rw [if_pos hfin] at hlay
    have hcf : m.cls = cf := by
      obtain ⟨_, _, c', _, _, _, -, -, hf', -, -, -, hown2, -⟩ := Cond.laysFinal_spec hlay
      have e1 : c' = cf := by have := hi.symm.trans hf'; simp at this; exact this.1.symm
      rw [hC, hCo] at hown2
      rw [← e1]; exact Option.some.inj (hown.symm.trans hown2)
    have h6 := u_fits hfc hkC hkind (Or.inr hlay) hi (hty k hk) hn hfit
    exact W.putFinK hx hb hown hlink hi' hst hcf hin2 (by rw [q2]; exact h6) q1 q3 (by rw [hsl]; exact k2_hasslot (q4 k hk)) rfl rfl hdg hfinal
theorem sn_fvI {ci q k k' : Nat} {x : Int32} {a j : Nat} (h : pm_ft ci k = 0 ∨ pm_ft ci k = 3) : sn_fv E (pm_wI V q k x) ci q k = .int x := by
  unfold sn_fv
  rcases h with h | h <;> rw [h] <;> simp [pm_up]
theorem sn_putI (hx : p.tables.exec = Jvm.exec) (hb : c.code = cc) {Ts : List Cond} {own C : String} {T : u_T} {N ci index k q : Nat} {x : Int32} {ty0 : Nat → FieldType} (hts : ∀ w ∈ Ts, w.before args s = true) (hin : ∀ w ∈ u_ws C T N, w ∈ Ts) (hty : ∀ k, k < N → parseFieldDescriptor (T k).2.2.1 = some (ty0 k)) (hnm : ∀ a, a < N → ∀ b, b < N → a ≠ b → (T a).2.1 ≠ (T b).2.1) (hown : s.vm.findClass own = some m.cls) (hK : sn_K E s) (hc : vwCl[ci]? = some (C, T, N)) (hk : k < N) (hC : (T k).1 = C) (hlink : (Cond.fieldLink own index C (T k).2.1 (T k).2.2.1).before args s = true)
    (hfin : (T k).2.2.2 = false) (hft : (pm_ft ci k = 0 ∧ ty0 k = .int) ∨ (pm_ft ci k = 3 ∧ ty0 k = .boolean ∧ pm_01 x = true))
    (hq : pm_is V q (10 + ci) = true) (hci : ci < 50) (hN : (pm_kd q).2 = N) (hdg : decode cc pc = .ok (.putfield index, 3)) (kk : sn_Go E p l e R s m args below meth c nL n0 t0 Q (pc + 3) ls st (pm_wI V q k x)) : sn_Go E p l e R s m args below meth c nL n0 t0 Q pc ls (vi x :: vr q :: st) V := by
  have hf2 : pm_ft ci k = 0 ∨ pm_ft ci k = 3 := by
    rcases hft with h | h
    · exact Or.inl h.1
    · exact Or.inr h.1
  refine sn_putf (V' := pm_wI V q k x) hx hb hts hin hty hnm hown hK hc hk hC hlink (Or.inl hfin) ?_ ?_ hq hci hN rfl rfl (fun a ha => ⟨rfl, sn_up_ne ha, rfl⟩) ?_ (fun j hj => ?_) hdg kk
  · rcases hft with ⟨-, h⟩ | ⟨-, h, h3⟩
    · rw [h]; rfl
    · rw [h]
      rcases sn_01 h3 with rfl | rfl <;> rfl
  · rcases hft with ⟨-, h⟩ | ⟨-, h, h3⟩
    · rw [h]; rfl
    · rw [h]
      rcases sn_01 h3 with rfl | rfl <;> rfl
  · exact sn_fvI (k' := 0) (a := 0) (j := 0) hf2
  · unfold sn_fv
    simp [pm_up, hj]
theorem sn_putL (hx : p.tables.exec = Jvm.exec) (hb : c.code = cc) {Ts : List Cond} {own C : String} {T : u_T} {N ci index k q : Nat} {x : Int64} {ty0 : Nat → FieldType} (hts : ∀ w ∈ Ts, w.before args s = true) (hin : ∀ w ∈ u_ws C T N, w ∈ Ts) (hty : ∀ k, k < N → parseFieldDescriptor (T k).2.2.1 = some (ty0 k)) (hnm : ∀ a, a < N → ∀ b, b < N → a ≠ b → (T a).2.1 ≠ (T b).2.1) (hown : s.vm.findClass own = some m.cls) (hK : sn_K E s) (hc : vwCl[ci]? = some (C, T, N)) (hk : k < N) (hC : (T k).1 = C) (hlink : (Cond.fieldLink own index C (T k).2.1 (T k).2.2.1).before args s = true)
    (hfin : (T k).2.2.2 = false) (hft : pm_ft ci k = 1 ∧ ty0 k = .long)
    (hq : pm_is V q (10 + ci) = true) (hci : ci < 50) (hN : (pm_kd q).2 = N) (hdg : decode cc pc = .ok (.putfield index, 3)) (kk : sn_Go E p l e R s m args below meth c nL n0 t0 Q (pc + 3) ls st (pm_wL V q k x)) : sn_Go E p l e R s m args below meth c nL n0 t0 Q pc ls (vl x :: vr q :: st) V := by
  refine sn_putf (V' := pm_wL V q k x) hx hb hts hin hty hnm hown hK hc hk hC hlink (Or.inl hfin) ?_ ?_ hq hci hN rfl rfl (fun a ha => ⟨rfl, rfl, sn_up_ne ha⟩) ?_ (fun j hj => ?_) hdg kk
  · rw [hft.2]; rfl
  · rw [hft.2]; rfl
  · unfold sn_fv
    rw [hft.1]
    simp [pm_up, sn_cv]
  · unfold sn_fv
    simp [pm_up, hj]
theorem sn_putN (hx : p.tables.exec = Jvm.exec) (hb : c.code = cc) {Ts : List Cond} {own C : String} {T : u_T} {N ci index k q x : Nat} {ty0 : Nat → FieldType} (hts : ∀ w ∈ Ts, w.before args s = true) (hin : ∀ w ∈ u_ws C T N, w ∈ Ts) (hty : ∀ k, k < N → parseFieldDescriptor (T k).2.2.1 = some (ty0 k)) (hnm : ∀ a, a < N → ∀ b, b < N → a ≠ b → (T a).2.1 ≠ (T b).2.1) (hown : s.vm.findClass own = some m.cls) (hK : sn_K E s) (hc : vwCl[ci]? = some (C, T, N)) (hk : k < N) (hC : (T k).1 = C) (hlink : (Cond.fieldLink own index C (T k).2.1 (T k).2.2.1).before args s = true)
    (hfin : (T k).2.2.2 = false ∨ ((T k).2.2.2 = true ∧ meth.name = "<init>" ∧ C = own)) (hft : pm_ft ci k = 2 ∧ (ty0 k).isReference = true) (hx0 : x ≠ 0)
    (hq : pm_is V q (10 + ci) = true) (hci : ci < 50) (hN : (pm_kd q).2 = N) (hdg : decode cc pc = .ok (.putfield index, 3)) (kk : sn_Go E p l e R s m args below meth c nL n0 t0 Q (pc + 3) ls st (pm_wN V q k x)) : sn_Go E p l e R s m args below meth c nL n0 t0 Q pc ls (vr x :: vr q :: st) V := by
  have hcv : sn_cv E (vr x) = .ref (sn_ad E x) := sn_rf_ne hx0
  refine sn_putf (V' := pm_wN V q k x) hx hb hts hin hty hnm hown hK hc hk hC hlink hfin ?_ ?_ hq hci hN rfl rfl (fun a ha => ⟨sn_up_ne ha, rfl, rfl⟩) ?_ (fun j hj => ?_) hdg kk
  · rw [hcv]
    have h := hft.2
    cases ht : ty0 k <;> rw [ht] at h <;> first | rfl | cases h
  · rw [hcv]
    have h := hft.2
    cases ht : ty0 k <;> rw [ht] at h <;> first | rfl | cases h
  · unfold sn_fv
    rw [hft.1]
    simp [pm_up, sn_cv]
  · unfold sn_fv
    simp [pm_up, hj]
theorem sn_aastore (hx : p.tables.exec = Jvm.exec) (hb : c.code = cc) {i : Int32} {q x ci : Nat} {r : vw_C} (hK : sn_K E s) (hA : V.2.1 q = true) (hkd : (pm_kd q).1 = 100 + ci) (hty : sn_tty (100 + ci) = some (.object r.1)) (hc : vwCl[ci]? = some r) (hci : ci < 50) (hi : pm_in i (pm_kd q).2 = true) (hxv : pm_is V x (10 + ci) = true) (hdg : decode cc pc = .ok (.aastore, 1)) (kk : sn_Go E p l e R s m args below meth c nL n0 t0 Q (pc + 1) ls st (pm_wN V q i.toNatClampNeg x)) : sn_Go E p l e R s m args below meth c nL n0 t0 Q pc ls (vr x :: vi i :: vr q :: st) V := by
  intro H locs cells slots arr hS hV hc' hs hl
  obtain ⟨hAx, hkx⟩ := sn_is hxv
  show W p l e R s m args below meth c H locs cells slots Q (F0 m pc arr (sn_rf E x :: .int i :: sn_rf E q :: st.map (sn_cv E)))
  rw [sn_rf_ne (sn_ne0 hS hA), sn_rf_ne (sn_ne0 hS hAx)]
  have hm := (hS.2.2.1 q).mp hA
  have hat := hS.2.2.2.1 q hm
  have htg : (Nat.ble 100 (100 + ci) || Nat.beq (100 + ci) 6) = true := by
    rw [Nat.ble_eq_true_of_le (by omega : 100 ≤ 100 + ci)]
    rfl
  rw [sn_en_q hkd htg] at hat
  have hax := hS.2.2.2.1 x ((hS.2.2.1 x).mp hAx)
  rw [sn_en_o hkx hci] at hax
  have hA2 : E.1 ≤ sn_ad E q := by rw [(sn_ad_lt hS hm).1]; omega
  have hin := sn_in hi
  have hlt : i.toNatClampNeg < (pm_kd q).2 := Nat.not_le.mp fun z => hin (Or.inr z)
  have h0 : ¬ i < 0 := fun z => hin (Or.inl z)
  obtain ⟨r', hr', cellV, g1, g2, g3, -⟩ := hax
  have hcls := (hK.1.1 ci r hc).2
  obtain ⟨kA, comp, k1, k2, k3, -⟩ := (hK.2 (100 + ci) (.object r.1) hty).2
  have hcomp : comp = E.2.2.2.1.1 ci := Option.some.inj (k3.symm.trans hcls.1)
  subst hcomp
  obtain ⟨kC, hkC, -⟩ := hcls.2
  refine W.aast hx hb (show H[sn_ad E q]? = some (arrV (E.2.2.2.2.1 (100 + ci)) (pm_kd q).2 (fun j => va_rf (sn_rw E (V.2.2.1 q) j))) from hat) (fun z h => by cases h) (fun h => by cases h) k1 k2 rfl hkC ⟨h0, by rw [arrV_size]; exact hlt⟩ g1 (fun z h => by rw [g3] at h; cases h) (by rw [g2]; exact hkC) (by rw [g2]; exact va_assign hcls) rfl rfl hdg fun H1 e1 z1 o1 => ?_
  refine kk H1 _ cells slots arr ?_ (hV.put z1 o1 hA2) hc' hs hl
  refine hS.upd hm rfl rfl (fun a ha => ⟨sn_up_ne ha, rfl, rfl⟩) z1 o1 ?_ (fun h2 => by omega)
  rw [sn_en_q hkd htg]
  show H1[sn_ad E q]? = some (arrV (E.2.2.2.2.1 (100 + ci)) (pm_kd q).2 (fun j => va_rf (sn_rw E (pm_up V.2.2.1 q i.toNatClampNeg x q) j)))
  rw [e1, arrV_store]
  congr 2
  funext j
  rw [sn_rfrw, sn_up_self]
  unfold updV
  split
  · rw [sn_rf_ne (sn_ne0 hS hAx)]
  · exact sn_rfrw
/-- a new cell -/
theorem sn_S.new {H H1 : Heap} {q : Nat} (hS : sn_S E V H) (hA : V.2.1 q = false) (hq1 : 1 ≤ q) (hq2 : q ≤ 899) (hp : V.1 ++ [q] <+: E.2.1) (hz : H1.size = H.size + 1) (ho : ∀ x, x < H.size → H1[x]? = H[x]?) (hat : va_at E.2.2.2.1 vwCl (H.size, sn_en E V q) H1) : sn_S E (V.1 ++ [q], pm_set V.2.1 q, V.2.2) H1 ∧ sn_ad E q = H.size := by
  obtain ⟨h1, h2, h3, h4, h5, h6, h7, h8⟩ := hS
  have hnot : q ∉ V.1 := fun z => by
    have := (h3 q).mpr z
    rw [hA] at this
    cases this
  have had : sn_ad E q = H.size := by
    obtain ⟨k, hk⟩ := hp
    unfold sn_ad
    have hb : Nat.ble 900 q = false := by
      cases hb : Nat.ble 900 q with
      | false => rfl
      | true => exact absurd (Nat.le_of_ble_eq_true hb) (by omega)
    rw [hb]
    show E.1 + sn_ix q E.2.1 = _
    rw [← hk, List.append_assoc]
    show E.1 + sn_ix q (V.1 ++ q :: k) = _
    rw [sn_ix_new k hnot, h1]
  refine ⟨⟨?_, hp, fun a => ?_, fun a ha => ?_, fun a ha => ?_, h6, fun a ha => ?_, ?_⟩, had⟩
  · show H1.size = E.1 + (V.1 ++ [q]).length
    rw [hz, h1, List.length_append]
    rfl
  · show pm_set V.2.1 q a = true ↔ a ∈ V.1 ++ [q]
    unfold pm_set
    rw [List.mem_append, List.mem_singleton]
    cases hb : Nat.beq a q with
    | true => exact ⟨fun _ => Or.inr (Nat.eq_of_beq_eq_true hb), fun _ => rfl⟩
    | false =>
      have hne : ¬ a = q := fun z => by rw [z, Nat.beq_refl] at hb; cases hb
      show V.2.1 a = true ↔ _
      rw [h3 a]
      exact ⟨Or.inl, fun z => z.resolve_right hne⟩
  · have e : sn_en E (V.1 ++ [q], pm_set V.2.1 q, V.2.2) a = sn_en E V a := sn_en_congr rfl rfl rfl
    rw [e]
    rcases List.mem_append.mp ha with ha | ha
    · exact (h4 a ha).kept (ho _ ((h4 a ha).lt))
    · rw [List.mem_singleton.mp ha, had]
      exact hat
  · have ha' : V.2.1 a = false := by
      have ha' : pm_set V.2.1 q a = false := ha
      unfold pm_set at ha'
      cases hb : Nat.beq a q with
      | true => rw [hb] at ha'; cases ha'
      | false => rw [hb] at ha'; exact ha'
    exact h5 a ha'
  · rcases List.mem_append.mp ha with ha | ha
    · exact h7 a ha
    · rw [List.mem_singleton.mp ha]
      exact ⟨hq1, hq2⟩
  · rw [List.nodup_append]
    exact ⟨h8, by simp, fun a ha b hb z => hnot (by rw [List.mem_singleton.mp hb] at z; rw [← z]; exact ha)⟩
theorem sn_tt_app (l : List Nat) (q : Nat) : sn_tt (l ++ [q]) = sn_tt l + (pm_kd q).2 := by
  unfold sn_tt
  rw [List.map_append, List.sum_append]
  simp
theorem sn_newa (hx : p.tables.exec = Jvm.exec) (hb : c.code = cc) {atype : ArrayType} {t q : Nat} {n : Int32} (harr : (Cond.arrayClass (newarray.typeOf atype)).before args s = true) (hK : sn_K E s) (ht : t = 1 ∨ t = 2 ∨ t = 3 ∨ t = 4) (hty : sn_tty t = some (newarray.typeOf atype)) (hn : 0 ≤ n) (hA : V.2.1 q = false) (hq1 : 1 ≤ q) (hq2 : q ≤ 899) (hkd : (pm_kd q).1 = t) (hN : (pm_kd q).2 = n.toNatClampNeg) (hbytes : n.toNatClampNeg ≤ 60000000) (hp : V.1 ++ [q] <+: E.2.1) (hcells : V.1.length + 1 ≤ n0 + R.cells) (hslots : sn_tt V.1 + n.toNatClampNeg ≤ t0 + R.slots)
    (hdg : decode cc pc = .ok (.newarray atype, 2)) (kk : sn_Go E p l e R s m args below meth c nL n0 t0 Q (pc + 2) ls (vr q :: st) (V.1 ++ [q], pm_set V.2.1 q, V.2.2)) : sn_Go E p l e R s m args below meth c nL n0 t0 Q pc ls (vi n :: st) V := by
  intro H locs cells slots arr hS hV hc' hs hl
  show W p l e R s m args below meth c H locs cells slots Q (F0 m pc arr (.int n :: st.map (sn_cv E)))
  refine va_newaK hx hb harr rfl hdg rfl (Int32.not_lt.mpr hn) rfl ?_ (by omega) (by omega) rfl fun H1 cA e1 z1 o1 hAr hNm => ?_
  · have : componentBytes (newarray.typeOf atype) ≤ 8 := by cases atype <;> decide
    exact Nat.le_trans (Nat.mul_le_mul hbytes this) (by decide)
  · have hcA : cA = E.2.2.2.2.1 t := by
      have h2 := (hK.2 t _ hty).2
      have h3 : s.vm.findClass ("[" ++ (newarray.typeOf atype).toString) = some (E.2.2.2.2.1 t) := by cases atype <;> exact h2
      exact Option.some.inj (hNm.symm.trans h3)
    have hfr := hS.2.2.2.2.1 q hA
    have hat : va_at E.2.2.2.1 vwCl (H.size, sn_en E V q) H1 := by
      rcases ht with rfl | rfl | rfl | rfl
      · rw [sn_en_i hkd (Or.inl rfl)]
        show H1[H.size]? = some (arrV (E.2.2.2.2.1 1) (pm_kd q).2 (fun j => Value.int (V.2.2.2.1 q j)))
        rw [e1, hcA, hN]
        congr 2
        funext j
        rw [(hfr j).1]
        cases atype <;> first | rfl | cases hty
      · rw [sn_en_i hkd (Or.inr (Or.inl rfl))]
        show H1[H.size]? = some (arrV (E.2.2.2.2.1 2) (pm_kd q).2 (fun j => Value.int (V.2.2.2.1 q j)))
        rw [e1, hcA, hN]
        congr 2
        funext j
        rw [(hfr j).1]
        cases atype <;> first | rfl | cases hty
      · rw [sn_en_i hkd (Or.inr (Or.inr rfl))]
        show H1[H.size]? = some (arrV (E.2.2.2.2.1 3) (pm_kd q).2 (fun j => Value.int (V.2.2.2.1 q j)))
        rw [e1, hcA, hN]
        congr 2
        funext j
        rw [(hfr j).1]
        cases atype <;> first | rfl | cases hty
      · rw [sn_en_l hkd]
        show H1[H.size]? = some (arrV (E.2.2.2.2.1 4) (pm_kd q).2 (fun j => Value.long (V.2.2.2.2 q j)))
        rw [e1, hcA, hN]
        congr 2
        funext j
        rw [(hfr j).2.1]
        cases atype <;> first | rfl | cases hty
    obtain ⟨hS1, had⟩ := hS.new hA hq1 hq2 hp z1 o1 hat
    have h9 := kk H1 locs (cells + 1) (slots + n.toNatClampNeg) arr hS1 ⟨Nat.le_trans hV.1 (by omega), fun x g1 g2 => (o1 x (Nat.lt_of_lt_of_le g1 hV.1)).trans (hV.2.1 x g1 g2), hV.2.2⟩ (by show cells + 1 + n0 = (V.1 ++ [q]).length; rw [List.length_append]; show _ = _ + 1; omega) (by show _ = sn_tt (V.1 ++ [q]); rw [sn_tt_app, hN]; omega) hl
    rw [List.map_cons] at h9
    change W p l e R s m args below meth c H1 locs (cells + 1) (slots + n.toNatClampNeg) Q (F0 m (pc + 2) arr (sn_rf E q :: st.map (sn_cv E))) at h9
    rw [sn_rf_ne (show q ≠ 0 by omega), had] at h9
    exact h9
theorem sn_newo (hx : p.tables.exec = Jvm.exec) (hb : c.code = cc) {Ts : List Cond} {own C : String} {T : u_T} {N ci index q : Nat} {ty0 : Nat → FieldType} (hts : ∀ w ∈ Ts, w.before args s = true) (hin : ∀ w ∈ u_ws C T N, w ∈ Ts) (hty : ∀ k, k < N → parseFieldDescriptor (T k).2.2.1 = some (ty0 k)) (hown : s.vm.findClass own = some m.cls) (hcl : (Cond.classLink own index C).before args s = true) (hinst : (Cond.instantiable C N).before args s = true) (hini : (Cond.initialized C).before args s = true) (hK : sn_K E s) (hc : vwCl[ci]? = some (C, T, N)) (hci : ci < 50)
    (hft : ∀ k, k < N → defaultValue (ty0 k) = (match pm_ft ci k with | 2 => Value.null | 1 => Value.long 0 | _ => Value.int 0)) (hA : V.2.1 q = false) (hq1 : 1 ≤ q) (hq2 : q ≤ 899) (hkd : (pm_kd q).1 = 10 + ci) (hN : (pm_kd q).2 = N) (hp : V.1 ++ [q] <+: E.2.1) (hcells : V.1.length + 1 ≤ n0 + R.cells) (hslots : sn_tt V.1 + N ≤ t0 + R.slots)
    (hdg : decode cc pc = .ok (.new index, 3)) (kk : sn_Go E p l e R s m args below meth c nL n0 t0 Q (pc + 3) ls (vr q :: st) (V.1 ++ [q], pm_set V.2.1 q, V.2.2)) : sn_Go E p l e R s m args below meth c nL n0 t0 Q pc ls st V := by
  intro H locs cells slots arr hS hV hc' hs hl
  have hKn := hK.1.1 ci _ hc
  refine W.newcK hx hb hown hcl hinst hini rfl hdg (by omega) (by omega) hKn.2.1 rfl fun H1 kC hkC e1 z1 o1 => ?_
  have hfr := hS.2.2.2.2.1 q hA
  have hat : va_at E.2.2.2.1 vwCl (H.size, sn_en E V q) H1 := by
    rw [sn_en_o hkd hci, hN]
    refine ⟨_, hc, (u_born ty0 hts hin hKn hkC e1 hty).to (fun j hj => ?_)⟩
    rw [sn_vpV hj, hft j hj]
    unfold sn_fv
    rw [(hfr j).1, (hfr j).2.1, (hfr j).2.2]
    rfl
  obtain ⟨hS1, had⟩ := hS.new hA hq1 hq2 hp z1 o1 hat
  have h9 := kk H1 locs (cells + 1) (slots + N) arr hS1 ⟨Nat.le_trans hV.1 (by omega), fun x g1 g2 => (o1 x (Nat.lt_of_lt_of_le g1 hV.1)).trans (hV.2.1 x g1 g2), hV.2.2⟩ (by show cells + 1 + n0 = (V.1 ++ [q]).length; rw [List.length_append]; show _ = _ + 1; omega) (by show _ = sn_tt (V.1 ++ [q]); rw [sn_tt_app, hN]; omega) hl
  rw [List.map_cons] at h9
  change W p l e R s m args below meth c H1 locs (cells + 1) (slots + N) Q (F0 m (pc + 3) arr (sn_rf E q :: st.map (sn_cv E))) at h9
  rw [sn_rf_ne (show q ≠ 0 by omega), had] at h9
  exact h9
end SN4
