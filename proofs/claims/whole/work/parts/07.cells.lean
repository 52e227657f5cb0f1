/-! SOUNDNESS, 3: cells: reads and writes -/
section SN3
variable {E : sn_E} {p : Program} {l : Launch} {e : Env} {R : Room} {s : State} {m : MethodId} {args : Array Value} {below : List Frame} {meth : Method} {c : Code} {nL n0 t0 : Nat} {Q : State → Prop}
variable {cc : ByteArray} {pc : Nat} {ls : pm_L} {st : List pm_V} {V : pm_M}
def sn_tty (t : Nat) : Option FieldType := match t with
  | 1 => some .int
  | 2 => some .byte
  | 3 => some .boolean
  | 4 => some .long
  | 6 => some (.array .int)
  | 100 => some (.object RX0)
  | 103 => some (.object RX4)
  | 106 => some (.object RX7)
  | 108 => some (.object RX9)
  | 109 => some (.object RX10)
  | _ => none
def sn_K (E : sn_E) (U : State) : Prop := va_K E.2.2.2.1 vwCl [] U ∧ ∀ t ty, sn_tty t = some ty → ArrOfT U (E.2.2.2.2.1 t) ty ∧ va_RA U (E.2.2.2.2.1 t) ty
theorem sn_K.moved {u U : State} (hvm : u.vm.Alike U.vm) (h : sn_K E u) : sn_K E U := ⟨h.1.moved hvm, fun t ty ht => ⟨arrOfT_moved hvm (h.2 t ty ht).1, (h.2 t ty ht).2.moved hvm⟩⟩
theorem sn_K.ty {U : State} (h : sn_K E U) {t : Nat} {ty : FieldType} (ht : sn_tty t = some ty) : va_K E.2.2.2.1 vwCl [(E.2.2.2.2.1 t, ty)] U := ⟨h.1.1, fun k q hk => by
  have hz : k < 1 := (List.getElem?_eq_some_iff.mp hk).1
  rw [show k = 0 by omega] at hk
  cases hk
  exact h.2 t ty ht⟩
theorem sn_in {i : Int32} {n : Nat} (h : pm_in i n = true) : vp_in i n := by
  simp only [pm_in, Bool.and_eq_true, decide_eq_true_eq] at h
  rintro (q | q)
  · exact (Int32.not_lt.mpr h.1) q
  · omega
theorem sn_is {q t : Nat} (h : pm_is V q t = true) : V.2.1 q = true ∧ (pm_kd q).1 = t := by
  simp only [pm_is, Bool.and_eq_true] at h
  exact ⟨h.1, Nat.eq_of_beq_eq_true h.2⟩
theorem sn_one {D : va_G} {cl : List vw_C} {x : Nat × va_E} {H : Heap} (h : va_at D cl x H) : va_P D cl [x] H := fun k q hk => by
  have hz : k < 1 := (List.getElem?_eq_some_iff.mp hk).1
  rw [show k = 0 by omega] at hk
  cases hk
  exact h
/-- a cell's row by its kind -/
theorem sn_en_o {q ci : Nat} (h : (pm_kd q).1 = 10 + ci) (h2 : ci < 50) : sn_en E V q = .inr (ci, (List.range (pm_kd q).2).map (sn_fv E V ci q)) := by
  unfold sn_en
  rw [h]
  have e1 : (Nat.ble 100 (10 + ci) || Nat.beq (10 + ci) 6) = false := by
    cases h3 : Nat.ble 100 (10 + ci) with
    | true => exact absurd (Nat.le_of_ble_eq_true h3) (by omega)
    | false =>
      cases h4 : Nat.beq (10 + ci) 6 with
      | true => exact absurd (Nat.eq_of_beq_eq_true h4) (by omega)
      | false => rfl
  have e2 : Nat.ble 10 (10 + ci) = true := Nat.ble_eq_true_of_le (by omega)
  rw [e1, e2, Nat.add_sub_cancel_left]
  rfl
theorem sn_en_i {q t : Nat} (h : (pm_kd q).1 = t) (ht : t = 1 ∨ t = 2 ∨ t = 3) : sn_en E V q = .inl (E.2.2.2.2.1 t, (pm_kd q).2, .inl (V.2.2.2.1 q)) := by
  unfold sn_en
  rw [h]
  rcases ht with rfl | rfl | rfl <;> rfl
theorem sn_en_l {q : Nat} (h : (pm_kd q).1 = 4) : sn_en E V q = .inl (E.2.2.2.2.1 4, (pm_kd q).2, .inr (.inl (V.2.2.2.2 q))) := by
  unfold sn_en
  rw [h]
  rfl
theorem sn_en_q {q t : Nat} (h : (pm_kd q).1 = t) (ht : (Nat.ble 100 t || Nat.beq t 6) = true) : sn_en E V q = .inl (E.2.2.2.2.1 t, (pm_kd q).2, .inr (.inr (.inr (.inr (sn_rw E (V.2.2.1 q)))))) := by
  unfold sn_en
  rw [h, ht]
  rfl
theorem sn_en_congr {V' : pm_M} {a : Nat} (h1 : V'.2.2.1 a = V.2.2.1 a) (h2 : V'.2.2.2.1 a = V.2.2.2.1 a) (h3 : V'.2.2.2.2 a = V.2.2.2.2 a) : sn_en E V' a = sn_en E V a := by
  unfold sn_en
  have h4 : sn_fv E V' ((pm_kd a).1 - 10) a = sn_fv E V ((pm_kd a).1 - 10) a := by
    funext k
    unfold sn_fv
    rw [h1, h2, h3]
  rw [h1, h2, h3, h4]
theorem sn_ne0 {H : Heap} (hS : sn_S E V H) {q : Nat} (hq : V.2.1 q = true) : q ≠ 0 := by
  have := (hS.2.2.2.2.2.2.1 q ((hS.2.2.1 q).mp hq)).1
  omega
/-- a cell is written: the others stay -/
theorem sn_S.upd {H H1 : Heap} {V' : pm_M} {q : Nat} (hS : sn_S E V H) (hq : q ∈ V.1) (e0 : V'.1 = V.1) (e1 : V'.2.1 = V.2.1) (er : ∀ a, a ≠ q → V'.2.2.1 a = V.2.2.1 a ∧ V'.2.2.2.1 a = V.2.2.2.1 a ∧ V'.2.2.2.2 a = V.2.2.2.2 a) (hz : H1.size = H.size) (ho : ∀ x, x ≠ sn_ad E q → H1[x]? = H[x]?) (hat : va_at E.2.2.2.1 vwCl (sn_ad E q, sn_en E V' q) H1) (hby : (pm_kd q).1 = 2 → ∀ j, fits .byte (.int (V'.2.2.2.1 q j)) = true) : sn_S E V' H1 := by
  have hS' := hS
  obtain ⟨h1, h2, h3, h4, h5, h6, h7, h8⟩ := hS
  refine ⟨by rw [hz, e0]; exact h1, by rw [e0]; exact h2, by rw [e0, e1]; exact h3, fun a ha => ?_, fun a ha => ?_, fun a j hk => ?_, by rw [e0]; exact h7, by rw [e0]; exact h8⟩
  · rw [e0] at ha
    by_cases haq : a = q
    · subst haq
      exact hat
    · rw [sn_en_congr (er a haq).1 (er a haq).2.1 (er a haq).2.2]
      exact (h4 a ha).kept (ho _ (fun z => haq (sn_ad_inj hS' ha hq z)))
  · rw [e1] at ha
    have haq : a ≠ q := fun z => by
      rw [z] at ha
      have := (h3 q).mpr hq
      rw [ha] at this
      cases this
    intro j
    rw [(er a haq).1, (er a haq).2.1, (er a haq).2.2]
    exact h5 a ha j
  · by_cases haq : a = q
    · subst haq
      exact hby hk j
    · rw [(er a haq).2.1]
      exact h6 a j hk
theorem sn_up_ne {α : Type} {f : Nat → Nat → α} {a b j : Nat} {x : α} (h : b ≠ a) : pm_up f a j x b = f b := by
  funext k
  simp [pm_up, h]
theorem sn_up_self {α : Type} {f : Nat → Nat → α} {a j k : Nat} {x : α} : pm_up f a j x a k = if k = j then x else f a k := by
  simp [pm_up]
/-- reads -/
theorem sn_getf (hx : p.tables.exec = Jvm.exec) (hb : c.code = cc) {Ts : List Cond} {own C : String} {T : u_T} {N ci index k q : Nat} {v : pm_V} (hts : ∀ w ∈ Ts, w.before args s = true) (hin : ∀ w ∈ u_ws C T N, w ∈ Ts) (hown : s.vm.findClass own = some m.cls) (hK : sn_K E s) (hc : vwCl[ci]? = some (C, T, N)) (hk : k < N) (hC : (T k).1 = C) (hlink : (Cond.fieldLink own index C (T k).2.1 (T k).2.2.1).before args s = true)
    (hq : pm_is V q (10 + ci) = true) (hci : ci < 50) (hN : (pm_kd q).2 = N) (hv : sn_cv E v = sn_fv E V ci q k) (hdg : decode cc pc = .ok (.getfield index, 3)) (kk : sn_Go E p l e R s m args below meth c nL n0 t0 Q (pc + 3) ls (v :: st) V) : sn_Go E p l e R s m args below meth c nL n0 t0 Q pc ls (vr q :: st) V := by
  intro H locs cells slots arr hS hV hc' hs hl
  obtain ⟨hA, hkd⟩ := sn_is hq
  show W p l e R s m args below meth c H locs cells slots Q (F0 m pc arr (sn_rf E q :: st.map (sn_cv E)))
  rw [sn_rf_ne (sn_ne0 hS hA)]
  have hat := hS.2.2.2.1 q ((hS.2.2.1 q).mp hA)
  rw [sn_en_o hkd hci] at hat
  refine va_get (D := E.2.2.2.1) (ci := ci) (v := sn_cv E v) hx hb hts hin hown hK.1 (sn_one hat) 0 rfl hc k hk hlink (fun x h9 => by rw [hC] at h9; exact h9) ?_ hdg (kk H locs cells slots arr hS hV hc' hs hl)
  rw [List.getElem?_map, List.getElem?_range (by omega), hv]
  rfl
theorem sn_iaload (hx : p.tables.exec = Jvm.exec) (hb : c.code = cc) {i : Int32} {q : Nat} (hK : sn_K E s) (hq : pm_is V q 1 = true) (hi : pm_in i (pm_kd q).2 = true) (hdg : decode cc pc = .ok (.iaload, 1)) (kk : sn_Go E p l e R s m args below meth c nL n0 t0 Q (pc + 1) ls (vi (V.2.2.2.1 q i.toNatClampNeg) :: st) V) : sn_Go E p l e R s m args below meth c nL n0 t0 Q pc ls (vi i :: vr q :: st) V := by
  intro H locs cells slots arr hS hV hc' hs hl
  obtain ⟨hA, hkd⟩ := sn_is hq
  show W p l e R s m args below meth c H locs cells slots Q (F0 m pc arr (.int i :: sn_rf E q :: st.map (sn_cv E)))
  rw [sn_rf_ne (sn_ne0 hS hA)]
  have hat := hS.2.2.2.1 q ((hS.2.2.1 q).mp hA)
  rw [sn_en_i hkd (Or.inl rfl)] at hat
  exact va_iald (D := E.2.2.2.1) hx hb (hK.ty rfl) (sn_one hat) 0 0 rfl rfl (sn_in hi) hdg (kk H locs cells slots arr hS hV hc' hs hl)
theorem sn_baload (hx : p.tables.exec = Jvm.exec) (hb : c.code = cc) {i : Int32} {q : Nat} (hK : sn_K E s) (hq : (pm_is V q 2 || pm_is V q 3) = true) (hi : pm_in i (pm_kd q).2 = true) (hdg : decode cc pc = .ok (.baload, 1)) (kk : sn_Go E p l e R s m args below meth c nL n0 t0 Q (pc + 1) ls (vi (V.2.2.2.1 q i.toNatClampNeg) :: st) V) : sn_Go E p l e R s m args below meth c nL n0 t0 Q pc ls (vi i :: vr q :: st) V := by
  intro H locs cells slots arr hS hV hc' hs hl
  show W p l e R s m args below meth c H locs cells slots Q (F0 m pc arr (.int i :: sn_rf E q :: st.map (sn_cv E)))
  rcases (Bool.or_eq_true _ _).mp hq with hq | hq
  · obtain ⟨hA, hkd⟩ := sn_is hq
    rw [sn_rf_ne (sn_ne0 hS hA)]
    have hat := hS.2.2.2.1 q ((hS.2.2.1 q).mp hA)
    rw [sn_en_i hkd (Or.inr (Or.inl rfl))] at hat
    exact va_bald (D := E.2.2.2.1) hx hb (hK.ty rfl) (sn_one hat) 0 0 rfl rfl (sn_in hi) hdg (kk H locs cells slots arr hS hV hc' hs hl)
  · obtain ⟨hA, hkd⟩ := sn_is hq
    rw [sn_rf_ne (sn_ne0 hS hA)]
    have hat := hS.2.2.2.1 q ((hS.2.2.1 q).mp hA)
    rw [sn_en_i hkd (Or.inr (Or.inr rfl))] at hat
    exact va_zald (D := E.2.2.2.1) hx hb (hK.ty rfl) (sn_one hat) 0 0 rfl rfl (sn_in hi) hdg (kk H locs cells slots arr hS hV hc' hs hl)
theorem sn_laload (hx : p.tables.exec = Jvm.exec) (hb : c.code = cc) {i : Int32} {q : Nat} (hK : sn_K E s) (hq : pm_is V q 4 = true) (hi : pm_in i (pm_kd q).2 = true) (hdg : decode cc pc = .ok (.laload, 1)) (kk : sn_Go E p l e R s m args below meth c nL n0 t0 Q (pc + 1) ls (vl (V.2.2.2.2 q i.toNatClampNeg) :: st) V) : sn_Go E p l e R s m args below meth c nL n0 t0 Q pc ls (vi i :: vr q :: st) V := by
  intro H locs cells slots arr hS hV hc' hs hl
  obtain ⟨hA, hkd⟩ := sn_is hq
  show W p l e R s m args below meth c H locs cells slots Q (F0 m pc arr (.int i :: sn_rf E q :: st.map (sn_cv E)))
  rw [sn_rf_ne (sn_ne0 hS hA)]
  have hat := hS.2.2.2.1 q ((hS.2.2.1 q).mp hA)
  rw [sn_en_l hkd] at hat
  exact va_lald (D := E.2.2.2.1) hx hb (hK.ty rfl) (sn_one hat) 0 0 rfl rfl (sn_in hi) hdg (kk H locs cells slots arr hS hV hc' hs hl)
theorem sn_rfrw {N : Nat → Nat} {j : Nat} : va_rf (sn_rw E N j) = sn_rf E (N j) := by
  unfold sn_rw sn_rf
  cases Nat.beq (N j) 0 <;> rfl
theorem sn_aaload (hx : p.tables.exec = Jvm.exec) (hb : c.code = cc) {i : Int32} {q : Nat} (hK : sn_K E s) (hA : V.2.1 q = true) {t : Nat} {ty : FieldType} (hkd : (pm_kd q).1 = t) (ht : (Nat.ble 100 t || Nat.beq t 6) = true) (hty : sn_tty t = some ty) (hr : ty.isReference = true) (hi : pm_in i (pm_kd q).2 = true) (hdg : decode cc pc = .ok (.aaload, 1)) (kk : sn_Go E p l e R s m args below meth c nL n0 t0 Q (pc + 1) ls (vr (V.2.2.1 q i.toNatClampNeg) :: st) V) : sn_Go E p l e R s m args below meth c nL n0 t0 Q pc ls (vi i :: vr q :: st) V := by
  intro H locs cells slots arr hS hV hc' hs hl
  show W p l e R s m args below meth c H locs cells slots Q (F0 m pc arr (.int i :: sn_rf E q :: st.map (sn_cv E)))
  rw [sn_rf_ne (sn_ne0 hS hA)]
  have hat := hS.2.2.2.1 q ((hS.2.2.1 q).mp hA)
  rw [sn_en_q hkd ht] at hat
  have h2 := sn_in hi
  have hlt : i.toNatClampNeg < (pm_kd q).2 := Nat.not_le.mp fun z => h2 (Or.inr z)
  refine W.aald (v := sn_rf E (V.2.2.1 q i.toNatClampNeg)) hx hb (show H[sn_ad E q]? = some (arrV (E.2.2.2.2.1 t) (pm_kd q).2 (fun j => va_rf (sn_rw E (V.2.2.1 q) j))) from hat) ((hK.2 t ty hty).1 _ _) hr (fun z => by cases z) (by rw [arrV_size]; exact h2) ?_ rfl rfl hdg (kk H locs cells slots arr hS hV hc' hs hl)
  rw [arrV_read _ _ hlt, sn_rfrw]
theorem sn_alen (hx : p.tables.exec = Jvm.exec) (hb : c.code = cc) {q : Nat} (hK : sn_K E s) (hA : V.2.1 q = true) {t : Nat} {ty : FieldType} (hkd : (pm_kd q).1 = t) (hty : sn_tty t = some ty) (hdg : decode cc pc = .ok (.arraylength, 1)) (kk : sn_Go E p l e R s m args below meth c nL n0 t0 Q (pc + 1) ls (vi (Int32.ofNat (pm_kd q).2) :: st) V) : sn_Go E p l e R s m args below meth c nL n0 t0 Q pc ls (vr q :: st) V := by
  intro H locs cells slots arr hS hV hc' hs hl
  show W p l e R s m args below meth c H locs cells slots Q (F0 m pc arr (sn_rf E q :: st.map (sn_cv E)))
  rw [sn_rf_ne (sn_ne0 hS hA)]
  have hat := hS.2.2.2.1 q ((hS.2.2.1 q).mp hA)
  have hx2 : ∃ f, sn_en E V q = .inl (E.2.2.2.2.1 t, (pm_kd q).2, f) := by
    unfold sn_tty at hty
    split at hty
    · exact ⟨_, sn_en_i hkd (Or.inl rfl)⟩
    · exact ⟨_, sn_en_i hkd (Or.inr (Or.inl rfl))⟩
    · exact ⟨_, sn_en_i hkd (Or.inr (Or.inr rfl))⟩
    · exact ⟨_, sn_en_l hkd⟩
    · exact ⟨_, sn_en_q hkd rfl⟩
    · exact ⟨_, sn_en_q hkd rfl⟩
    · exact ⟨_, sn_en_q hkd rfl⟩
    · exact ⟨_, sn_en_q hkd rfl⟩
    · exact ⟨_, sn_en_q hkd rfl⟩
    · exact ⟨_, sn_en_q hkd rfl⟩
    · cases hty
  obtain ⟨f, hf⟩ := hx2
  rw [hf] at hat
  exact va_alen (D := E.2.2.2.1) hx hb (hK.ty hty) (sn_one hat) 0 0 rfl rfl rfl hdg (kk H locs cells slots arr hS hV hc' hs hl)
/-- writes -/
theorem sn_iastore (hx : p.tables.exec = Jvm.exec) (hb : c.code = cc) {i x : Int32} {q : Nat} (hK : sn_K E s) (hq : pm_is V q 1 = true) (hi : pm_in i (pm_kd q).2 = true) (hdg : decode cc pc = .ok (.iastore, 1)) (kk : sn_Go E p l e R s m args below meth c nL n0 t0 Q (pc + 1) ls st (pm_wI V q i.toNatClampNeg x)) : sn_Go E p l e R s m args below meth c nL n0 t0 Q pc ls (vi x :: vi i :: vr q :: st) V := by
  intro H locs cells slots arr hS hV hc' hs hl
  obtain ⟨hA, hkd⟩ := sn_is hq
  show W p l e R s m args below meth c H locs cells slots Q (F0 m pc arr (.int x :: .int i :: sn_rf E q :: st.map (sn_cv E)))
  rw [sn_rf_ne (sn_ne0 hS hA)]
  have hm := (hS.2.2.1 q).mp hA
  have hat := hS.2.2.2.1 q hm
  rw [sn_en_i hkd (Or.inl rfl)] at hat
  have hA2 : E.1 ≤ sn_ad E q := by rw [(sn_ad_lt hS hm).1]; omega
  refine W.iast hx hb (show H[sn_ad E q]? = some (arrV (E.2.2.2.2.1 1) (pm_kd q).2 (fun j => Value.int (V.2.2.2.1 q j))) from hat) ((hK.2 1 .int rfl).1 _ _) (fun z => by cases z) (by rw [arrV_size]; exact sn_in hi) rfl rfl hdg fun H1 e1 z1 o1 => ?_
  refine kk H1 _ cells slots arr ?_ (hV.put z1 o1 hA2) hc' hs hl
  refine hS.upd hm rfl rfl (fun a ha => ⟨rfl, sn_up_ne ha, rfl⟩) z1 o1 ?_ (fun h2 => by rw [hkd] at h2; cases h2)
  rw [sn_en_i hkd (Or.inl rfl)]
  show H1[sn_ad E q]? = some (arrV (E.2.2.2.2.1 1) (pm_kd q).2 (fun j => Value.int (pm_up V.2.2.2.1 q i.toNatClampNeg x q j)))
  rw [e1, arrV_store]
  congr 2
  funext j
  rw [sn_up_self]
  unfold updV
  split <;> rfl
theorem sn_fits_ib (x : Int32) : fits .byte (.int (pm_ib x)) = true := by
  show (decide (-128 ≤ x.toInt8.toInt32) && decide (x.toInt8.toInt32 ≤ 127)) = true
  rw [Bool.and_eq_true, decide_eq_true_eq, decide_eq_true_eq, Int32.le_iff_toInt_le, Int32.le_iff_toInt_le, Int8.toInt_toInt32]
  have h1 := Int8.le_toInt x.toInt8
  have h2 := Int8.toInt_lt x.toInt8
  constructor
  · show (-128 : Int) ≤ _
    omega
  · show _ ≤ (127 : Int)
    omega
theorem sn_bastore (hx : p.tables.exec = Jvm.exec) (hb : c.code = cc) {i x : Int32} {q : Nat} (hK : sn_K E s) (hq : pm_is V q 2 = true) (hi : pm_in i (pm_kd q).2 = true) (hdg : decode cc pc = .ok (.bastore, 1)) (kk : sn_Go E p l e R s m args below meth c nL n0 t0 Q (pc + 1) ls st (pm_wI V q i.toNatClampNeg (pm_ib x))) : sn_Go E p l e R s m args below meth c nL n0 t0 Q pc ls (vi x :: vi i :: vr q :: st) V := by
  intro H locs cells slots arr hS hV hc' hs hl
  obtain ⟨hA, hkd⟩ := sn_is hq
  show W p l e R s m args below meth c H locs cells slots Q (F0 m pc arr (.int x :: .int i :: sn_rf E q :: st.map (sn_cv E)))
  rw [sn_rf_ne (sn_ne0 hS hA)]
  have hm := (hS.2.2.1 q).mp hA
  have hat := hS.2.2.2.1 q hm
  rw [sn_en_i hkd (Or.inr (Or.inl rfl))] at hat
  have hA2 : E.1 ≤ sn_ad E q := by rw [(sn_ad_lt hS hm).1]; omega
  refine W.bast hx hb (show H[sn_ad E q]? = some (arrV (E.2.2.2.2.1 2) (pm_kd q).2 (fun j => Value.int (V.2.2.2.1 q j))) from hat) ((hK.2 2 .byte rfl).1 _ _) (fun z => by cases z) (by rw [arrV_size]; exact sn_in hi) rfl rfl hdg fun H1 e1 z1 o1 => ?_
  refine kk H1 _ cells slots arr ?_ (hV.put z1 o1 hA2) hc' hs hl
  refine hS.upd hm rfl rfl (fun a ha => ⟨rfl, sn_up_ne ha, rfl⟩) z1 o1 ?_ (fun h2 j => ?_)
  · rw [sn_en_i hkd (Or.inr (Or.inl rfl))]
    show H1[sn_ad E q]? = some (arrV (E.2.2.2.2.1 2) (pm_kd q).2 (fun j => Value.int (pm_up V.2.2.2.1 q i.toNatClampNeg (pm_ib x) q j)))
    rw [e1, arrV_store]
    congr 2
    funext j
    rw [sn_up_self]
    unfold updV
    split <;> rfl
  · show fits .byte (.int (pm_up V.2.2.2.1 q i.toNatClampNeg (pm_ib x) q j)) = true
    rw [sn_up_self]
    split
    · exact sn_fits_ib x
    · exact hS.2.2.2.2.2.1 q j h2
theorem sn_01 {x : Int32} (h : pm_01 x = true) : x = 0 ∨ x = 1 := by
  simp only [pm_01, Bool.or_eq_true, decide_eq_true_eq] at h
  exact h
theorem sn_zastore (hx : p.tables.exec = Jvm.exec) (hb : c.code = cc) {i x : Int32} {q : Nat} (hK : sn_K E s) (hq : pm_is V q 3 = true) (hi : pm_in i (pm_kd q).2 = true) (h01 : pm_01 x = true) (hdg : decode cc pc = .ok (.bastore, 1)) (kk : sn_Go E p l e R s m args below meth c nL n0 t0 Q (pc + 1) ls st (pm_wI V q i.toNatClampNeg x)) : sn_Go E p l e R s m args below meth c nL n0 t0 Q pc ls (vi x :: vi i :: vr q :: st) V := by
  intro H locs cells slots arr hS hV hc' hs hl
  obtain ⟨hA, hkd⟩ := sn_is hq
  show W p l e R s m args below meth c H locs cells slots Q (F0 m pc arr (.int x :: .int i :: sn_rf E q :: st.map (sn_cv E)))
  rw [sn_rf_ne (sn_ne0 hS hA)]
  have hm := (hS.2.2.1 q).mp hA
  have hat := hS.2.2.2.1 q hm
  rw [sn_en_i hkd (Or.inr (Or.inr rfl))] at hat
  have hA2 : E.1 ≤ sn_ad E q := by rw [(sn_ad_lt hS hm).1]; omega
  refine W.zast hx hb (show H[sn_ad E q]? = some (arrV (E.2.2.2.2.1 3) (pm_kd q).2 (fun j => Value.int (V.2.2.2.1 q j))) from hat) ((hK.2 3 .boolean rfl).1 _ _) (fun z => by cases z) (by rw [arrV_size]; exact sn_in hi) rfl rfl hdg fun H1 e1 z1 o1 => ?_
  refine kk H1 _ cells slots arr ?_ (hV.put z1 o1 hA2) hc' hs hl
  refine hS.upd hm rfl rfl (fun a ha => ⟨rfl, sn_up_ne ha, rfl⟩) z1 o1 ?_ (fun h2 => by rw [hkd] at h2; cases h2)
  rw [sn_en_i hkd (Or.inr (Or.inr rfl))]
  show H1[sn_ad E q]? = some (arrV (E.2.2.2.2.1 3) (pm_kd q).2 (fun j => Value.int (pm_up V.2.2.2.1 q i.toNatClampNeg x q j)))
  have hn : narrow .boolean (.int x) = .int x := by rcases sn_01 h01 with rfl | rfl <;> rfl
  rw [e1, arrV_store, hn]
  congr 2
  funext j
  rw [sn_up_self]
  unfold updV
  split <;> rfl
theorem sn_lastore (hx : p.tables.exec = Jvm.exec) (hb : c.code = cc) {i : Int32} {x : Int64} {q : Nat} (hK : sn_K E s) (hq : pm_is V q 4 = true) (hi : pm_in i (pm_kd q).2 = true) (hdg : decode cc pc = .ok (.lastore, 1)) (kk : sn_Go E p l e R s m args below meth c nL n0 t0 Q (pc + 1) ls st (pm_wL V q i.toNatClampNeg x)) : sn_Go E p l e R s m args below meth c nL n0 t0 Q pc ls (vl x :: vi i :: vr q :: st) V := by
  intro H locs cells slots arr hS hV hc' hs hl
  obtain ⟨hA, hkd⟩ := sn_is hq
  show W p l e R s m args below meth c H locs cells slots Q (F0 m pc arr (.long x :: .int i :: sn_rf E q :: st.map (sn_cv E)))
  rw [sn_rf_ne (sn_ne0 hS hA)]
  have hm := (hS.2.2.1 q).mp hA
  have hat := hS.2.2.2.1 q hm
  rw [sn_en_l hkd] at hat
  have hA2 : E.1 ≤ sn_ad E q := by rw [(sn_ad_lt hS hm).1]; omega
  refine W.last hx hb (show H[sn_ad E q]? = some (arrV (E.2.2.2.2.1 4) (pm_kd q).2 (fun j => Value.long (V.2.2.2.2 q j))) from hat) ((hK.2 4 .long rfl).1 _ _) (fun z => by cases z) (by rw [arrV_size]; exact sn_in hi) rfl rfl hdg fun H1 e1 z1 o1 => ?_
  refine kk H1 _ cells slots arr ?_ (hV.put z1 o1 hA2) hc' hs hl
  refine hS.upd hm rfl rfl (fun a ha => ⟨rfl, rfl, sn_up_ne ha⟩) z1 o1 ?_ (fun h2 => by rw [hkd] at h2; cases h2)
  rw [sn_en_l hkd]
  show H1[sn_ad E q]? = some (arrV (E.2.2.2.2.1 4) (pm_kd q).2 (fun j => Value.long (pm_up V.2.2.2.2 q i.toNatClampNeg x q j)))
  rw [e1, arrV_store]
  congr 2
  funext j
  rw [sn_up_self]
  unfold updV
  split <;> rfl
end SN3
