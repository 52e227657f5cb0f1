/-! SOUNDNESS, 5: what isn't made here; calls -/
section SN5
variable {E : sn_E} {p : Program} {l : Launch} {e : Env} {R : Room} {s : State} {m : MethodId} {args : Array Value} {below : List Frame} {meth : Method} {c : Code} {nL n0 t0 : Nat} {Q : State → Prop}
variable {cc : ByteArray} {pc : Nat} {ls : pm_L} {st : List pm_V} {V : pm_M}
abbrev sn_A (E : sn_E) : Nat → Prop := fun q => E.1 ≤ q
def sn_sn (k : Nat) : String := match k with
  | 0 => "SORT_OF"
  | 1 => "NUMBERS_OF"
  | 2 => "LINES_OF"
  | 3 => "LEAST"
  | _ => "MOST"
def sn_tx (k : Nat) : Nat × String := match k with
  | 0 => (136, "bellows")
  | 1 => (138, "strength")
  | 2 => (140, "pipe")
  | 3 => (142, "note")
  | 4 => (144, "tread")
  | 5 => (146, "rest")
  | _ => (148, "heard")
def sn_len : List Nat := [7, 8, 4, 4, 5, 4, 5]
def sn_byt : List (List Int32) := [[98, 101, 108, 108, 111, 119, 115], [115, 116, 114, 101, 110, 103, 116, 104], [112, 105, 112, 101], [110, 111, 116, 101], [116, 114, 101, 97, 100], [114, 101, 115, 116], [104, 101, 97, 114, 100]]
def sn_nest : List Cond := [.methodLinkNest RX9 51 ⟨RX7, "<init>", "()V"⟩ RX11, .methodLinkNest RX9 52 ⟨RX4, "<init>", "()V"⟩ RX11, .methodLinkNest RX11 22 ⟨RX6, "<init>", "()V"⟩ RX11, .methodLinkNest RX6 20 ⟨RX7, "<init>", "()V"⟩ RX11, .methodLinkNest RX6 27 ⟨RX4, "<init>", "()V"⟩ RX11, .methodLinkNest RX11 29 ⟨RX5, "<init>", "()V"⟩ RX11, .methodLinkNest RX11 36 ⟨RX8, "<init>", "()V"⟩ RX11, .methodLinkNest RX11 43 ⟨RX3, "<init>", "()V"⟩ RX11, .methodLinkNest RX11 50 ⟨RX2, "<init>", "()V"⟩ RX11, .methodLinkNest RX5 72 ⟨RX11, "firstRow", "([I)V"⟩ RX11, .methodLinkNest RX11 316 ⟨RX10, "<init>", "()V"⟩ RX11]
def sn_zs : List (String × String × String × Value) := [("java/lang/String", "COMPACT_STRINGS", "Z", .int 1)]
/-- rows of rows of ints can be made -/
def ao_I (U : State) : Prop := (Cond.arrayOver (.array .int)).before #[] U = true
theorem ao_I.of {A : Array Value} {U : State} (h : (Cond.arrayOver (.array .int)).before A U = true) : ao_I U := h
theorem ao_I.use {A : Array Value} {U : State} (h : ao_I U) : (Cond.arrayOver (.array .int)).before A U = true := h
theorem ao_I.moved {u U : State} (hvm : u.vm.Alike U.vm) (h : ao_I u) : ao_I U := Jvm.Stand.arrayOver_alikeB hvm h
/-- what stands outside the machine's memory -/
def sn_Xs (E : sn_E) (U : State) : Prop := va_X (E.2.2.1 900) E.2.2.2.2.2.1.1 E.2.2.2.2.2.1.2 U U.heap ∧ E.2.2.1 900 < E.1
  ∧ (∀ k, k < 5 → va_Z RX6 (sn_sn k) "[I" (.ref (E.2.2.1 (901 + k))) (sn_A E) U U.heap ∧ va_T .int (E.2.2.1 (901 + k)) (pm_sl (901 + k)) (fun j => .int (pm_sv (901 + k) j)) (sn_A E) U U.heap)
  ∧ (∀ k, k < 7 → vk_R RX6 (sn_tx k).1 (sn_tx k).2 (E.2.2.1 (911 + k)) U) ∧ vk_S 7 sn_len sn_byt (fun k => E.2.2.1 (911 + k)) E.2.2.2.2.2.2 (sn_A E) U U.heap
  ∧ (∀ C ∈ [RX0, RX4, RX7, RX9, RX10], va_AO C U) ∧ (∀ w ∈ sn_nest, va_Nw w U) ∧ (∀ z ∈ sn_zs, va_Z z.1 z.2.1 z.2.2.1 z.2.2.2 (sn_A E) U U.heap) ∧ va_Zq "jdk/internal/util/Preconditions" "SIOOBE_FORMATTER" "Ljava/util/function/BiFunction;" (sn_A E) U U.heap ∧ ao_I U
theorem sn_nest_warm {U : State} (hW : s.WarmedH U.vm) : ∀ w ∈ sn_nest, va_Nw w s → va_Nw w U := by
  intro w hw
  simp only [sn_nest, List.mem_cons, List.not_mem_nil, or_false] at hw
  rcases hw with rfl | rfl | rfl | rfl | rfl | rfl | rfl | rfl | rfl | rfl | rfl <;> exact fun h => h.warmM hW
theorem sn_nest_same {U : State} (hv : s.vm = U.vm) : ∀ w ∈ sn_nest, va_Nw w s → va_Nw w U := by
  intro w hw
  simp only [sn_nest, List.mem_cons, List.not_mem_nil, or_false] at hw
  rcases hw with rfl | rfl | rfl | rfl | rfl | rfl | rfl | rfl | rfl | rfl | rfl <;> exact fun h => h.same rfl hv
theorem sn_Xs.warm {U : State} {locs : List Loc} (h : sn_Xs E s) (hz : E.1 ≤ s.heap.size) (hW : s.WarmedH U.vm) (hV : va_S (sn_A E) s.heap U.heap locs) : sn_Xs E U := by
  obtain ⟨h1, h2, h3, h4, h5, h6, h7, h8, h9, h10⟩ := h
  have ha := hW.alike
  refine ⟨(h1.moved ha).kept (hV.2.1 _ (by omega) (by show ¬ E.1 ≤ _; omega)), h2, fun k hk => ⟨((h3 k hk).1.moved ha).kept hV.2.1, ((h3 k hk).2.moved ha).kept hV.2.1⟩, fun k hk => (h4 k hk).warm hW, (h5.moved ha).kept hV.2.1, fun C hC => (h6 C hC).moved ha, fun w hw => sn_nest_warm hW w hw (h7 w hw), fun z hz => ((h8 z hz).moved ha).kept hV.2.1, (h9.moved ha).kept hV.2.1, h10.moved ha⟩
theorem sn_Xs.same {U : State} (h : sn_Xs E s) (hv : s.vm = U.vm) (hh : U.heap = s.heap) : sn_Xs E U := by
  obtain ⟨h1, h2, h3, h4, h5, h6, h7, h8, h9, h10⟩ := h
  have ha : s.vm.Alike U.vm := by rw [hv]; exact Vm.Alike.refl U.vm
  unfold sn_Xs
  rw [hh]
  exact ⟨h1.moved ha, h2, fun k hk => ⟨(h3 k hk).1.moved ha, (h3 k hk).2.moved ha⟩, fun k hk => (h4 k hk).same hv.symm, h5.moved ha, fun C hC => (h6 C hC).moved ha, fun w hw => sn_nest_same hv w hw (h7 w hw), fun z hz => (h8 z hz).moved ha, h9.moved ha, h10.moved ha⟩
theorem sn_anew (hx : p.tables.exec = Jvm.exec) (hb : c.code = cc) {own C : String} {index ci q : Nat} {n : Int32} (hown : s.vm.findClass own = some m.cls) (hclink : (Cond.classLink own index C).before args s = true) (hover : va_AO C s) (hK : sn_K E s) (hty : sn_tty (100 + ci) = some (.object C)) (hn : 0 ≤ n) (hA : V.2.1 q = false) (hq1 : 1 ≤ q) (hq2 : q ≤ 899) (hkd : (pm_kd q).1 = 100 + ci) (hN : (pm_kd q).2 = n.toNatClampNeg) (hbytes : n.toNatClampNeg ≤ 60000000) (hp : V.1 ++ [q] <+: E.2.1) (hcells : V.1.length + 1 ≤ n0 + R.cells) (hslots : sn_tt V.1 + n.toNatClampNeg ≤ t0 + R.slots)
    (hdg : decode cc pc = .ok (.anewarray index, 3)) (kk : sn_Go E p l e R s m args below meth c nL n0 t0 Q (pc + 3) ls (vr q :: st) (V.1 ++ [q], pm_set V.2.1 q, V.2.2)) : sn_Go E p l e R s m args below meth c nL n0 t0 Q pc ls (vi n :: st) V := by
  intro H locs cells slots arr hS hV hc' hs hl
  show W p l e R s m args below meth c H locs cells slots Q (F0 m pc arr (.int n :: st.map (sn_cv E)))
  refine W.anew hx hb hown hclink (va_AO.use hover) rfl hdg rfl (Int32.not_lt.mpr hn) (by omega) (by omega) (by omega) fun cA kA comp f1 f2 f3 f4 => ?_
  generalize hH1 : H.push ({ cls := cA, slots := Array.replicate n.toNatClampNeg .null, vm := .none } : Cell) = H1
  have z1 : H1.size = H.size + 1 := by rw [← hH1, Array.size_push]
  have e1 : H1[H.size]? = some (arrV cA n.toNatClampNeg (fun _ => .null)) := by rw [← hH1, Array.getElem?_push_size, ← arrV_new]
  have o1 : ∀ q : Nat, q < H.size → H1[q]? = H[q]? := fun q hq => by rw [← hH1, Array.getElem?_push, if_neg (Nat.ne_of_lt hq)]
  have hcA : cA = E.2.2.2.2.1 (100 + ci) := by
    obtain ⟨_, _, -, -, -, h4⟩ := (hK.2 _ _ hty).2
    exact Option.some.inj (f1.symm.trans h4)
  have htg : (Nat.ble 100 (100 + ci) || Nat.beq (100 + ci) 6) = true := by
    rw [Nat.ble_eq_true_of_le (by omega : 100 ≤ 100 + ci)]
    rfl
  have hfr := hS.2.2.2.2.1 q hA
  have hat : va_at E.2.2.2.1 vwCl (H.size, sn_en E V q) H1 := by
    rw [sn_en_q hkd htg]
    show H1[H.size]? = some (arrV (E.2.2.2.2.1 (100 + ci)) (pm_kd q).2 (fun j => va_rf (sn_rw E (V.2.2.1 q) j)))
    rw [e1, hcA, hN]
    congr 2
    funext j
    rw [sn_rfrw, (hfr j).2.2]
    rfl
  obtain ⟨hS1, had⟩ := hS.new hA hq1 hq2 hp z1 o1 hat
  have h9 := kk H1 locs (cells + 1) (slots + n.toNatClampNeg) arr hS1 ⟨Nat.le_trans hV.1 (by omega), fun x g1 g2 => (o1 x (Nat.lt_of_lt_of_le g1 hV.1)).trans (hV.2.1 x g1 g2), hV.2.2⟩ (by show cells + 1 + n0 = (V.1 ++ [q]).length; rw [List.length_append]; show _ = _ + 1; omega) (by show _ = sn_tt (V.1 ++ [q]); rw [sn_tt_app, hN]; omega) hl
  rw [List.map_cons] at h9
  change W p l e R s m args below meth c H1 locs (cells + 1) (slots + n.toNatClampNeg) Q (F0 m (pc + 3) arr (sn_rf E q :: st.map (sn_cv E))) at h9
  rw [sn_rf_ne (show q ≠ 0 by omega), had] at h9
  exact h9
theorem sn_ad9 {q : Nat} (h : 900 ≤ q) : sn_ad E q = E.2.2.1 q := by
  unfold sn_ad
  rw [Nat.ble_eq_true_of_le h]
  rfl
theorem sn_rf9 {q : Nat} (h : 900 ≤ q) : sn_rf E q = .ref (E.2.2.1 q) := by rw [sn_rf_ne (by omega), sn_ad9 h]
theorem sn_gets (hx : p.tables.exec = Jvm.exec) (hb : c.code = cc) {own : String} {index k : Nat} (hXs : sn_Xs E s) (hk : k < 5) (hown : s.vm.findClass own = some m.cls) (hlink : (Cond.fieldLink own index RX6 (sn_sn k) "[I").before args s = true) (hdg : decode cc pc = .ok (.getstatic index, 3)) (kk : sn_Go E p l e R s m args below meth c nL n0 t0 Q (pc + 3) ls (vr (901 + k) :: st) V) : sn_Go E p l e R s m args below meth c nL n0 t0 Q pc ls st V := by
  intro H locs cells slots arr hS hV hc' hs hl
  have h9 := kk H locs cells slots arr hS hV hc' hs hl
  rw [List.map_cons] at h9
  change W p l e R s m args below meth c H locs cells slots Q (F0 m (pc + 3) arr (sn_rf E (901 + k) :: st.map (sn_cv E))) at h9
  rw [sn_rf9 (by omega)] at h9
  exact va_gets hx hb (hXs.2.2.1 k hk).1 hV hown hlink (fun _ h => h) hdg h9
theorem sn_sload (hx : p.tables.exec = Jvm.exec) (hb : c.code = cc) {i : Int32} {k : Nat} (hXs : sn_Xs E s) (hk : k < 5) (hi : pm_in i (pm_sl (901 + k)) = true) (hdg : decode cc pc = .ok (.iaload, 1)) (kk : sn_Go E p l e R s m args below meth c nL n0 t0 Q (pc + 1) ls (vi (pm_sv (901 + k) i.toNatClampNeg) :: st) V) : sn_Go E p l e R s m args below meth c nL n0 t0 Q pc ls (vi i :: vr (901 + k) :: st) V := by
  intro H locs cells slots arr hS hV hc' hs hl
  show W p l e R s m args below meth c H locs cells slots Q (F0 m pc arr (.int i :: sn_rf E (901 + k) :: st.map (sn_cv E)))
  rw [sn_rf9 (by omega)]
  exact va_ti hx hb (hXs.2.2.1 k hk).2 hV (sn_in hi) rfl hdg (kk H locs cells slots arr hS hV hc' hs hl)
theorem sn_xload (hx : p.tables.exec = Jvm.exec) (hb : c.code = cc) {i : Int32} (hXs : sn_Xs E s) (hz : E.1 ≤ s.heap.size) (hi : pm_in i E.2.2.2.2.2.1.1 = true) (hdg : decode cc pc = .ok (.iaload, 1)) (kk : sn_Go E p l e R s m args below meth c nL n0 t0 Q (pc + 1) ls (vi (E.2.2.2.2.2.1.2 i.toNatClampNeg) :: st) V) : sn_Go E p l e R s m args below meth c nL n0 t0 Q pc ls (vi i :: vr 900 :: st) V := by
  intro H locs cells slots arr hS hV hc' hs hl
  show W p l e R s m args below meth c H locs cells slots Q (F0 m pc arr (.int i :: sn_rf E 900 :: st.map (sn_cv E)))
  rw [sn_rf9 (by omega)]
  have h2 := hXs.2.1
  exact va_sld hx hb hXs.1 (by omega) (by show ¬ E.1 ≤ _; omega) hV (sn_in hi) hdg (kk H locs cells slots arr hS hV hc' hs hl)
theorem sn_xlen (hx : p.tables.exec = Jvm.exec) (hb : c.code = cc) (hXs : sn_Xs E s) (hz : E.1 ≤ s.heap.size) (hdg : decode cc pc = .ok (.arraylength, 1)) (kk : sn_Go E p l e R s m args below meth c nL n0 t0 Q (pc + 1) ls (vi (Int32.ofNat E.2.2.2.2.2.1.1) :: st) V) : sn_Go E p l e R s m args below meth c nL n0 t0 Q pc ls (vr 900 :: st) V := by
  intro H locs cells slots arr hS hV hc' hs hl
  show W p l e R s m args below meth c H locs cells slots Q (F0 m pc arr (sn_rf E 900 :: st.map (sn_cv E)))
  rw [sn_rf9 (by omega)]
  have h2 := hXs.2.1
  exact va_slen hx hb hXs.1 (by omega) (by show ¬ E.1 ≤ _; omega) hV hdg (kk H locs cells slots arr hS hV hc' hs hl)
theorem sn_ldcS (hx : p.tables.exec = Jvm.exec) (hb : c.code = cc) {index k : Nat} (hXs : sn_Xs E s) (hk : k < 7) (hown : s.vm.findClass RX6 = some m.cls) (hi : index = (sn_tx k).1) (hdg : decode cc pc = .ok (.ldc index, 2)) (kk : sn_Go E p l e R s m args below meth c nL n0 t0 Q (pc + 2) ls (vr (911 + k) :: st) V) : sn_Go E p l e R s m args below meth c nL n0 t0 Q pc ls st V := by
  intro H locs cells slots arr hS hV hc' hs hl
  have h9 := kk H locs cells slots arr hS hV hc' hs hl
  rw [List.map_cons] at h9
  change W p l e R s m args below meth c H locs cells slots Q (F0 m (pc + 2) arr (sn_rf E (911 + k) :: st.map (sn_cv E))) at h9
  rw [sn_rf9 (by omega)] at h9
  subst hi
  exact va_ldcS hx hb hown (hXs.2.2.2.1 k hk) hdg h9
theorem sn_wd {st : List pm_V} : ((st.map (sn_cv E)).map fun v => v.category).sum = pm_wd st := by
  induction st with
  | nil => rfl
  | cons v t ih =>
    rw [List.map_cons, List.map_cons, List.sum_cons, ih]
    rcases v with x | x | q
    · rfl
    · rfl
    · show (sn_rf E q).category + pm_wd t = 1 + pm_wd t
      have : (sn_rf E q).category = 1 := sn_cat_r
      omega
theorem sn_objInit (hx : p.tables.exec = Jvm.exec) (hb : c.code = cc) {own : String} {idx q : Nat} (hown : s.vm.findClass own = some m.cls) (hml : c.maxLocals = nL) (hlink : (Cond.methodLink own idx Lib.objectInit).before args s = true) (hinst : (Cond.instanceMethod Lib.objectInit).before args s = true) (hcode : (Cond.code Lib.objectInit ⟨#[0xb1]⟩ 1 none).before args s = true) (hq : q ≠ 0) (hw : pm_wd st ≤ 8) (hf : 1 ≤ R.frames) (hlo : 20 ≤ R.locals) (hdg : decode cc pc = .ok (.invokespecial idx, 3)) (kk : sn_Go E p l e R s m args below meth c nL n0 t0 Q (pc + 3) ls st V) : sn_Go E p l e R s m args below meth c nL n0 t0 Q pc ls (vr q :: st) V := by
  intro H locs cells slots arr hS hV hc' hs hl
  show W p l e R s m args below meth c H locs cells slots Q (F0 m pc arr (sn_rf E q :: st.map (sn_cv E)))
  rw [sn_rf_ne hq]
  refine W.objInit hx hb hown hlink hinst hcode rfl (by rw [hml]; exact hl.1) rfl hdg hf ?_ (kk H locs cells slots arr hS hV hc' hs hl)
  have := sn_wd (E := E) (st := st)
  show 2 * 0 + _ + 12 ≤ _
  omega
/-- a size that the machine's own book gives -/
theorem sn_size {H : Heap} {locs : List Loc} {cells slots : Nat} {g : JFrame} (k : H.size ≤ s.heap.size + cells → W p l e R s m args below meth c H locs cells slots Q g) : W p l e R s m args below meth c H locs cells slots Q g := fun T hT X => k (by rw [← hT]; exact X.heapSize) T hT X
def sn_wl (E : sn_E) (V : pm_M) : va_W := V.1.map (fun a => (sn_ad E a, sn_en E V a))
theorem sn_wl_get {a : Nat} (ha : a ∈ V.1) : (sn_wl E V)[sn_ix a V.1]? = some (sn_ad E a, sn_en E V a) := by
  unfold sn_wl
  rw [List.getElem?_map, sn_ix_get ha]
  rfl
theorem sn_wl_P {H : Heap} (hS : sn_S E V H) : va_P E.2.2.2.1 vwCl (sn_wl E V) H := by
  intro k q hk
  unfold sn_wl at hk
  rw [List.getElem?_map] at hk
  cases ha : V.1[k]? with
  | none => rw [ha] at hk; cases hk
  | some a =>
    rw [ha] at hk
    cases hk
    exact hS.2.2.2.1 a (List.mem_of_getElem? ha)
theorem sn_wl_D {H : Heap} (hS : sn_S E V H) : va_D (sn_A E) (sn_wl E V) := by
  refine ⟨fun i j x y hi hj hxy => ?_, fun k q hk => ?_⟩
  · unfold sn_wl at hi hj
    rw [List.getElem?_map] at hi hj
    cases ha : V.1[i]? with
    | none => rw [ha] at hi; cases hi
    | some a =>
      cases hb : V.1[j]? with
      | none => rw [hb] at hj; cases hj
      | some b =>
        rw [ha] at hi
        rw [hb] at hj
        cases hi
        cases hj
        have e := sn_ad_inj hS (List.mem_of_getElem? ha) (List.mem_of_getElem? hb) hxy
        subst e
        have hnd := hS.2.2.2.2.2.2.2
        exact (List.getElem?_inj (List.getElem?_eq_some_iff.mp ha).1 hnd).mp (ha.trans hb.symm)
  · unfold sn_wl at hk
    rw [List.getElem?_map] at hk
    cases ha : V.1[k]? with
    | none => rw [ha] at hk; cases hk
    | some a =>
      rw [ha] at hk
      cases hk
      show E.1 ≤ sn_ad E a
      rw [(sn_ad_lt hS (List.mem_of_getElem? ha)).1]
      omega
theorem sn_cpfit {f g : Nat → Int32} {sp dp n j : Nat} {ty : FieldType} (hf : ∀ j, fits ty (.int (f j)) = true) (hg : ∀ j, fits ty (.int (g j)) = true) : fits ty (.int (va_cpy f g sp dp n j)) = true := by
  unfold va_cpy
  split
  · exact hf _
  · exact hg _
theorem sn_acopy (hx : p.tables.exec = Jvm.exec) (hb : c.code = cc) {own : String} {index a d t : Nat} {sp dp n : Int32} (hml : c.maxLocals = nL) (hown : s.vm.findClass own = some m.cls) (hlink : (Cond.methodLink own index arraycopyName).before args s = true) (hnat : (Cond.native arraycopyName).before args s = true) (hstat : (Cond.static arraycopyName).before args s = true) (hini : (Cond.initialized "java/lang/System").before args s = true) (hK : sn_K E s) (hz : s.heap.size = E.1 + n0)
    (hA : V.2.1 a = true) (hA2 : V.2.1 d = true) (hk1 : (pm_kd a).1 = t) (hk2 : (pm_kd d).1 = t) (ht : t = 1 ∨ t = 2) (h1 : 0 ≤ sp) (h2 : 0 ≤ dp) (h3 : 0 ≤ n) (h4 : sp.toNatClampNeg + n.toNatClampNeg ≤ (pm_kd a).2) (h5 : dp.toNatClampNeg + n.toNatClampNeg ≤ (pm_kd d).2) (hw : pm_wd st ≤ 8) (hf : 1 ≤ R.frames) (hlo : 8 + (nativeFrameWords "java/lang/System" "arraycopy" 5 + 11) ≤ R.locals)
    (hdg : decode cc pc = .ok (.invokestatic index, 3)) (kk : sn_Go E p l e R s m args below meth c nL n0 t0 Q (pc + 3) ls st (V.1, V.2.1, V.2.2.1, pm_ups V.2.2.2.1 d (va_cpy (V.2.2.2.1 a) (V.2.2.2.1 d) sp.toNatClampNeg dp.toNatClampNeg n.toNatClampNeg), V.2.2.2.2)) : sn_Go E p l e R s m args below meth c nL n0 t0 Q pc ls (vi n :: vi dp :: vr d :: vi sp :: vr a :: st) V := by
  intro H locs cells slots arr hS hV hc' hs hl
  show W p l e R s m args below meth c H locs cells slots Q (F0 m pc arr (.int n :: .int dp :: sn_rf E d :: .int sp :: sn_rf E a :: st.map (sn_cv E)))
  rw [sn_rf_ne (sn_ne0 hS hA), sn_rf_ne (sn_ne0 hS hA2)]
  have hma := (hS.2.2.1 a).mp hA
  have hmd := (hS.2.2.1 d).mp hA2
  have hwd := sn_wd (E := E) (st := st)
  have ga := sn_wl_get (E := E) hma
  have gd := sn_wl_get (E := E) hmd
  have ht3 : t = 1 ∨ t = 2 ∨ t = 3 := by rcases ht with h | h; exact Or.inl h; exact Or.inr (Or.inl h)
  rw [sn_en_i hk1 ht3] at ga
  rw [sn_en_i hk2 ht3] at gd
  have hty : ∃ ty, sn_tty t = some ty ∧ refKind ty = false ∧ ∀ i, fits ty (.int (V.2.2.2.1 a i)) = true := by
    rcases ht with rfl | rfl
    · exact ⟨.int, rfl, rfl, fun _ => rfl⟩
    · exact ⟨.byte, rfl, rfl, fun i => hS.2.2.2.2.2.1 a i hk1⟩
  obtain ⟨ty, ht1, ht2, hfit⟩ := hty
  refine va_copyi (D := E.2.2.2.1) (H0 := H) (A := sn_A E) hx hb (hml.trans hl.1.symm) hown hlink hnat hstat hini (hK.ty ht1) (sn_wl_P hS) (sn_wl_D hS) ⟨Nat.le_refl _, fun _ _ _ => rfl, hV.2.2⟩ (sn_ix a V.1) (sn_ix d V.1) 0 0 ga gd rfl rfl ht2 (Int32.not_lt.mpr h1) (Int32.not_lt.mpr h2) (Int32.not_lt.mpr h3) h4 h5 (fun i _ => hfit _) hf (by omega) hdg fun H1 locs1 hP1 hD1 hV1 => ?_
  refine sn_size fun hup => ?_
  have hsz : H1.size = H.size := by
    have := hV1.1
    have := hS.1
    omega
  refine kk H1 locs1 cells slots arr ⟨by rw [hsz]; exact hS.1, hS.2.1, hS.2.2.1, fun x hxm => ?_, fun x hxA => ?_, fun x j hk => ?_, hS.2.2.2.2.2.2.1, hS.2.2.2.2.2.2.2⟩ ⟨by rw [hsz]; exact hV.1, fun x g1 g2 => (hV1.2.1 x (Nat.lt_of_lt_of_le g1 hV.1) g2).trans (hV.2.1 x g1 g2), hV1.2.2⟩ hc' hs hl
  · by_cases hxd : x = d
    · subst hxd
      have hh := hP1 (sn_ix x V.1) _ (List.getElem?_set_self (List.getElem?_eq_some_iff.mp gd).1)
      rw [sn_en_i hk2 ht3]
      show va_at _ _ (sn_ad E x, .inl (E.2.2.2.2.1 t, (pm_kd x).2, .inl (pm_ups V.2.2.2.1 x _ x))) H1
      have e : pm_ups V.2.2.2.1 x (va_cpy (V.2.2.2.1 a) (V.2.2.2.1 x) sp.toNatClampNeg dp.toNatClampNeg n.toNatClampNeg) x = va_cpy (V.2.2.2.1 a) (V.2.2.2.1 x) sp.toNatClampNeg dp.toNatClampNeg n.toNatClampNeg := by
        funext k
        simp [pm_ups]
      rw [e]
      exact hh
    · have hne : sn_ix d V.1 ≠ sn_ix x V.1 := fun z => by
        have q1 := sn_ix_get hxm
        have q2 := sn_ix_get hmd
        rw [z] at q2
        exact hxd (Option.some.inj (q1.symm.trans q2))
      have hh := hP1 (sn_ix x V.1) (sn_ad E x, sn_en E V x) (by rw [List.getElem?_set_ne hne]; exact sn_wl_get hxm)
      rw [sn_en_congr (V := V) (V' := (V.1, V.2.1, V.2.2.1, pm_ups V.2.2.2.1 d (va_cpy (V.2.2.2.1 a) (V.2.2.2.1 d) sp.toNatClampNeg dp.toNatClampNeg n.toNatClampNeg), V.2.2.2.2)) rfl (by funext k; simp [pm_ups, hxd]) rfl]
      exact hh
  · have hxd : x ≠ d := fun z => by
      rw [z] at hxA
      have hxA' : V.2.1 d = false := hxA
      rw [hA2] at hxA'
      cases hxA'
    intro j
    have := hS.2.2.2.2.1 x hxA j
    refine ⟨?_, this.2.1, this.2.2⟩
    show pm_ups V.2.2.2.1 d _ x j = 0
    simp [pm_ups, hxd]
    exact this.1
  · show fits .byte (.int (pm_ups V.2.2.2.1 d _ x j)) = true
    by_cases hxd : x = d
    · subst hxd
      have ht' : t = 2 := by rw [← hk2]; exact hk
      subst ht'
      simp only [pm_ups, if_true]
      exact sn_cpfit (fun j => hS.2.2.2.2.2.1 a j hk1) (fun j => hS.2.2.2.2.2.1 x j hk)
    · simp only [pm_ups, if_neg hxd]
      exact hS.2.2.2.2.2.1 x j hk
end SN5
