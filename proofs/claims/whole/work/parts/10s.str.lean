/-! SOUNDNESS: String.length and String.charAt of the seven texts: printed by wip/whole/gens.py -/
def ss_ws (y : MethodName) (cd : ByteArray) (mx : Nat) (rt : Option FieldType) : List Cond := .code y cd mx rt :: sn_GT
def ss_rm (k : Nat) : Room := { frames := k, cells := 0, slots := 0, locals := 64 * k }
def ss_Met (E : sn_E) (l : Launch) (y : MethodName) (cd : ByteArray) (mx : Nat) (rt : Option FieldType) (k : Nat) (as : List Value) (V : pm_M) (r : pm_R) : Prop := Met l y (ss_ws y cd mx rt) (ss_rm k) (va_Pc as (sn_W E V)) (sn_Q E r) 0 0 (sn_A E)
theorem ss_blind {E : sn_E} {V : pm_M} (as : List Value) : FrameBlind (va_Pc as (sn_W E V)) := by
  intro a U g mk h
  obtain ⟨h1, h2, h3, h4⟩ := h
  exact ⟨h1, h2, h3.moved (u := U) (U := U.calling g mk a) (Vm.Alike.refl U.vm), h4.same (U := U.calling g mk a) rfl rfl⟩
theorem ss_pre {E : sn_E} {V : pm_M} {s : State} {as : List Value} {H : Heap} {locs : List Loc} (hS : sn_S E V H) (hV : va_S (sn_A E) s.heap H locs) (hz : E.1 ≤ s.heap.size) (hK : sn_K E s) (hXs : sn_Xs E s) : ∀ U : State, U.heap = H → s.WarmedH U.vm → va_Pc as (sn_W E V) as.toArray U := by
  intro U hU hW
  subst hU
  exact ⟨rfl, hS, hK.moved hW.alike, hXs.warm hz hW hV⟩
theorem ss_good {y : MethodName} {cd : ByteArray} {mx : Nat} {rt : Option FieldType} (h : Cond.code y cd mx rt ∈ sn_GT) : GoodIn sn_GT (ss_ws y cd mx rt) := by
  intro w hw
  rcases List.mem_cons.mp hw with rfl | hw
  · exact ⟨h, sn_GT_good h⟩
  · exact ⟨hw, sn_GT_good hw⟩
theorem ss_cb {R : Room} {s : State} {args : Array Value} {own : String} {index : Nat} {y : MethodName} {cd : ByteArray} {mx k n : Nat} {rt : Option FieldType} (hts : ∀ w ∈ sn_GT, w.before args s = true) (hlink : Cond.methodLink own index y ∈ sn_GT) (hcode : Cond.code y cd mx rt ∈ sn_GT) (hini : Cond.initialized y.cls ∈ sn_GT) (hy : y.cls ≠ "java/lang/invoke/MethodHandle" ∧ y.cls ≠ "java/lang/invoke/VarHandle" ∧ (parseMethodDescriptor y.desc).map (fun d => d.parameters.length) = some n) (hmx : mx ≤ 40) (hR : k + 1 ≤ R.frames ∧ 64 * (k + 1) ≤ R.locals) : CallB R s args own index y cd mx rt (ss_ws y cd mx rt) (ss_rm k) 0 0 n :=
  callB_of n hts (ss_good hcode) rfl rfl rfl (hts _ hini) (hts _ hlink) hy ⟨hR.1, by show 8 + (mx + 11) + 64 * k ≤ _; omega⟩
abbrev ss_y_len : MethodName := ⟨"java/lang/String", "length", "()I"⟩
theorem ss_c_len : Cond.code ss_y_len prog_17_method_54_code 1 (some .int) ∈ sn_GT := sn_GT_of (i := 598) (by decide +kernel) rfl
theorem ss_i_len : Cond.initialized (ss_y_len).cls ∈ sn_GT := sn_GT_of (i := 121) (by decide +kernel) rfl
theorem ss_k_len : (ss_y_len).cls ≠ "java/lang/invoke/MethodHandle" ∧ (ss_y_len).cls ≠ "java/lang/invoke/VarHandle" ∧ (parseMethodDescriptor (ss_y_len).desc).map (fun d => d.parameters.length) = some 0 := ⟨by decide +kernel, by decide +kernel, by decide +kernel⟩
theorem ss_f_len : plainFor ss_y_len = true := by decide +kernel
abbrev ss_y_cod : MethodName := ⟨"java/lang/String", "coder", "()B"⟩
theorem ss_c_cod : Cond.code ss_y_cod prog_17_method_152_code 1 (some .byte) ∈ sn_GT := sn_GT_of (i := 602) (by decide +kernel) rfl
theorem ss_i_cod : Cond.initialized (ss_y_cod).cls ∈ sn_GT := sn_GT_of (i := 121) (by decide +kernel) rfl
theorem ss_k_cod : (ss_y_cod).cls ≠ "java/lang/invoke/MethodHandle" ∧ (ss_y_cod).cls ≠ "java/lang/invoke/VarHandle" ∧ (parseMethodDescriptor (ss_y_cod).desc).map (fun d => d.parameters.length) = some 0 := ⟨by decide +kernel, by decide +kernel, by decide +kernel⟩
theorem ss_f_cod : plainFor ss_y_cod = true := by decide +kernel
abbrev ss_y_cha : MethodName := ⟨"java/lang/String", "charAt", "(I)C"⟩
theorem ss_c_cha : Cond.code ss_y_cha prog_17_method_56_code 2 (some .char) ∈ sn_GT := sn_GT_of (i := 608) (by decide +kernel) rfl
theorem ss_i_cha : Cond.initialized (ss_y_cha).cls ∈ sn_GT := sn_GT_of (i := 121) (by decide +kernel) rfl
theorem ss_k_cha : (ss_y_cha).cls ≠ "java/lang/invoke/MethodHandle" ∧ (ss_y_cha).cls ≠ "java/lang/invoke/VarHandle" ∧ (parseMethodDescriptor (ss_y_cha).desc).map (fun d => d.parameters.length) = some 1 := ⟨by decide +kernel, by decide +kernel, by decide +kernel⟩
theorem ss_f_cha : plainFor ss_y_cha = true := by decide +kernel
abbrev ss_y_isl : MethodName := ⟨"java/lang/String", "isLatin1", "()Z"⟩
theorem ss_c_isl : Cond.code ss_y_isl prog_17_method_154_code 1 (some .boolean) ∈ sn_GT := sn_GT_of (i := 612) (by decide +kernel) rfl
theorem ss_i_isl : Cond.initialized (ss_y_isl).cls ∈ sn_GT := sn_GT_of (i := 121) (by decide +kernel) rfl
theorem ss_k_isl : (ss_y_isl).cls ≠ "java/lang/invoke/MethodHandle" ∧ (ss_y_isl).cls ≠ "java/lang/invoke/VarHandle" ∧ (parseMethodDescriptor (ss_y_isl).desc).map (fun d => d.parameters.length) = some 0 := ⟨by decide +kernel, by decide +kernel, by decide +kernel⟩
theorem ss_f_isl : plainFor ss_y_isl = true := by decide +kernel
abbrev ss_y_lca : MethodName := ⟨"java/lang/StringLatin1", "charAt", "([BI)C"⟩
theorem ss_c_lca : Cond.code ss_y_lca prog_18_method_2_code 2 (some .char) ∈ sn_GT := sn_GT_of (i := 615) (by decide +kernel) rfl
theorem ss_i_lca : Cond.initialized (ss_y_lca).cls ∈ sn_GT := sn_GT_of (i := 122) (by decide +kernel) rfl
theorem ss_k_lca : (ss_y_lca).cls ≠ "java/lang/invoke/MethodHandle" ∧ (ss_y_lca).cls ≠ "java/lang/invoke/VarHandle" ∧ (parseMethodDescriptor (ss_y_lca).desc).map (fun d => d.parameters.length) = some 2 := ⟨by decide +kernel, by decide +kernel, by decide +kernel⟩
theorem ss_f_lca : plainFor ss_y_lca = true := by decide +kernel
abbrev ss_y_chk : MethodName := ⟨"java/lang/String", "checkIndex", "(II)V"⟩
theorem ss_c_chk : Cond.code ss_y_chk prog_17_method_155_code 2 (none) ∈ sn_GT := sn_GT_of (i := 618) (by decide +kernel) rfl
theorem ss_i_chk : Cond.initialized (ss_y_chk).cls ∈ sn_GT := sn_GT_of (i := 121) (by decide +kernel) rfl
theorem ss_k_chk : (ss_y_chk).cls ≠ "java/lang/invoke/MethodHandle" ∧ (ss_y_chk).cls ≠ "java/lang/invoke/VarHandle" ∧ (parseMethodDescriptor (ss_y_chk).desc).map (fun d => d.parameters.length) = some 2 := ⟨by decide +kernel, by decide +kernel, by decide +kernel⟩
theorem ss_f_chk : plainFor ss_y_chk = true := by decide +kernel
abbrev ss_y_pck : MethodName := ⟨"jdk/internal/util/Preconditions", "checkIndex", "(IILjava/util/function/BiFunction;)I"⟩
theorem ss_c_pck : Cond.code ss_y_pck prog_21_method_11_code 3 (some .int) ∈ sn_GT := sn_GT_of (i := 623) (by decide +kernel) rfl
theorem ss_i_pck : Cond.initialized (ss_y_pck).cls ∈ sn_GT := sn_GT_of (i := 123) (by decide +kernel) rfl
theorem ss_k_pck : (ss_y_pck).cls ≠ "java/lang/invoke/MethodHandle" ∧ (ss_y_pck).cls ≠ "java/lang/invoke/VarHandle" ∧ (parseMethodDescriptor (ss_y_pck).desc).map (fun d => d.parameters.length) = some 3 := ⟨by decide +kernel, by decide +kernel, by decide +kernel⟩
theorem ss_f_pck : plainFor ss_y_pck = true := by decide +kernel
theorem ss_l_cod : Cond.methodLink "java/lang/String" 335 ss_y_cod ∈ sn_GT := sn_GT_of (i := 599) (by decide +kernel) rfl
theorem ss_n_cod : Cond.instanceMethod ss_y_cod ∈ sn_GT := sn_GT_of (i := 600) (by decide +kernel) rfl
theorem ss_s_cod : Cond.selects "java/lang/String" ss_y_cod ss_y_cod ∈ sn_GT := sn_GT_of (i := 601) (by decide +kernel) rfl
theorem ss_n_len : Cond.instanceMethod ss_y_len ∈ sn_GT := sn_GT_of (i := 596) (by decide +kernel) rfl
theorem ss_s_len : Cond.selects "java/lang/String" ss_y_len ss_y_len ∈ sn_GT := sn_GT_of (i := 597) (by decide +kernel) rfl
theorem ss_n_cha : Cond.instanceMethod ss_y_cha ∈ sn_GT := sn_GT_of (i := 606) (by decide +kernel) rfl
theorem ss_s_cha : Cond.selects "java/lang/String" ss_y_cha ss_y_cha ∈ sn_GT := sn_GT_of (i := 607) (by decide +kernel) rfl
theorem ss_l_isl : Cond.methodLink "java/lang/String" 492 ss_y_isl ∈ sn_GT := sn_GT_of (i := 609) (by decide +kernel) rfl
theorem ss_n_isl : Cond.instanceMethod ss_y_isl ∈ sn_GT := sn_GT_of (i := 610) (by decide +kernel) rfl
theorem ss_s_isl : Cond.selects "java/lang/String" ss_y_isl ss_y_isl ∈ sn_GT := sn_GT_of (i := 611) (by decide +kernel) rfl
theorem ss_l_lca : Cond.methodLink "java/lang/String" 495 ss_y_lca ∈ sn_GT := sn_GT_of (i := 613) (by decide +kernel) rfl
theorem ss_t_lca : Cond.static ss_y_lca ∈ sn_GT := sn_GT_of (i := 614) (by decide +kernel) rfl
theorem ss_l_chk : Cond.methodLink "java/lang/StringLatin1" 9 ss_y_chk ∈ sn_GT := sn_GT_of (i := 616) (by decide +kernel) rfl
theorem ss_t_chk : Cond.static ss_y_chk ∈ sn_GT := sn_GT_of (i := 617) (by decide +kernel) rfl
theorem ss_l_pck : Cond.methodLink "java/lang/String" 1059 ss_y_pck ∈ sn_GT := sn_GT_of (i := 621) (by decide +kernel) rfl
theorem ss_t_pck : Cond.static ss_y_pck ∈ sn_GT := sn_GT_of (i := 622) (by decide +kernel) rfl
theorem ss_w_cs : Cond.fieldLink "java/lang/String" 38 "java/lang/String" "COMPACT_STRINGS" "Z" ∈ sn_GT := sn_GT_of (i := 603) (by decide +kernel) rfl
theorem ss_w_co : Cond.fieldLink "java/lang/String" 15 "java/lang/String" "coder" "B" ∈ sn_GT := sn_GT_of (i := 1909) (by decide +kernel) rfl
theorem ss_w_va : Cond.fieldLink "java/lang/String" 9 "java/lang/String" "value" "[B" ∈ sn_GT := sn_GT_of (i := 1908) (by decide +kernel) rfl
theorem ss_w_si : Cond.fieldLink "java/lang/String" 1053 "jdk/internal/util/Preconditions" "SIOOBE_FORMATTER" "Ljava/util/function/BiFunction;" ∈ sn_GT := sn_GT_of (i := 619) (by decide +kernel) rfl
theorem ss_d_cod_0 : decode prog_17_method_152_code 0 = .ok (.getstatic 38, 3) := by decide +kernel
theorem ss_d_cod_3 : decode prog_17_method_152_code 3 = .ok (.ifCond .eq 10, 3) := by decide +kernel
theorem ss_d_cod_6 : decode prog_17_method_152_code 6 = .ok (.aload_n 0, 1) := by decide +kernel
theorem ss_d_cod_7 : decode prog_17_method_152_code 7 = .ok (.getfield 15, 3) := by decide +kernel
theorem ss_d_cod_10 : decode prog_17_method_152_code 10 = .ok (.goto 4, 3) := by decide +kernel
theorem ss_d_cod_14 : decode prog_17_method_152_code 14 = .ok (.ireturn, 1) := by decide +kernel
theorem ss_d_isl_0 : decode prog_17_method_154_code 0 = .ok (.getstatic 38, 3) := by decide +kernel
theorem ss_d_isl_3 : decode prog_17_method_154_code 3 = .ok (.ifCond .eq 14, 3) := by decide +kernel
theorem ss_d_isl_6 : decode prog_17_method_154_code 6 = .ok (.aload_n 0, 1) := by decide +kernel
theorem ss_d_isl_7 : decode prog_17_method_154_code 7 = .ok (.getfield 15, 3) := by decide +kernel
theorem ss_d_isl_10 : decode prog_17_method_154_code 10 = .ok (.ifCond .ne 7, 3) := by decide +kernel
theorem ss_d_isl_13 : decode prog_17_method_154_code 13 = .ok (.iconst 1, 1) := by decide +kernel
theorem ss_d_isl_14 : decode prog_17_method_154_code 14 = .ok (.goto 4, 3) := by decide +kernel
theorem ss_d_isl_18 : decode prog_17_method_154_code 18 = .ok (.ireturn, 1) := by decide +kernel
theorem ss_d_len_0 : decode prog_17_method_54_code 0 = .ok (.aload_n 0, 1) := by decide +kernel
theorem ss_d_len_1 : decode prog_17_method_54_code 1 = .ok (.getfield 9, 3) := by decide +kernel
theorem ss_d_len_4 : decode prog_17_method_54_code 4 = .ok (.arraylength, 1) := by decide +kernel
theorem ss_d_len_5 : decode prog_17_method_54_code 5 = .ok (.aload_n 0, 1) := by decide +kernel
theorem ss_d_len_6 : decode prog_17_method_54_code 6 = .ok (.invokevirtual 335, 3) := by decide +kernel
theorem ss_d_len_9 : decode prog_17_method_54_code 9 = .ok (.ishr, 1) := by decide +kernel
theorem ss_d_len_10 : decode prog_17_method_54_code 10 = .ok (.ireturn, 1) := by decide +kernel
theorem ss_d_pck_0 : decode prog_21_method_11_code 0 = .ok (.iload_n 0, 1) := by decide +kernel
theorem ss_d_pck_1 : decode prog_21_method_11_code 1 = .ok (.ifCond .lt 8, 3) := by decide +kernel
theorem ss_d_pck_4 : decode prog_21_method_11_code 4 = .ok (.iload_n 0, 1) := by decide +kernel
theorem ss_d_pck_5 : decode prog_21_method_11_code 5 = .ok (.iload_n 1, 1) := by decide +kernel
theorem ss_d_pck_6 : decode prog_21_method_11_code 6 = .ok (.if_icmp .lt 10, 3) := by decide +kernel
theorem ss_d_pck_16 : decode prog_21_method_11_code 16 = .ok (.iload_n 0, 1) := by decide +kernel
theorem ss_d_pck_17 : decode prog_21_method_11_code 17 = .ok (.ireturn, 1) := by decide +kernel
theorem ss_d_chk_0 : decode prog_17_method_155_code 0 = .ok (.iload_n 0, 1) := by decide +kernel
theorem ss_d_chk_1 : decode prog_17_method_155_code 1 = .ok (.iload_n 1, 1) := by decide +kernel
theorem ss_d_chk_2 : decode prog_17_method_155_code 2 = .ok (.getstatic 1053, 3) := by decide +kernel
theorem ss_d_chk_5 : decode prog_17_method_155_code 5 = .ok (.invokestatic 1059, 3) := by decide +kernel
theorem ss_d_chk_8 : decode prog_17_method_155_code 8 = .ok (.pop, 1) := by decide +kernel
theorem ss_d_chk_9 : decode prog_17_method_155_code 9 = .ok (.return_, 1) := by decide +kernel
theorem ss_d_lca_0 : decode prog_18_method_2_code 0 = .ok (.iload_n 1, 1) := by decide +kernel
theorem ss_d_lca_1 : decode prog_18_method_2_code 1 = .ok (.aload_n 0, 1) := by decide +kernel
theorem ss_d_lca_2 : decode prog_18_method_2_code 2 = .ok (.arraylength, 1) := by decide +kernel
theorem ss_d_lca_3 : decode prog_18_method_2_code 3 = .ok (.invokestatic 9, 3) := by decide +kernel
theorem ss_d_lca_6 : decode prog_18_method_2_code 6 = .ok (.aload_n 0, 1) := by decide +kernel
theorem ss_d_lca_7 : decode prog_18_method_2_code 7 = .ok (.iload_n 1, 1) := by decide +kernel
theorem ss_d_lca_8 : decode prog_18_method_2_code 8 = .ok (.baload, 1) := by decide +kernel
theorem ss_d_lca_9 : decode prog_18_method_2_code 9 = .ok (.sipush 255, 3) := by decide +kernel
theorem ss_d_lca_12 : decode prog_18_method_2_code 12 = .ok (.iand, 1) := by decide +kernel
theorem ss_d_lca_13 : decode prog_18_method_2_code 13 = .ok (.i2c, 1) := by decide +kernel
theorem ss_d_lca_14 : decode prog_18_method_2_code 14 = .ok (.ireturn, 1) := by decide +kernel
theorem ss_d_cha_0 : decode prog_17_method_56_code 0 = .ok (.aload_n 0, 1) := by decide +kernel
theorem ss_d_cha_1 : decode prog_17_method_56_code 1 = .ok (.invokevirtual 492, 3) := by decide +kernel
theorem ss_d_cha_4 : decode prog_17_method_56_code 4 = .ok (.ifCond .eq 12, 3) := by decide +kernel
theorem ss_d_cha_7 : decode prog_17_method_56_code 7 = .ok (.aload_n 0, 1) := by decide +kernel
theorem ss_d_cha_8 : decode prog_17_method_56_code 8 = .ok (.getfield 9, 3) := by decide +kernel
theorem ss_d_cha_11 : decode prog_17_method_56_code 11 = .ok (.iload_n 1, 1) := by decide +kernel
theorem ss_d_cha_12 : decode prog_17_method_56_code 12 = .ok (.invokestatic 495, 3) := by decide +kernel
theorem ss_d_cha_15 : decode prog_17_method_56_code 15 = .ok (.ireturn, 1) := by decide +kernel
theorem ss_7 {j : Nat} (h : j < 7) : j = 0 ∨ j = 1 ∨ j = 2 ∨ j = 3 ∨ j = 4 ∨ j = 5 ∨ j = 6 := by omega
theorem ss_len {j : Nat} (h : j < 7) : sn_len.getD j 0 = pm_tl (911 + j) := by
  rcases ss_7 h with h | h | h | h | h | h | h <;> subst h <;> rfl
theorem ss_sh {j : Nat} (h : j < 7) : Int32.ofNat (sn_len.getD j 0) >>> ((0 : Int32) &&& 31) = Int32.ofNat (pm_tl (911 + j)) := by
  rcases ss_7 h with h | h | h | h | h | h | h <;> subst h <;> decide +kernel
theorem ss_chv : ∀ j : Fin 7, ∀ k : Fin 8, k.val < pm_tl (911 + j.val) → (((sn_byt.getD j.val []).getD k.val 0 &&& 255).toUInt32 % 65536).toInt32 = pm_tv (911 + j.val) k.val ∧ (pm_tv (911 + j.val) k.val).toUInt32.toUInt16.toUInt32.toInt32 = pm_tv (911 + j.val) k.val := by decide +kernel
theorem ss_tl8 {j : Nat} (h : j < 7) : pm_tl (911 + j) ≤ 8 := by
  rcases ss_7 h with h | h | h | h | h | h | h <;> subst h <;> decide
theorem ss_ch {j k : Nat} (hj : j < 7) (hk : k < pm_tl (911 + j)) : (((sn_byt.getD j []).getD k 0 &&& 255).toUInt32 % 65536).toInt32 = pm_tv (911 + j) k ∧ narrow .char (.int (pm_tv (911 + j) k)) = .int (pm_tv (911 + j) k) := by
  have := ss_chv ⟨j, hj⟩ ⟨k, Nat.lt_of_lt_of_le hk (ss_tl8 hj)⟩ hk
  refine ⟨this.1, ?_⟩
  show Value.int _ = Value.int _
  rw [this.2]
section SNST
variable {E : sn_E} {l : Launch} {V : pm_M}
theorem ss_m_cod {j : Nat} (hj : j < 7) : ss_Met E l ss_y_cod prog_17_method_152_code 1 (some .byte) 0 [.ref (E.2.2.1 (911 + j))] V (some (vi 0), V) := by
  refine va_MetF (cc := prog_17_method_152_code) (maxL := 1) (ret := some .byte) ss_f_cod rfl ?_
  intro p e s m args below meth c s₁ B hml hv
  obtain ⟨rfl, hS, hK, hXs⟩ := hv
  have hx := B.exec
  have hb := B.bytes
  have hr := B.returns
  have hlocks := B.notSynchronized
  have hts : ∀ w ∈ sn_GT, w.before [.ref (E.2.2.1 (911 + j))].toArray s = true := fun w hw => atoms_spec (ws := ss_ws ss_y_cod prog_17_method_152_code 1 (some .byte)) B.pre w (List.mem_cons_of_mem _ hw)
  have hown : s.vm.findClass "java/lang/String" = some m.cls := findClass_of_methodNamed B.named
  have hV : va_S (sn_A E) s.heap s.heap [] := va_S.rf
  have hz : E.1 ≤ s.heap.size := by rw [hS.1]; omega
  have hl := lv_entry ([.ref (E.2.2.1 (911 + j))]) (n := 1) (Nat.le_of_ble_eq_true rfl)
  rw [lg_entry_eq]
  generalize (lg_sl ([.ref (E.2.2.1 (911 + j))]) ++ List.replicate (1 - (lg_sl ([.ref (E.2.2.1 (911 + j))])).length) Slot.unset).toArray = ls at hl ⊢
  have hl : lv_has ls 1 [(0, .ref (E.2.2.1 (911 + j)))] := hl
  refine va_gets hx hb (hXs.2.2.2.2.2.2.2.1 _ (List.mem_of_getElem? (i := 0) rfl)) hV hown (hts _ ss_w_cs) (fun _ h => h) ss_d_cod_0 ?_
  refine lv_if_eq (tgt := 13) hx hb ss_d_cod_3 rfl (fun h => absurd h (by decide)) (fun _ => ?_)
  refine lv_aload_n hx hb ss_d_cod_6 rfl (lv_at hl 0 rfl) ?_
  refine vk_getf hx hb (hXs.2.2.2.2.1.1 j hj).2.1 hV hown (hts _ ss_w_co) (fun _ h => h) ss_d_cod_7 ?_
  refine lv_goto (tgt := 14) hx hb ss_d_cod_10 rfl ?_
  exact W.zret (v := 0) hx hb hr rfl (fun t ht hW => ⟨⟨0, (), rfl, rfl, by show sn_S E V t.heap; rw [ht]; exact hS⟩, hV.F ht⟩) hV.2.2 ss_d_cod_14
theorem ss_m_isl {j : Nat} (hj : j < 7) : ss_Met E l ss_y_isl prog_17_method_154_code 1 (some .boolean) 0 [.ref (E.2.2.1 (911 + j))] V (some (vi 1), V) := by
  refine va_MetF (cc := prog_17_method_154_code) (maxL := 1) (ret := some .boolean) ss_f_isl rfl ?_
  intro p e s m args below meth c s₁ B hml hv
  obtain ⟨rfl, hS, hK, hXs⟩ := hv
  have hx := B.exec
  have hb := B.bytes
  have hr := B.returns
  have hlocks := B.notSynchronized
  have hts : ∀ w ∈ sn_GT, w.before [.ref (E.2.2.1 (911 + j))].toArray s = true := fun w hw => atoms_spec (ws := ss_ws ss_y_isl prog_17_method_154_code 1 (some .boolean)) B.pre w (List.mem_cons_of_mem _ hw)
  have hown : s.vm.findClass "java/lang/String" = some m.cls := findClass_of_methodNamed B.named
  have hV : va_S (sn_A E) s.heap s.heap [] := va_S.rf
  have hz : E.1 ≤ s.heap.size := by rw [hS.1]; omega
  have hl := lv_entry ([.ref (E.2.2.1 (911 + j))]) (n := 1) (Nat.le_of_ble_eq_true rfl)
  rw [lg_entry_eq]
  generalize (lg_sl ([.ref (E.2.2.1 (911 + j))]) ++ List.replicate (1 - (lg_sl ([.ref (E.2.2.1 (911 + j))])).length) Slot.unset).toArray = ls at hl ⊢
  have hl : lv_has ls 1 [(0, .ref (E.2.2.1 (911 + j)))] := hl
  refine va_gets hx hb (hXs.2.2.2.2.2.2.2.1 _ (List.mem_of_getElem? (i := 0) rfl)) hV hown (hts _ ss_w_cs) (fun _ h => h) ss_d_isl_0 ?_
  refine lv_if_eq (tgt := 17) hx hb ss_d_isl_3 rfl (fun h => absurd h (by decide)) (fun _ => ?_)
  refine lv_aload_n hx hb ss_d_isl_6 rfl (lv_at hl 0 rfl) ?_
  refine vk_getf hx hb (hXs.2.2.2.2.1.1 j hj).2.1 hV hown (hts _ ss_w_co) (fun _ h => h) ss_d_isl_7 ?_
  refine lv_if_ne (tgt := 17) hx hb ss_d_isl_10 rfl (fun h => absurd rfl h) (fun _ => ?_)
  refine lv_iconst (v := 1) hx hb ss_d_isl_13 rfl ?_
  refine lv_goto (tgt := 18) hx hb ss_d_isl_14 rfl ?_
  exact W.zret (v := 1) hx hb hr rfl (fun t ht hW => ⟨⟨1, (), rfl, rfl, by show sn_S E V t.heap; rw [ht]; exact hS⟩, hV.F ht⟩) hV.2.2 ss_d_isl_18
theorem ss_m_len {j : Nat} (hj : j < 7) : ss_Met E l ss_y_len prog_17_method_54_code 1 (some .int) 1 [.ref (E.2.2.1 (911 + j))] V (some (vi (Int32.ofNat (pm_tl (911 + j)))), V) := by
  refine va_MetF (cc := prog_17_method_54_code) (maxL := 1) (ret := some .int) ss_f_len rfl ?_
  intro p e s m args below meth c s₁ B hml hv
  obtain ⟨rfl, hS, hK, hXs⟩ := hv
  have hx := B.exec
  have hb := B.bytes
  have hr := B.returns
  have hlocks := B.notSynchronized
  have hts : ∀ w ∈ sn_GT, w.before [.ref (E.2.2.1 (911 + j))].toArray s = true := fun w hw => atoms_spec (ws := ss_ws ss_y_len prog_17_method_54_code 1 (some .int)) B.pre w (List.mem_cons_of_mem _ hw)
  have hown : s.vm.findClass "java/lang/String" = some m.cls := findClass_of_methodNamed B.named
  have hV : va_S (sn_A E) s.heap s.heap [] := va_S.rf
  have hz : E.1 ≤ s.heap.size := by rw [hS.1]; omega
  have hl := lv_entry ([.ref (E.2.2.1 (911 + j))]) (n := 1) (Nat.le_of_ble_eq_true rfl)
  rw [lg_entry_eq]
  generalize (lg_sl ([.ref (E.2.2.1 (911 + j))]) ++ List.replicate (1 - (lg_sl ([.ref (E.2.2.1 (911 + j))])).length) Slot.unset).toArray = ls at hl ⊢
  have hl : lv_has ls 1 [(0, .ref (E.2.2.1 (911 + j)))] := hl
  refine lv_aload_n hx hb ss_d_len_0 rfl (lv_at hl 0 rfl) ?_
  refine vk_getf hx hb (hXs.2.2.2.2.1.1 j hj).2.2.1 hV hown (hts _ ss_w_va) (fun _ h => h) ss_d_len_1 ?_
  refine va_tlen hx hb (hXs.2.2.2.2.1.1 j hj).2.2.2 hV rfl ss_d_len_4 ?_
  refine lv_aload_n hx hb ss_d_len_5 rfl (lv_at hl 0 rfl) ?_
  refine va_calli (a := [Value.ref (E.2.2.1 (911 + j))].toArray) (va_runV (As := []) (C := "java/lang/String") (b := E.2.2.1 (911 + j)) (rest := [.int (Int32.ofNat (sn_len.getD j 0))]) ⟨hx, hb, hml, hown, hts⟩ (ss_m_cod (E := E) (l := l) (V := V) hj) ⟨(ss_cb (n := 0) hts ss_l_cod ss_c_cod ss_i_cod ss_k_cod (by decide) ⟨by decide, by decide⟩), hts _ ss_n_cod, hts _ ss_s_cod⟩ ⟨ss_blind _, vk_recv (i := j) hXs.2.2.2.2.1 hj hV, ss_pre hS hV hz hK hXs⟩ rfl rfl hl.1 rfl (by show 2 * 0 + _ ≤ 8; exact Nat.le_of_ble_eq_true rfl) ss_d_len_6 ⟨Nat.zero_le _, Nat.zero_le _⟩) hV (fun _ _ h => h) (fun _ h => h) (fun z u t H1 locs1 ht hvm hp hB hz1 hk hV1 => ?_)
  have hp : z = 0 := hp
  subst hp
  have hS1 : sn_S E V H1 := by rw [← ht]; exact hB
  refine lv_ishr hx hb ss_d_len_9 ?_
  rw [ss_sh hj]
  exact W.iret (v := Int32.ofNat (pm_tl (911 + j))) hx hb hr (fun t ht hW => ⟨⟨_, (), rfl, rfl, by show sn_S E V t.heap; rw [ht]; exact hS1⟩, hV1.F ht⟩) hV1.2.2 ss_d_len_10
theorem ss_m_pckN {u n : Int32} (h0 : 0 ≤ u) (h1 : u < n) : ss_Met E l ss_y_pck prog_21_method_11_code 3 (some .int) 0 [.int u, .int n, .null] V (some (vi u), V) := by
  refine va_MetF (cc := prog_21_method_11_code) (maxL := 3) (ret := some .int) ss_f_pck rfl ?_
  intro p e s m args below meth c s₁ B hml hv
  obtain ⟨rfl, hS, hK, hXs⟩ := hv
  have hx := B.exec
  have hb := B.bytes
  have hr := B.returns
  have hlocks := B.notSynchronized
  have hts : ∀ w ∈ sn_GT, w.before [.int u, .int n, .null].toArray s = true := fun w hw => atoms_spec (ws := ss_ws ss_y_pck prog_21_method_11_code 3 (some .int)) B.pre w (List.mem_cons_of_mem _ hw)
  have hown : s.vm.findClass "jdk/internal/util/Preconditions" = some m.cls := findClass_of_methodNamed B.named
  have hV : va_S (sn_A E) s.heap s.heap [] := va_S.rf
  have hz : E.1 ≤ s.heap.size := by rw [hS.1]; omega
  have hl := lv_entry ([.int u, .int n, .null]) (n := 3) (Nat.le_of_ble_eq_true rfl)
  rw [lg_entry_eq]
  generalize (lg_sl ([.int u, .int n, .null]) ++ List.replicate (3 - (lg_sl ([.int u, .int n, .null])).length) Slot.unset).toArray = ls at hl ⊢
  have hl : lv_has ls 3 [(0, .int u), (1, .int n), (2, .null)] := hl
  refine lv_iload_n hx hb ss_d_pck_0 rfl (lv_at hl 0 rfl) ?_
  refine lv_if_lt (tgt := 9) hx hb ss_d_pck_1 rfl (fun h => absurd h (Int32.not_lt.mpr h0)) (fun _ => ?_)
  refine lv_iload_n hx hb ss_d_pck_4 rfl (lv_at hl 0 rfl) ?_
  refine lv_iload_n hx hb ss_d_pck_5 rfl (lv_at hl 1 rfl) ?_
  refine lv_icmp_lt (tgt := 16) hx hb ss_d_pck_6 rfl (fun _ => ?_) (fun h => absurd h1 h)
  refine lv_iload_n hx hb ss_d_pck_16 rfl (lv_at hl 0 rfl) ?_
  exact W.iret (v := u) hx hb hr (fun t ht hW => ⟨⟨_, (), rfl, rfl, by show sn_S E V t.heap; rw [ht]; exact hS⟩, hV.F ht⟩) hV.2.2 ss_d_pck_17
theorem ss_m_pckR {u n : Int32} {t : Nat} (h0 : 0 ≤ u) (h1 : u < n) : ss_Met E l ss_y_pck prog_21_method_11_code 3 (some .int) 0 [.int u, .int n, .ref t] V (some (vi u), V) := by
  refine va_MetF (cc := prog_21_method_11_code) (maxL := 3) (ret := some .int) ss_f_pck rfl ?_
  intro p e s m args below meth c s₁ B hml hv
  obtain ⟨rfl, hS, hK, hXs⟩ := hv
  have hx := B.exec
  have hb := B.bytes
  have hr := B.returns
  have hlocks := B.notSynchronized
  have hts : ∀ w ∈ sn_GT, w.before [.int u, .int n, .ref t].toArray s = true := fun w hw => atoms_spec (ws := ss_ws ss_y_pck prog_21_method_11_code 3 (some .int)) B.pre w (List.mem_cons_of_mem _ hw)
  have hown : s.vm.findClass "jdk/internal/util/Preconditions" = some m.cls := findClass_of_methodNamed B.named
  have hV : va_S (sn_A E) s.heap s.heap [] := va_S.rf
  have hz : E.1 ≤ s.heap.size := by rw [hS.1]; omega
  have hl := lv_entry ([.int u, .int n, .ref t]) (n := 3) (Nat.le_of_ble_eq_true rfl)
  rw [lg_entry_eq]
  generalize (lg_sl ([.int u, .int n, .ref t]) ++ List.replicate (3 - (lg_sl ([.int u, .int n, .ref t])).length) Slot.unset).toArray = ls at hl ⊢
  have hl : lv_has ls 3 [(0, .int u), (1, .int n), (2, .ref t)] := hl
  refine lv_iload_n hx hb ss_d_pck_0 rfl (lv_at hl 0 rfl) ?_
  refine lv_if_lt (tgt := 9) hx hb ss_d_pck_1 rfl (fun h => absurd h (Int32.not_lt.mpr h0)) (fun _ => ?_)
  refine lv_iload_n hx hb ss_d_pck_4 rfl (lv_at hl 0 rfl) ?_
  refine lv_iload_n hx hb ss_d_pck_5 rfl (lv_at hl 1 rfl) ?_
  refine lv_icmp_lt (tgt := 16) hx hb ss_d_pck_6 rfl (fun _ => ?_) (fun h => absurd h1 h)
  refine lv_iload_n hx hb ss_d_pck_16 rfl (lv_at hl 0 rfl) ?_
  exact W.iret (v := u) hx hb hr (fun t ht hW => ⟨⟨_, (), rfl, rfl, by show sn_S E V t.heap; rw [ht]; exact hS⟩, hV.F ht⟩) hV.2.2 ss_d_pck_17
theorem ss_m_pck {u n : Int32} {x : Value} (h0 : 0 ≤ u) (h1 : u < n) (hxc : x = .null ∨ ∃ t, x = .ref t) : ss_Met E l ss_y_pck prog_21_method_11_code 3 (some .int) 0 [.int u, .int n, x] V (some (vi u), V) := by
  rcases hxc with rfl | ⟨t, rfl⟩
  · exact ss_m_pckN h0 h1
  · exact ss_m_pckR h0 h1
theorem ss_m_chk {u n : Int32} (h0 : 0 ≤ u) (h1 : u < n) : ss_Met E l ss_y_chk prog_17_method_155_code 2 (none) 1 [.int u, .int n] V (none, V) := by
  refine va_MetF (cc := prog_17_method_155_code) (maxL := 2) (ret := none) ss_f_chk rfl ?_
  intro p e s m args below meth c s₁ B hml hv
  obtain ⟨rfl, hS, hK, hXs⟩ := hv
  have hx := B.exec
  have hb := B.bytes
  have hr := B.returns
  have hlocks := B.notSynchronized
  have hts : ∀ w ∈ sn_GT, w.before [.int u, .int n].toArray s = true := fun w hw => atoms_spec (ws := ss_ws ss_y_chk prog_17_method_155_code 2 (none)) B.pre w (List.mem_cons_of_mem _ hw)
  have hown : s.vm.findClass "java/lang/String" = some m.cls := findClass_of_methodNamed B.named
  have hV : va_S (sn_A E) s.heap s.heap [] := va_S.rf
  have hz : E.1 ≤ s.heap.size := by rw [hS.1]; omega
  have hl := lv_entry ([.int u, .int n]) (n := 2) (Nat.le_of_ble_eq_true rfl)
  rw [lg_entry_eq]
  generalize (lg_sl ([.int u, .int n]) ++ List.replicate (2 - (lg_sl ([.int u, .int n])).length) Slot.unset).toArray = ls at hl ⊢
  have hl : lv_has ls 2 [(0, .int u), (1, .int n)] := hl
  refine lv_iload_n hx hb ss_d_chk_0 rfl (lv_at hl 0 rfl) ?_
  refine lv_iload_n hx hb ss_d_chk_1 rfl (lv_at hl 1 rfl) ?_
  have hq : ∃ x : Value, va_Z "jdk/internal/util/Preconditions" "SIOOBE_FORMATTER" "Ljava/util/function/BiFunction;" x (sn_A E) s s.heap ∧ (x = .null ∨ ∃ t, x = .ref t) := by
    rcases hXs.2.2.2.2.2.2.2.2.1 with h | ⟨t, h⟩
    · exact ⟨_, h, Or.inl rfl⟩
    · exact ⟨_, h, Or.inr ⟨_, rfl⟩⟩
  obtain ⟨x, hZ, hxc⟩ := hq
  refine va_gets hx hb hZ hV hown (hts _ ss_w_si) (fun _ h => h) ss_d_chk_2 ?_
  refine va_calli (a := [Value.int u, .int n, x].toArray) (va_runS (As := [.int u, .int n, x]) (rest := []) ⟨hx, hb, hml, hown, hts⟩ (ss_m_pck (E := E) (l := l) (V := V) h0 h1 hxc) ⟨(ss_cb (n := 3) hts ss_l_pck ss_c_pck ss_i_pck ss_k_pck (by decide) ⟨by decide, by decide⟩), hts _ ss_t_pck⟩ ⟨ss_blind _, ss_pre hS hV hz hK hXs⟩ rfl rfl hl.1 rfl (by show 2 * 0 + _ ≤ 8; exact Nat.le_of_ble_eq_true rfl) ss_d_chk_5 ⟨Nat.zero_le _, Nat.zero_le _⟩) hV (fun _ _ h => h) (fun _ h => h) (fun z w t H1 locs1 ht hvm hp hB hz1 hk hV1 => ?_)
  have hS1 : sn_S E V H1 := by rw [← ht]; exact hB
  refine lv_pop hx hb ss_d_chk_8 rfl ?_
  exact W.vret hx hb hr (fun t ht hW => ⟨⟨(), rfl, trivial, by show sn_S E V t.heap; rw [ht]; exact hS1⟩, hV1.F ht⟩) hV1.2.2 ss_d_chk_9
theorem ss_m_lca {j : Nat} {u : Int32} (hj : j < 7) (hu : pm_in u (pm_tl (911 + j)) = true) : ss_Met E l ss_y_lca prog_18_method_2_code 2 (some .char) 2 [.ref (E.2.2.2.2.2.2 j), .int u] V (some (vi (pm_tv (911 + j) u.toNatClampNeg)), V) := by
  refine va_MetF (cc := prog_18_method_2_code) (maxL := 2) (ret := some .char) ss_f_lca rfl ?_
  intro p e s m args below meth c s₁ B hml hv
  obtain ⟨rfl, hS, hK, hXs⟩ := hv
  have hx := B.exec
  have hb := B.bytes
  have hr := B.returns
  have hlocks := B.notSynchronized
  have hts : ∀ w ∈ sn_GT, w.before [.ref (E.2.2.2.2.2.2 j), .int u].toArray s = true := fun w hw => atoms_spec (ws := ss_ws ss_y_lca prog_18_method_2_code 2 (some .char)) B.pre w (List.mem_cons_of_mem _ hw)
  have hown : s.vm.findClass "java/lang/StringLatin1" = some m.cls := findClass_of_methodNamed B.named
  have hV : va_S (sn_A E) s.heap s.heap [] := va_S.rf
  have hz : E.1 ≤ s.heap.size := by rw [hS.1]; omega
  have hl := lv_entry ([.ref (E.2.2.2.2.2.2 j), .int u]) (n := 2) (Nat.le_of_ble_eq_true rfl)
  rw [lg_entry_eq]
  generalize (lg_sl ([.ref (E.2.2.2.2.2.2 j), .int u]) ++ List.replicate (2 - (lg_sl ([.ref (E.2.2.2.2.2.2 j), .int u])).length) Slot.unset).toArray = ls at hl ⊢
  have hl : lv_has ls 2 [(0, .ref (E.2.2.2.2.2.2 j)), (1, .int u)] := hl
  have hu2 : 0 ≤ u ∧ u.toNatClampNeg < pm_tl (911 + j) := by
    simp only [pm_in, Bool.and_eq_true, decide_eq_true_eq] at hu
    exact hu
  have hlt : u < Int32.ofNat (sn_len.getD j 0) := by
    rw [ss_len hj]
    have h8 := ss_tl8 hj
    rw [Int32.lt_iff_toInt_lt]
    have e1 : (Int32.ofNat (pm_tl (911 + j))).toInt = (pm_tl (911 + j) : Int) := Int32.toInt_ofNat_of_lt (by omega)
    have e2 : u.toInt.toNat < pm_tl (911 + j) := hu2.2
    rw [e1]
    omega
  refine lv_iload_n hx hb ss_d_lca_0 rfl (lv_at hl 1 rfl) ?_
  refine lv_aload_n hx hb ss_d_lca_1 rfl (lv_at hl 0 rfl) ?_
  refine va_tlen hx hb (hXs.2.2.2.2.1.1 j hj).2.2.2 hV rfl ss_d_lca_2 ?_
  refine va_callv (a := [Value.int u, .int (Int32.ofNat (sn_len.getD j 0))].toArray) (va_runS (As := [.int u, .int (Int32.ofNat (sn_len.getD j 0))]) (rest := []) ⟨hx, hb, hml, hown, hts⟩ (ss_m_chk (E := E) (l := l) (V := V) hu2.1 hlt) ⟨(ss_cb (n := 2) hts ss_l_chk ss_c_chk ss_i_chk ss_k_chk (by decide) ⟨by decide, by decide⟩), hts _ ss_t_chk⟩ ⟨ss_blind _, ss_pre hS hV hz hK hXs⟩ rfl rfl hl.1 rfl (by show 2 * 0 + _ ≤ 8; exact Nat.le_of_ble_eq_true rfl) ss_d_lca_3 ⟨Nat.zero_le _, Nat.zero_le _⟩) hV (fun _ _ h => h) (fun _ h => h) (fun w t H1 locs1 ht hvm hp hB hz1 hk hV1 => ?_)
  have hS1 : sn_S E V H1 := by rw [← ht]; exact hB
  refine lv_aload_n hx hb ss_d_lca_6 rfl (lv_at hl 0 rfl) ?_
  refine lv_iload_n hx hb ss_d_lca_7 rfl (lv_at hl 1 rfl) ?_
  refine va_tb hx hb (hXs.2.2.2.2.1.1 j hj).2.2.2 hV1 (sn_in (by rw [ss_len hj]; exact hu)) rfl ss_d_lca_8 ?_
  refine lv_sipush (v := 255) hx hb ss_d_lca_9 (by decide) ?_
  refine lv_iand hx hb ss_d_lca_12 ?_
  refine lv_i2c hx hb ss_d_lca_13 (ss_ch hj hu2.2).1 ?_
  exact W.zret (v := pm_tv (911 + j) u.toNatClampNeg) hx hb hr (ss_ch hj hu2.2).2 (fun t ht hW => ⟨⟨_, (), rfl, rfl, by show sn_S E V t.heap; rw [ht]; exact hS1⟩, hV1.F ht⟩) hV1.2.2 ss_d_lca_14
theorem ss_m_cha {j : Nat} {u : Int32} (hj : j < 7) (hu : pm_in u (pm_tl (911 + j)) = true) : ss_Met E l ss_y_cha prog_17_method_56_code 2 (some .char) 3 [.ref (E.2.2.1 (911 + j)), .int u] V (some (vi (pm_tv (911 + j) u.toNatClampNeg)), V) := by
  refine va_MetF (cc := prog_17_method_56_code) (maxL := 2) (ret := some .char) ss_f_cha rfl ?_
  intro p e s m args below meth c s₁ B hml hv
  obtain ⟨rfl, hS, hK, hXs⟩ := hv
  have hx := B.exec
  have hb := B.bytes
  have hr := B.returns
  have hlocks := B.notSynchronized
  have hts : ∀ w ∈ sn_GT, w.before [.ref (E.2.2.1 (911 + j)), .int u].toArray s = true := fun w hw => atoms_spec (ws := ss_ws ss_y_cha prog_17_method_56_code 2 (some .char)) B.pre w (List.mem_cons_of_mem _ hw)
  have hown : s.vm.findClass "java/lang/String" = some m.cls := findClass_of_methodNamed B.named
  have hV : va_S (sn_A E) s.heap s.heap [] := va_S.rf
  have hz : E.1 ≤ s.heap.size := by rw [hS.1]; omega
  have hl := lv_entry ([.ref (E.2.2.1 (911 + j)), .int u]) (n := 2) (Nat.le_of_ble_eq_true rfl)
  rw [lg_entry_eq]
  generalize (lg_sl ([.ref (E.2.2.1 (911 + j)), .int u]) ++ List.replicate (2 - (lg_sl ([.ref (E.2.2.1 (911 + j)), .int u])).length) Slot.unset).toArray = ls at hl ⊢
  have hl : lv_has ls 2 [(0, .ref (E.2.2.1 (911 + j))), (1, .int u)] := hl
  have hu2 : 0 ≤ u ∧ u.toNatClampNeg < pm_tl (911 + j) := by
    simp only [pm_in, Bool.and_eq_true, decide_eq_true_eq] at hu
    exact hu
  refine lv_aload_n hx hb ss_d_cha_0 rfl (lv_at hl 0 rfl) ?_
  refine va_calli (a := [Value.ref (E.2.2.1 (911 + j))].toArray) (va_runV (As := []) (C := "java/lang/String") (b := E.2.2.1 (911 + j)) (rest := []) ⟨hx, hb, hml, hown, hts⟩ (ss_m_isl (E := E) (l := l) (V := V) hj) ⟨(ss_cb (n := 0) hts ss_l_isl ss_c_isl ss_i_isl ss_k_isl (by decide) ⟨by decide, by decide⟩), hts _ ss_n_isl, hts _ ss_s_isl⟩ ⟨ss_blind _, vk_recv (i := j) hXs.2.2.2.2.1 hj hV, ss_pre hS hV hz hK hXs⟩ rfl rfl hl.1 rfl (by show 2 * 0 + _ ≤ 8; exact Nat.le_of_ble_eq_true rfl) ss_d_cha_1 ⟨Nat.zero_le _, Nat.zero_le _⟩) hV (fun _ _ h => h) (fun _ h => h) (fun z w t H1 locs1 ht hvm hp hB hz1 hk hV1 => ?_)
  have hp : z = 1 := hp
  subst hp
  have hS1 : sn_S E V H1 := by rw [← ht]; exact hB
  refine lv_if_eq (tgt := 16) hx hb ss_d_cha_4 rfl (fun h => absurd h (by decide)) (fun _ => ?_)
  refine lv_aload_n hx hb ss_d_cha_7 rfl (lv_at hl 0 rfl) ?_
  refine vk_getf hx hb (hXs.2.2.2.2.1.1 j hj).2.2.1 hV1 hown (hts _ ss_w_va) (fun _ h => h) ss_d_cha_8 ?_
  refine lv_iload_n hx hb ss_d_cha_11 rfl (lv_at hl 1 rfl) ?_
  refine va_calli (a := [Value.ref (E.2.2.2.2.2.2 j), .int u].toArray) (va_runS (As := [.ref (E.2.2.2.2.2.2 j), .int u]) (rest := []) ⟨hx, hb, hml, hown, hts⟩ (ss_m_lca (E := E) (l := l) (V := V) hj hu) ⟨(ss_cb (n := 2) hts ss_l_lca ss_c_lca ss_i_lca ss_k_lca (by decide) ⟨by decide, by decide⟩), hts _ ss_t_lca⟩ ⟨ss_blind _, ss_pre hS1 hV1 hz hK hXs⟩ rfl rfl hl.1 rfl (by show 2 * 0 + _ ≤ 8; exact Nat.le_of_ble_eq_true rfl) ss_d_cha_12 ⟨Nat.zero_le _, Nat.zero_le _⟩) hV1 (fun _ _ h => h) (fun _ h => h) (fun z w t H2 locs2 ht2 hvm2 hp2 hB2 hz2 hk2 hV2 => ?_)
  have hp2 : z = pm_tv (911 + j) u.toNatClampNeg := hp2
  subst hp2
  have hS2 : sn_S E V H2 := by rw [← ht2]; exact hB2
  exact W.zret (v := pm_tv (911 + j) u.toNatClampNeg) hx hb hr (ss_ch hj hu2.2).2 (fun t ht hW => ⟨⟨_, (), rfl, rfl, by show sn_S E V t.heap; rw [ht]; exact hS2⟩, hV2.F ht⟩) hV2.2.2 ss_d_cha_15
end SNST
section SNSU
variable {E : sn_E} {p : Program} {l : Launch} {e : Env} {R : Room} {s : State} {m : MethodId} {args : Array Value} {below : List Frame} {meth : Method} {c : Code} {nL n0 t0 : Nat} {Q : State → Prop}
variable {cc : ByteArray} {pc : Nat} {ls : pm_L} {st : List pm_V} {V : pm_M}
theorem sn_strlen (hx : p.tables.exec = Jvm.exec) (hb : c.code = cc) {own : String} {index j : Nat} (hml : c.maxLocals = nL) (hown : s.vm.findClass own = some m.cls) (hts : ∀ w ∈ sn_GT, w.before args s = true) (hK : sn_K E s) (hXs : sn_Xs E s) (hz : E.1 ≤ s.heap.size) (hj : j < 7) (hlink : Cond.methodLink own index ⟨"java/lang/String", "length", "()I"⟩ ∈ sn_GT) (hw : pm_wd st ≤ 8) (hf : 9 ≤ R.frames) (hlo : 64 * 9 ≤ R.locals) (hcl : V.1.length ≤ n0 + R.cells) (hsl : sn_tt V.1 ≤ t0 + R.slots) (hdg : decode cc pc = .ok (.invokevirtual index, 3)) (kk : sn_Go E p l e R s m args below meth c nL n0 t0 Q (pc + 3) ls (vi (Int32.ofNat (pm_tl (911 + j))) :: st) V) : sn_Go E p l e R s m args below meth c nL n0 t0 Q pc ls (vr (911 + j) :: st) V := by
  intro H locs cells slots arr hS hV hc' hs hl
  show W p l e R s m args below meth c H locs cells slots Q (F0 m pc arr (sn_rf E (911 + j) :: st.map (sn_cv E)))
  rw [sn_rf9 (by omega)]
  have hwd := sn_wd (E := E) (st := st)
  refine va_calli (a := (Value.ref (E.2.2.1 (911 + j)) :: []).toArray) (va_runV (As := []) (C := "java/lang/String") (b := E.2.2.1 (911 + j)) (rest := st.map (sn_cv E)) ⟨hx, hb, hml, hown, hts⟩ (ss_m_len (E := E) (l := l) (V := V) hj) ⟨ss_cb (n := 0) hts hlink ss_c_len ss_i_len ss_k_len (by decide) ⟨by omega, by omega⟩, hts _ ss_n_len, hts _ ss_s_len⟩ ⟨ss_blind _, vk_recv (i := j) hXs.2.2.2.2.1 hj hV, ss_pre hS hV hz hK hXs⟩ rfl rfl hl.1 rfl (by show 2 * 0 + _ ≤ 8; omega) hdg ⟨by omega, by omega⟩) hV (fun _ _ h => h) (fun _ h => h) (fun z w t H1 locs1 ht hvm hp hB hz1 hk hV1 => ?_)
  have hp : z = _ := hp
  subst hp
  have hS1 : sn_S E V H1 := by rw [← ht]; exact hB
  exact kk H1 locs1 (cells + 0) (slots + 0) arr hS1 hV1 hc' hs hl
theorem sn_strat (hx : p.tables.exec = Jvm.exec) (hb : c.code = cc) {own : String} {index j : Nat} {u : Int32} (hml : c.maxLocals = nL) (hown : s.vm.findClass own = some m.cls) (hts : ∀ w ∈ sn_GT, w.before args s = true) (hK : sn_K E s) (hXs : sn_Xs E s) (hz : E.1 ≤ s.heap.size) (hj : j < 7) (hlink : Cond.methodLink own index ⟨"java/lang/String", "charAt", "(I)C"⟩ ∈ sn_GT) (hw : pm_wd st ≤ 8) (hu : pm_in u (pm_tl (911 + j)) = true) (hf : 9 ≤ R.frames) (hlo : 64 * 9 ≤ R.locals) (hcl : V.1.length ≤ n0 + R.cells) (hsl : sn_tt V.1 ≤ t0 + R.slots) (hdg : decode cc pc = .ok (.invokevirtual index, 3)) (kk : sn_Go E p l e R s m args below meth c nL n0 t0 Q (pc + 3) ls (vi (pm_tv (911 + j) u.toNatClampNeg) :: st) V) : sn_Go E p l e R s m args below meth c nL n0 t0 Q pc ls (vi u :: vr (911 + j) :: st) V := by
  intro H locs cells slots arr hS hV hc' hs hl
  show W p l e R s m args below meth c H locs cells slots Q (F0 m pc arr (.int u :: sn_rf E (911 + j) :: st.map (sn_cv E)))
  rw [sn_rf9 (by omega)]
  have hwd := sn_wd (E := E) (st := st)
  refine va_calli (a := (Value.ref (E.2.2.1 (911 + j)) :: [.int u]).toArray) (va_runV (As := [.int u]) (C := "java/lang/String") (b := E.2.2.1 (911 + j)) (rest := st.map (sn_cv E)) ⟨hx, hb, hml, hown, hts⟩ (ss_m_cha (E := E) (l := l) (V := V) hj hu) ⟨ss_cb (n := 1) hts hlink ss_c_cha ss_i_cha ss_k_cha (by decide) ⟨by omega, by omega⟩, hts _ ss_n_cha, hts _ ss_s_cha⟩ ⟨ss_blind _, vk_recv (i := j) hXs.2.2.2.2.1 hj hV, ss_pre hS hV hz hK hXs⟩ rfl rfl hl.1 rfl (by show 2 * 0 + _ ≤ 8; omega) hdg ⟨by omega, by omega⟩) hV (fun _ _ h => h) (fun _ h => h) (fun z w t H1 locs1 ht hvm hp hB hz1 hk hV1 => ?_)
  have hp : z = _ := hp
  subst hp
  have hS1 : sn_S E V H1 := by rw [← ht]; exact hB
  exact kk H1 locs1 (cells + 0) (slots + 0) arr hS1 hV1 hc' hs hl
end SNSU
