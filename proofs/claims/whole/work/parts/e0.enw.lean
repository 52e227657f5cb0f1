/-! ENTRY, 1: what the Statement gives of the start, word by word: printed by wip/whole/genx.py -/
def en_F : List Cond := flatC (Jvm.Cond.and given_1 narrow_1)
theorem en_sa_0 : Cond.arrayOf (.static RX6 (sn_sn 0) "[I") .int ∈ en_F := List.mem_of_getElem? (i := 5) (by decide +kernel)
theorem en_sl_0 : Cond.eq (.length (.static RX6 (sn_sn 0) "[I")) (.int (Int32.ofNat (pm_sl (901 + 0)))) ∈ en_F := List.mem_of_getElem? (i := 6) (by decide +kernel)
theorem en_se_0 : ∀ j : Fin 7, en_F[7 + j.val]? = some (Cond.eq (.elem (.static RX6 (sn_sn 0) "[I") (.int (Int32.ofNat j.val))) (.int (pm_sv (901 + 0) j.val))) := by decide +kernel
theorem en_sy_0 : Cond.laysStatic RX6 (sn_sn 0) "[I" ∈ lw_tbl := List.mem_of_getElem? (i := 580) (by decide +kernel)
theorem en_sa_1 : Cond.arrayOf (.static RX6 (sn_sn 1) "[I") .int ∈ en_F := List.mem_of_getElem? (i := 30) (by decide +kernel)
theorem en_sl_1 : Cond.eq (.length (.static RX6 (sn_sn 1) "[I")) (.int (Int32.ofNat (pm_sl (901 + 1)))) ∈ en_F := List.mem_of_getElem? (i := 31) (by decide +kernel)
theorem en_se_1 : ∀ j : Fin 7, en_F[32 + j.val]? = some (Cond.eq (.elem (.static RX6 (sn_sn 1) "[I") (.int (Int32.ofNat j.val))) (.int (pm_sv (901 + 1) j.val))) := by decide +kernel
theorem en_sy_1 : Cond.laysStatic RX6 (sn_sn 1) "[I" ∈ lw_tbl := List.mem_of_getElem? (i := 658) (by decide +kernel)
theorem en_sa_2 : Cond.arrayOf (.static RX6 (sn_sn 2) "[I") .int ∈ en_F := List.mem_of_getElem? (i := 20) (by decide +kernel)
theorem en_sl_2 : Cond.eq (.length (.static RX6 (sn_sn 2) "[I")) (.int (Int32.ofNat (pm_sl (901 + 2)))) ∈ en_F := List.mem_of_getElem? (i := 21) (by decide +kernel)
theorem en_se_2 : ∀ j : Fin 7, en_F[22 + j.val]? = some (Cond.eq (.elem (.static RX6 (sn_sn 2) "[I") (.int (Int32.ofNat j.val))) (.int (pm_sv (901 + 2) j.val))) := by decide +kernel
theorem en_sy_2 : Cond.laysStatic RX6 (sn_sn 2) "[I" ∈ lw_tbl := List.mem_of_getElem? (i := 652) (by decide +kernel)
theorem en_sa_3 : Cond.arrayOf (.static RX6 (sn_sn 3) "[I") .int ∈ en_F := List.mem_of_getElem? (i := 40) (by decide +kernel)
theorem en_sl_3 : Cond.eq (.length (.static RX6 (sn_sn 3) "[I")) (.int (Int32.ofNat (pm_sl (901 + 3)))) ∈ en_F := List.mem_of_getElem? (i := 41) (by decide +kernel)
theorem en_se_3 : ∀ j : Fin 28, en_F[42 + j.val]? = some (Cond.eq (.elem (.static RX6 (sn_sn 3) "[I") (.int (Int32.ofNat j.val))) (.int (pm_sv (901 + 3) j.val))) := by decide +kernel
theorem en_sy_3 : Cond.laysStatic RX6 (sn_sn 3) "[I" ∈ lw_tbl := List.mem_of_getElem? (i := 664) (by decide +kernel)
theorem en_sa_4 : Cond.arrayOf (.static RX6 (sn_sn 4) "[I") .int ∈ en_F := List.mem_of_getElem? (i := 71) (by decide +kernel)
theorem en_sl_4 : Cond.eq (.length (.static RX6 (sn_sn 4) "[I")) (.int (Int32.ofNat (pm_sl (901 + 4)))) ∈ en_F := List.mem_of_getElem? (i := 72) (by decide +kernel)
theorem en_se_4 : ∀ j : Fin 28, en_F[73 + j.val]? = some (Cond.eq (.elem (.static RX6 (sn_sn 4) "[I") (.int (Int32.ofNat j.val))) (.int (pm_sv (901 + 4) j.val))) := by decide +kernel
theorem en_sy_4 : Cond.laysStatic RX6 (sn_sn 4) "[I" ∈ lw_tbl := List.mem_of_getElem? (i := 666) (by decide +kernel)
theorem en_i6 : Cond.initialized RX6 ∈ lw_tbl := List.mem_of_getElem? (i := 114) (by decide +kernel)
theorem en_sa {k : Nat} (hk : k < 5) : Cond.arrayOf (.static RX6 (sn_sn k) "[I") .int ∈ en_F := by
  rcases (show k = 0 ∨ k = 1 ∨ k = 2 ∨ k = 3 ∨ k = 4 by omega) with rfl | rfl | rfl | rfl | rfl
  · exact en_sa_0
  · exact en_sa_1
  · exact en_sa_2
  · exact en_sa_3
  · exact en_sa_4
theorem en_sl {k : Nat} (hk : k < 5) : Cond.eq (.length (.static RX6 (sn_sn k) "[I")) (.int (Int32.ofNat (pm_sl (901 + k)))) ∈ en_F := by
  rcases (show k = 0 ∨ k = 1 ∨ k = 2 ∨ k = 3 ∨ k = 4 by omega) with rfl | rfl | rfl | rfl | rfl
  · exact en_sl_0
  · exact en_sl_1
  · exact en_sl_2
  · exact en_sl_3
  · exact en_sl_4
theorem en_sy {k : Nat} (hk : k < 5) : Cond.laysStatic RX6 (sn_sn k) "[I" ∈ lw_tbl := by
  rcases (show k = 0 ∨ k = 1 ∨ k = 2 ∨ k = 3 ∨ k = 4 by omega) with rfl | rfl | rfl | rfl | rfl
  · exact en_sy_0
  · exact en_sy_1
  · exact en_sy_2
  · exact en_sy_3
  · exact en_sy_4
theorem en_se {k j : Nat} (hk : k < 5) (hj : j < pm_sl (901 + k)) : Cond.eq (.elem (.static RX6 (sn_sn k) "[I") (.int (Int32.ofNat j))) (.int (pm_sv (901 + k) j)) ∈ en_F := by
  rcases (show k = 0 ∨ k = 1 ∨ k = 2 ∨ k = 3 ∨ k = 4 by omega) with rfl | rfl | rfl | rfl | rfl
  · exact List.mem_of_getElem? (en_se_0 ⟨j, hj⟩)
  · exact List.mem_of_getElem? (en_se_1 ⟨j, hj⟩)
  · exact List.mem_of_getElem? (en_se_2 ⟨j, hj⟩)
  · exact List.mem_of_getElem? (en_se_3 ⟨j, hj⟩)
  · exact List.mem_of_getElem? (en_se_4 ⟨j, hj⟩)
theorem en_s31 {k : Nat} (hk : k < 5) : pm_sl (901 + k) < 2 ^ 31 := by
  rcases (show k = 0 ∨ k = 1 ∨ k = 2 ∨ k = 3 ∨ k = 4 by omega) with rfl | rfl | rfl | rfl | rfl
  · decide
  · decide
  · decide
  · decide
  · decide
theorem en_te_0 : Cond.exactly (.string RX6 (sn_tx 0).1) "java/lang/String" ∈ en_F := List.mem_of_getElem? (i := 161) (by decide +kernel)
theorem en_tc_0 : Cond.eq (.field (.string RX6 (sn_tx 0).1) "java/lang/String" "coder" "B") (.int 0) ∈ en_F := List.mem_of_getElem? (i := 162) (by decide +kernel)
theorem en_ta_0 : Cond.arrayOf (.field (.string RX6 (sn_tx 0).1) "java/lang/String" "value" "[B") .byte ∈ en_F := List.mem_of_getElem? (i := 163) (by decide +kernel)
theorem en_tl_0 : Cond.eq (.length (.field (.string RX6 (sn_tx 0).1) "java/lang/String" "value" "[B")) (.int (Int32.ofNat (sn_len.getD 0 0))) ∈ en_F := List.mem_of_getElem? (i := 164) (by decide +kernel)
theorem en_tb_0 : ∀ j : Fin 7, en_F[165 + j.val]? = some (Cond.eq (.elem (.field (.string RX6 (sn_tx 0).1) "java/lang/String" "value" "[B") (.int (Int32.ofNat j.val))) (.int ((sn_byt.getD 0 []).getD j.val 0))) := by decide +kernel
theorem en_tr_0 : Cond.stringRef RX6 (sn_tx 0).1 (sn_tx 0).2 ∈ lw_tbl := List.mem_of_getElem? (i := 584) (by decide +kernel)
theorem en_te_1 : Cond.exactly (.string RX6 (sn_tx 1).1) "java/lang/String" ∈ en_F := List.mem_of_getElem? (i := 172) (by decide +kernel)
theorem en_tc_1 : Cond.eq (.field (.string RX6 (sn_tx 1).1) "java/lang/String" "coder" "B") (.int 0) ∈ en_F := List.mem_of_getElem? (i := 173) (by decide +kernel)
theorem en_ta_1 : Cond.arrayOf (.field (.string RX6 (sn_tx 1).1) "java/lang/String" "value" "[B") .byte ∈ en_F := List.mem_of_getElem? (i := 174) (by decide +kernel)
theorem en_tl_1 : Cond.eq (.length (.field (.string RX6 (sn_tx 1).1) "java/lang/String" "value" "[B")) (.int (Int32.ofNat (sn_len.getD 1 0))) ∈ en_F := List.mem_of_getElem? (i := 175) (by decide +kernel)
theorem en_tb_1 : ∀ j : Fin 8, en_F[176 + j.val]? = some (Cond.eq (.elem (.field (.string RX6 (sn_tx 1).1) "java/lang/String" "value" "[B") (.int (Int32.ofNat j.val))) (.int ((sn_byt.getD 1 []).getD j.val 0))) := by decide +kernel
theorem en_tr_1 : Cond.stringRef RX6 (sn_tx 1).1 (sn_tx 1).2 ∈ lw_tbl := List.mem_of_getElem? (i := 585) (by decide +kernel)
theorem en_te_2 : Cond.exactly (.string RX6 (sn_tx 2).1) "java/lang/String" ∈ en_F := List.mem_of_getElem? (i := 185) (by decide +kernel)
theorem en_tc_2 : Cond.eq (.field (.string RX6 (sn_tx 2).1) "java/lang/String" "coder" "B") (.int 0) ∈ en_F := List.mem_of_getElem? (i := 186) (by decide +kernel)
theorem en_ta_2 : Cond.arrayOf (.field (.string RX6 (sn_tx 2).1) "java/lang/String" "value" "[B") .byte ∈ en_F := List.mem_of_getElem? (i := 187) (by decide +kernel)
theorem en_tl_2 : Cond.eq (.length (.field (.string RX6 (sn_tx 2).1) "java/lang/String" "value" "[B")) (.int (Int32.ofNat (sn_len.getD 2 0))) ∈ en_F := List.mem_of_getElem? (i := 188) (by decide +kernel)
theorem en_tb_2 : ∀ j : Fin 4, en_F[189 + j.val]? = some (Cond.eq (.elem (.field (.string RX6 (sn_tx 2).1) "java/lang/String" "value" "[B") (.int (Int32.ofNat j.val))) (.int ((sn_byt.getD 2 []).getD j.val 0))) := by decide +kernel
theorem en_tr_2 : Cond.stringRef RX6 (sn_tx 2).1 (sn_tx 2).2 ∈ lw_tbl := List.mem_of_getElem? (i := 586) (by decide +kernel)
theorem en_te_3 : Cond.exactly (.string RX6 (sn_tx 3).1) "java/lang/String" ∈ en_F := List.mem_of_getElem? (i := 195) (by decide +kernel)
theorem en_tc_3 : Cond.eq (.field (.string RX6 (sn_tx 3).1) "java/lang/String" "coder" "B") (.int 0) ∈ en_F := List.mem_of_getElem? (i := 196) (by decide +kernel)
theorem en_ta_3 : Cond.arrayOf (.field (.string RX6 (sn_tx 3).1) "java/lang/String" "value" "[B") .byte ∈ en_F := List.mem_of_getElem? (i := 197) (by decide +kernel)
theorem en_tl_3 : Cond.eq (.length (.field (.string RX6 (sn_tx 3).1) "java/lang/String" "value" "[B")) (.int (Int32.ofNat (sn_len.getD 3 0))) ∈ en_F := List.mem_of_getElem? (i := 198) (by decide +kernel)
theorem en_tb_3 : ∀ j : Fin 4, en_F[199 + j.val]? = some (Cond.eq (.elem (.field (.string RX6 (sn_tx 3).1) "java/lang/String" "value" "[B") (.int (Int32.ofNat j.val))) (.int ((sn_byt.getD 3 []).getD j.val 0))) := by decide +kernel
theorem en_tr_3 : Cond.stringRef RX6 (sn_tx 3).1 (sn_tx 3).2 ∈ lw_tbl := List.mem_of_getElem? (i := 587) (by decide +kernel)
theorem en_te_4 : Cond.exactly (.string RX6 (sn_tx 4).1) "java/lang/String" ∈ en_F := List.mem_of_getElem? (i := 206) (by decide +kernel)
theorem en_tc_4 : Cond.eq (.field (.string RX6 (sn_tx 4).1) "java/lang/String" "coder" "B") (.int 0) ∈ en_F := List.mem_of_getElem? (i := 207) (by decide +kernel)
theorem en_ta_4 : Cond.arrayOf (.field (.string RX6 (sn_tx 4).1) "java/lang/String" "value" "[B") .byte ∈ en_F := List.mem_of_getElem? (i := 208) (by decide +kernel)
theorem en_tl_4 : Cond.eq (.length (.field (.string RX6 (sn_tx 4).1) "java/lang/String" "value" "[B")) (.int (Int32.ofNat (sn_len.getD 4 0))) ∈ en_F := List.mem_of_getElem? (i := 209) (by decide +kernel)
theorem en_tb_4 : ∀ j : Fin 5, en_F[210 + j.val]? = some (Cond.eq (.elem (.field (.string RX6 (sn_tx 4).1) "java/lang/String" "value" "[B") (.int (Int32.ofNat j.val))) (.int ((sn_byt.getD 4 []).getD j.val 0))) := by decide +kernel
theorem en_tr_4 : Cond.stringRef RX6 (sn_tx 4).1 (sn_tx 4).2 ∈ lw_tbl := List.mem_of_getElem? (i := 588) (by decide +kernel)
theorem en_te_5 : Cond.exactly (.string RX6 (sn_tx 5).1) "java/lang/String" ∈ en_F := List.mem_of_getElem? (i := 219) (by decide +kernel)
theorem en_tc_5 : Cond.eq (.field (.string RX6 (sn_tx 5).1) "java/lang/String" "coder" "B") (.int 0) ∈ en_F := List.mem_of_getElem? (i := 220) (by decide +kernel)
theorem en_ta_5 : Cond.arrayOf (.field (.string RX6 (sn_tx 5).1) "java/lang/String" "value" "[B") .byte ∈ en_F := List.mem_of_getElem? (i := 221) (by decide +kernel)
theorem en_tl_5 : Cond.eq (.length (.field (.string RX6 (sn_tx 5).1) "java/lang/String" "value" "[B")) (.int (Int32.ofNat (sn_len.getD 5 0))) ∈ en_F := List.mem_of_getElem? (i := 222) (by decide +kernel)
theorem en_tb_5 : ∀ j : Fin 4, en_F[223 + j.val]? = some (Cond.eq (.elem (.field (.string RX6 (sn_tx 5).1) "java/lang/String" "value" "[B") (.int (Int32.ofNat j.val))) (.int ((sn_byt.getD 5 []).getD j.val 0))) := by decide +kernel
theorem en_tr_5 : Cond.stringRef RX6 (sn_tx 5).1 (sn_tx 5).2 ∈ lw_tbl := List.mem_of_getElem? (i := 589) (by decide +kernel)
theorem en_te_6 : Cond.exactly (.string RX6 (sn_tx 6).1) "java/lang/String" ∈ en_F := List.mem_of_getElem? (i := 232) (by decide +kernel)
theorem en_tc_6 : Cond.eq (.field (.string RX6 (sn_tx 6).1) "java/lang/String" "coder" "B") (.int 0) ∈ en_F := List.mem_of_getElem? (i := 233) (by decide +kernel)
theorem en_ta_6 : Cond.arrayOf (.field (.string RX6 (sn_tx 6).1) "java/lang/String" "value" "[B") .byte ∈ en_F := List.mem_of_getElem? (i := 234) (by decide +kernel)
theorem en_tl_6 : Cond.eq (.length (.field (.string RX6 (sn_tx 6).1) "java/lang/String" "value" "[B")) (.int (Int32.ofNat (sn_len.getD 6 0))) ∈ en_F := List.mem_of_getElem? (i := 235) (by decide +kernel)
theorem en_tb_6 : ∀ j : Fin 5, en_F[236 + j.val]? = some (Cond.eq (.elem (.field (.string RX6 (sn_tx 6).1) "java/lang/String" "value" "[B") (.int (Int32.ofNat j.val))) (.int ((sn_byt.getD 6 []).getD j.val 0))) := by decide +kernel
theorem en_tr_6 : Cond.stringRef RX6 (sn_tx 6).1 (sn_tx 6).2 ∈ lw_tbl := List.mem_of_getElem? (i := 590) (by decide +kernel)
theorem en_te {i : Nat} (hi : i < 7) : Cond.exactly (.string RX6 (sn_tx i).1) "java/lang/String" ∈ en_F := by
  rcases ss_7 hi with rfl | rfl | rfl | rfl | rfl | rfl | rfl
  · exact en_te_0
  · exact en_te_1
  · exact en_te_2
  · exact en_te_3
  · exact en_te_4
  · exact en_te_5
  · exact en_te_6
theorem en_tc {i : Nat} (hi : i < 7) : Cond.eq (.field (.string RX6 (sn_tx i).1) "java/lang/String" "coder" "B") (.int 0) ∈ en_F := by
  rcases ss_7 hi with rfl | rfl | rfl | rfl | rfl | rfl | rfl
  · exact en_tc_0
  · exact en_tc_1
  · exact en_tc_2
  · exact en_tc_3
  · exact en_tc_4
  · exact en_tc_5
  · exact en_tc_6
theorem en_ta {i : Nat} (hi : i < 7) : Cond.arrayOf (.field (.string RX6 (sn_tx i).1) "java/lang/String" "value" "[B") .byte ∈ en_F := by
  rcases ss_7 hi with rfl | rfl | rfl | rfl | rfl | rfl | rfl
  · exact en_ta_0
  · exact en_ta_1
  · exact en_ta_2
  · exact en_ta_3
  · exact en_ta_4
  · exact en_ta_5
  · exact en_ta_6
theorem en_tl {i : Nat} (hi : i < 7) : Cond.eq (.length (.field (.string RX6 (sn_tx i).1) "java/lang/String" "value" "[B")) (.int (Int32.ofNat (sn_len.getD i 0))) ∈ en_F := by
  rcases ss_7 hi with rfl | rfl | rfl | rfl | rfl | rfl | rfl
  · exact en_tl_0
  · exact en_tl_1
  · exact en_tl_2
  · exact en_tl_3
  · exact en_tl_4
  · exact en_tl_5
  · exact en_tl_6
theorem en_tb {i j : Nat} (hi : i < 7) (hj : j < sn_len.getD i 0) : Cond.eq (.elem (.field (.string RX6 (sn_tx i).1) "java/lang/String" "value" "[B") (.int (Int32.ofNat j))) (.int ((sn_byt.getD i []).getD j 0)) ∈ en_F := by
  rcases ss_7 hi with rfl | rfl | rfl | rfl | rfl | rfl | rfl
  · exact List.mem_of_getElem? (en_tb_0 ⟨j, hj⟩)
  · exact List.mem_of_getElem? (en_tb_1 ⟨j, hj⟩)
  · exact List.mem_of_getElem? (en_tb_2 ⟨j, hj⟩)
  · exact List.mem_of_getElem? (en_tb_3 ⟨j, hj⟩)
  · exact List.mem_of_getElem? (en_tb_4 ⟨j, hj⟩)
  · exact List.mem_of_getElem? (en_tb_5 ⟨j, hj⟩)
  · exact List.mem_of_getElem? (en_tb_6 ⟨j, hj⟩)
theorem en_tr {i : Nat} (hi : i < 7) : Cond.stringRef RX6 (sn_tx i).1 (sn_tx i).2 ∈ lw_tbl := by
  rcases ss_7 hi with rfl | rfl | rfl | rfl | rfl | rfl | rfl
  · exact en_tr_0
  · exact en_tr_1
  · exact en_tr_2
  · exact en_tr_3
  · exact en_tr_4
  · exact en_tr_5
  · exact en_tr_6
theorem en_t31 {i : Nat} (hi : i < 7) : sn_len.getD i 0 < 2 ^ 31 := by
  rcases ss_7 hi with rfl | rfl | rfl | rfl | rfl | rfl | rfl <;> decide
def en_px (i j : Nat) : Nat := (([[0, 184, 193, 203, 215, 227, 241], [0, 0, 194, 204, 216, 228, 242], [0, 0, 0, 205, 217, 229, 243], [0, 0, 0, 0, 218, 230, 244], [0, 0, 0, 0, 0, 231, 245], [0, 0, 0, 0, 0, 0, 246], [0, 0, 0, 0, 0, 0, 0]] : List (List Nat)).getD i []).getD j 0
theorem en_ne0 : ∀ i : Fin 7, ∀ j : Fin 7, i.val < j.val → en_F[en_px i.val j.val]? = some (Cond.not (Cond.eq (.string RX6 (sn_tx i.val).1) (.string RX6 (sn_tx j.val).1))) := by decide +kernel
theorem en_ne {i j : Nat} (hij : i < j) (hj : j < 7) : Cond.not (Cond.eq (.string RX6 (sn_tx i).1) (.string RX6 (sn_tx j).1)) ∈ en_F := List.mem_of_getElem? (en_ne0 ⟨i, by omega⟩ ⟨j, hj⟩ hij)
theorem en_cs : Cond.eq (.static "java/lang/String" "COMPACT_STRINGS" "Z") (.int 1) ∈ en_F := List.mem_of_getElem? (i := 14) (by decide +kernel)
theorem en_si : Cond.isRef (.static "jdk/internal/util/Preconditions" "SIOOBE_FORMATTER" "Ljava/util/function/BiFunction;") ∈ en_F := List.mem_of_getElem? (i := 15) (by decide +kernel)
theorem en_y1 : Cond.laysStatic "java/lang/String" "COMPACT_STRINGS" "Z" ∈ lw_tbl := List.mem_of_getElem? (i := 604) (by decide +kernel)
theorem en_y2 : Cond.laysStatic "jdk/internal/util/Preconditions" "SIOOBE_FORMATTER" "Ljava/util/function/BiFunction;" ∈ lw_tbl := List.mem_of_getElem? (i := 620) (by decide +kernel)
theorem en_i1 : Cond.initialized "java/lang/String" ∈ lw_tbl := List.mem_of_getElem? (i := 121) (by decide +kernel)
theorem en_i2 : Cond.initialized "jdk/internal/util/Preconditions" ∈ lw_tbl := List.mem_of_getElem? (i := 123) (by decide +kernel)
theorem en_ac_int : Cond.arrayClass .int ∈ lw_tbl := List.mem_of_getElem? (i := 212) (by decide +kernel)
theorem en_ac_byte : Cond.arrayClass .byte ∈ lw_tbl := List.mem_of_getElem? (i := 211) (by decide +kernel)
theorem en_ac_boolean : Cond.arrayClass .boolean ∈ lw_tbl := List.mem_of_getElem? (i := 1430) (by decide +kernel)
theorem en_ac_long : Cond.arrayClass .long ∈ lw_tbl := List.mem_of_getElem? (i := 1025) (by decide +kernel)
theorem en_in_0 : Cond.instantiable RX0 9 ∈ lw_tbl := List.mem_of_getElem? (i := 149) (by decide +kernel)
theorem en_in_1 : Cond.instantiable RX2 4 ∈ lw_tbl := List.mem_of_getElem? (i := 472) (by decide +kernel)
theorem en_in_2 : Cond.instantiable RX3 2 ∈ lw_tbl := List.mem_of_getElem? (i := 458) (by decide +kernel)
theorem en_in_3 : Cond.instantiable RX4 3 ∈ lw_tbl := List.mem_of_getElem? (i := 243) (by decide +kernel)
theorem en_in_4 : Cond.instantiable RX5 16 ∈ lw_tbl := List.mem_of_getElem? (i := 359) (by decide +kernel)
theorem en_in_5 : Cond.instantiable RX6 12 ∈ lw_tbl := List.mem_of_getElem? (i := 304) (by decide +kernel)
theorem en_in_6 : Cond.instantiable RX7 4 ∈ lw_tbl := List.mem_of_getElem? (i := 213) (by decide +kernel)
theorem en_in_7 : Cond.instantiable RX8 7 ∈ lw_tbl := List.mem_of_getElem? (i := 426) (by decide +kernel)
theorem en_in_8 : Cond.instantiable RX9 9 ∈ lw_tbl := List.mem_of_getElem? (i := 138) (by decide +kernel)
theorem en_in_9 : Cond.instantiable RX10 4 ∈ lw_tbl := List.mem_of_getElem? (i := 1003) (by decide +kernel)
theorem en_in_10 : Cond.instantiable RX11 10 ∈ lw_tbl := List.mem_of_getElem? (i := 130) (by decide +kernel)
theorem en_in_11 : Cond.instantiable RX12 63 ∈ lw_tbl := List.mem_of_getElem? (i := 1235) (by decide +kernel)
theorem en_ao_RX0 : Cond.arrayOver (.object RX0) ∈ lw_tbl := List.mem_of_getElem? (i := 144) (by decide +kernel)
theorem en_ao_RX4 : Cond.arrayOver (.object RX4) ∈ lw_tbl := List.mem_of_getElem? (i := 148) (by decide +kernel)
theorem en_ao_RX7 : Cond.arrayOver (.object RX7) ∈ lw_tbl := List.mem_of_getElem? (i := 146) (by decide +kernel)
theorem en_ao_RX9 : Cond.arrayOver (.object RX9) ∈ lw_tbl := List.mem_of_getElem? (i := 302) (by decide +kernel)
theorem en_ao_RX10 : Cond.arrayOver (.object RX10) ∈ lw_tbl := List.mem_of_getElem? (i := 491) (by decide +kernel)
theorem en_aoI : Cond.arrayOver (.array .int) ∈ lw_tbl := List.mem_of_getElem? (i := 432) (by decide +kernel)
theorem en_nw_0 : Cond.methodLinkNest RX9 51 ⟨RX7, "<init>", "()V"⟩ RX11 ∈ lw_tbl := List.mem_of_getElem? (i := 214) (by decide +kernel)
theorem en_nw_1 : Cond.methodLinkNest RX9 52 ⟨RX4, "<init>", "()V"⟩ RX11 ∈ lw_tbl := List.mem_of_getElem? (i := 244) (by decide +kernel)
theorem en_nw_2 : Cond.methodLinkNest RX11 22 ⟨RX6, "<init>", "()V"⟩ RX11 ∈ lw_tbl := List.mem_of_getElem? (i := 305) (by decide +kernel)
theorem en_nw_3 : Cond.methodLinkNest RX6 20 ⟨RX7, "<init>", "()V"⟩ RX11 ∈ lw_tbl := List.mem_of_getElem? (i := 312) (by decide +kernel)
theorem en_nw_4 : Cond.methodLinkNest RX6 27 ⟨RX4, "<init>", "()V"⟩ RX11 ∈ lw_tbl := List.mem_of_getElem? (i := 314) (by decide +kernel)
theorem en_nw_5 : Cond.methodLinkNest RX11 29 ⟨RX5, "<init>", "()V"⟩ RX11 ∈ lw_tbl := List.mem_of_getElem? (i := 360) (by decide +kernel)
theorem en_nw_6 : Cond.methodLinkNest RX11 36 ⟨RX8, "<init>", "()V"⟩ RX11 ∈ lw_tbl := List.mem_of_getElem? (i := 427) (by decide +kernel)
theorem en_nw_7 : Cond.methodLinkNest RX11 43 ⟨RX3, "<init>", "()V"⟩ RX11 ∈ lw_tbl := List.mem_of_getElem? (i := 459) (by decide +kernel)
theorem en_nw_8 : Cond.methodLinkNest RX11 50 ⟨RX2, "<init>", "()V"⟩ RX11 ∈ lw_tbl := List.mem_of_getElem? (i := 473) (by decide +kernel)
theorem en_nw_9 : Cond.methodLinkNest RX5 72 ⟨RX11, "firstRow", "([I)V"⟩ RX11 ∈ lw_tbl := List.mem_of_getElem? (i := 819) (by decide +kernel)
theorem en_nw_10 : Cond.methodLinkNest RX11 316 ⟨RX10, "<init>", "()V"⟩ RX11 ∈ lw_tbl := List.mem_of_getElem? (i := 1004) (by decide +kernel)
