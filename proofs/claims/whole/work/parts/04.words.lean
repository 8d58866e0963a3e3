/-! the words of the tables that stay good over a call, and where each one lies -/
def TT : List Cond := lw_tbl.filter goodWord
theorem tt_of {w : Cond} (h : w ∈ lw_tbl) (g : goodWord w = true) : w ∈ TT := List.mem_filter.mpr ⟨h, g⟩
theorem tt_in {w : Cond} (h : w ∈ TT) : w ∈ lw_tbl := (List.mem_filter.mp h).1
theorem tt_gd {w : Cond} (h : w ∈ TT) : (w.onTables && w.keeps) = true ∨ ∃ ty, w = .arrayClass ty := good_of_word (List.mem_filter.mp h).2
theorem tt_0 {w : Cond} (h : w ∈ tables_1) : w ∈ lw_tbl := List.mem_append_right _ h
theorem tt_1 {w : Cond} (h : w ∈ tables_1_1) : w ∈ lw_tbl := tt_0 (List.mem_append_left _ h)
theorem tt_2 {w : Cond} (h : w ∈ tables_1_2) : w ∈ lw_tbl := tt_0 (List.mem_append_right _ (List.mem_append_left _ h))
theorem tt_3 {w : Cond} (h : w ∈ tables_1_3) : w ∈ lw_tbl := tt_0 (List.mem_append_right _ (List.mem_append_right _ (List.mem_append_left _ h)))
theorem tt_4 {w : Cond} (h : w ∈ tables_1_4) : w ∈ lw_tbl := tt_0 (List.mem_append_right _ (List.mem_append_right _ (List.mem_append_right _ (List.mem_append_left _ h))))
theorem tt_5 {w : Cond} (h : w ∈ tables_1_5) : w ∈ lw_tbl := tt_0 (List.mem_append_right _ (List.mem_append_right _ (List.mem_append_right _ (List.mem_append_right _ h))))
theorem tt_s {w : Cond} (i : Nat) (h : (k2_sels lw_privs)[i]? = some w) : w ∈ lw_tbl := List.mem_append_left _ (List.mem_of_getElem? h)
theorem wi_L : Cond.initialized RL ∈ TT := tt_of (tt_1 (List.mem_of_getElem? (i := 0) rfl)) rfl
theorem wi_X7 : Cond.initialized RX7 ∈ TT := tt_of (tt_1 (List.mem_of_getElem? (i := 1) rfl)) rfl
theorem wi_X6 : Cond.initialized RX6 ∈ TT := tt_of (tt_1 (List.mem_of_getElem? (i := 2) rfl)) rfl
theorem wi_X2 : Cond.initialized RX2 ∈ TT := tt_of (tt_1 (List.mem_of_getElem? (i := 3) rfl)) rfl
theorem wi_X3 : Cond.initialized RX3 ∈ TT := tt_of (tt_1 (List.mem_of_getElem? (i := 4) rfl)) rfl
theorem wi_X4 : Cond.initialized RX4 ∈ TT := tt_of (tt_1 (List.mem_of_getElem? (i := 5) rfl)) rfl
theorem wi_X5 : Cond.initialized RX5 ∈ TT := tt_of (tt_1 (List.mem_of_getElem? (i := 6) rfl)) rfl
theorem wi_X1 : Cond.initialized RX1 ∈ TT := tt_of (tt_1 (List.mem_of_getElem? (i := 7) rfl)) rfl
theorem wi_X0 : Cond.initialized RX0 ∈ TT := tt_of (tt_1 (List.mem_of_getElem? (i := 8) rfl)) rfl
theorem wi_X8 : Cond.initialized RX8 ∈ TT := tt_of (tt_1 (List.mem_of_getElem? (i := 9) rfl)) rfl
theorem wi_J10 : Cond.initialized RJ10 ∈ TT := tt_of (tt_1 (List.mem_of_getElem? (i := 10) rfl)) rfl
theorem wi_J9 : Cond.initialized RJ9 ∈ TT := tt_of (tt_1 (List.mem_of_getElem? (i := 11) rfl)) rfl
theorem wi_J13 : Cond.initialized RJ13 ∈ TT := tt_of (tt_1 (List.mem_of_getElem? (i := 12) rfl)) rfl
theorem wc_L_7 : Cond.classLink RL 7 RX7 ∈ TT := tt_of (tt_1 (List.mem_of_getElem? (i := 13) rfl)) rfl
theorem wn_X7 : Cond.instantiable RX7 6 ∈ TT := tt_of (tt_1 (List.mem_of_getElem? (i := 14) rfl)) rfl
theorem wc_X7_7 : Cond.classLink RX7 7 RX6 ∈ TT := tt_of (tt_1 (List.mem_of_getElem? (i := 21) rfl)) rfl
theorem wn_X6 : Cond.instantiable RX6 2 ∈ TT := tt_of (tt_1 (List.mem_of_getElem? (i := 22) rfl)) rfl
theorem wa_int : Cond.arrayClass .int ∈ TT := tt_of (tt_1 (List.mem_of_getElem? (i := 35) rfl)) rfl
theorem wc_X7_16 : Cond.classLink RX7 16 RX2 ∈ TT := tt_of (tt_1 (List.mem_of_getElem? (i := 36) rfl)) rfl
theorem wn_X2 : Cond.instantiable RX2 7 ∈ TT := tt_of (tt_1 (List.mem_of_getElem? (i := 37) rfl)) rfl
theorem wc_X7_23 : Cond.classLink RX7 23 RX3 ∈ TT := tt_of (tt_1 (List.mem_of_getElem? (i := 83) rfl)) rfl
theorem wn_X3 : Cond.instantiable RX3 3 ∈ TT := tt_of (tt_1 (List.mem_of_getElem? (i := 84) rfl)) rfl
theorem wc_X3_9 : Cond.classLink RX3 9 RX2 ∈ TT := tt_of (tt_1 (List.mem_of_getElem? (i := 89) rfl)) rfl
theorem wc_X7_30 : Cond.classLink RX7 30 RX4 ∈ TT := tt_of (tt_1 (List.mem_of_getElem? (i := 103) rfl)) rfl
theorem wn_X4 : Cond.instantiable RX4 7 ∈ TT := tt_of (tt_1 (List.mem_of_getElem? (i := 104) rfl)) rfl
theorem wa_long : Cond.arrayClass .long ∈ TT := tt_of (tt_1 (List.mem_of_getElem? (i := 140) rfl)) rfl
theorem wc_X7_39 : Cond.classLink RX7 39 RX5 ∈ TT := tt_of (tt_1 (List.mem_of_getElem? (i := 141) rfl)) rfl
theorem wn_X5 : Cond.instantiable RX5 9 ∈ TT := tt_of (tt_1 (List.mem_of_getElem? (i := 142) rfl)) rfl
theorem wc_X7_48 : Cond.classLink RX7 48 RX1 ∈ TT := tt_of (tt_1 (List.mem_of_getElem? (i := 175) rfl)) rfl
theorem wn_X1 : Cond.instantiable RX1 3 ∈ TT := tt_of (tt_1 (List.mem_of_getElem? (i := 176) rfl)) rfl
theorem wk_X2_63 : Cond.constantLong RX2 63 (-1) ∈ TT := tt_of (tt_1 (List.mem_of_getElem? (i := 214) rfl)) rfl
theorem wk_X4_60 : Cond.constantLong RX4 60 (-1) ∈ TT := tt_of (tt_1 (List.mem_of_getElem? (i := 222) rfl)) rfl
theorem wk_J13_314 : Cond.constantLong RJ13 314 (6148914691236517205) ∈ TT := tt_of (tt_2 (List.mem_of_getElem? (i := 105) rfl)) rfl
theorem wk_J13_316 : Cond.constantLong RJ13 316 (3689348814741910323) ∈ TT := tt_of (tt_2 (List.mem_of_getElem? (i := 106) rfl)) rfl
theorem wk_J13_318 : Cond.constantLong RJ13 318 (1085102592571150095) ∈ TT := tt_of (tt_2 (List.mem_of_getElem? (i := 107) rfl)) rfl
theorem wk_X7_133 : Cond.constantLong RX7 133 (-1) ∈ TT := tt_of (tt_2 (List.mem_of_getElem? (i := 135) rfl)) rfl
theorem wk_X0_33 : Cond.constantLong RX0 33 (-1) ∈ TT := tt_of (tt_2 (List.mem_of_getElem? (i := 172) rfl)) rfl
theorem wk_X0_13 : Cond.constantLong RX0 13 (127) ∈ TT := tt_of (tt_2 (List.mem_of_getElem? (i := 232) rfl)) rfl
theorem wk_X0_15 : Cond.constantLong RX0 15 (282578800148737) ∈ TT := tt_of (tt_2 (List.mem_of_getElem? (i := 237) rfl)) rfl
theorem wk_X5_79 : Cond.constant RX5 79 (1048576) ∈ TT := tt_of (tt_3 (List.mem_of_getElem? (i := 14) rfl)) rfl
theorem wk_X1_51 : Cond.constantLong RX1 51 (-1) ∈ TT := tt_of (tt_3 (List.mem_of_getElem? (i := 96) rfl)) rfl
theorem wc_L_10 : Cond.classLink RL 10 RX8 ∈ TT := tt_of (tt_3 (List.mem_of_getElem? (i := 142) rfl)) rfl
theorem wn_X8 : Cond.instantiable RX8 27 ∈ TT := tt_of (tt_3 (List.mem_of_getElem? (i := 143) rfl)) rfl
theorem wa_boolean : Cond.arrayClass .boolean ∈ TT := tt_of (tt_3 (List.mem_of_getElem? (i := 230) rfl)) rfl
theorem ly_X1_0 : u_lay RX1 TX1 0 ∈ TT := tt_of (tt_1 (List.mem_of_getElem? (i := 185) (by decide +kernel))) (by decide +kernel)
theorem ly_X1_1 : u_lay RX1 TX1 1 ∈ TT := tt_of (tt_1 (List.mem_of_getElem? (i := 187) (by decide +kernel))) (by decide +kernel)
theorem ly_X1_2 : u_lay RX1 TX1 2 ∈ TT := tt_of (tt_1 (List.mem_of_getElem? (i := 189) (by decide +kernel))) (by decide +kernel)
theorem in_X1 : ∀ w ∈ u_ws RX1 TX1 3, w ∈ TT := by
  show ∀ w ∈ [u_lay RX1 TX1 0, u_lay RX1 TX1 1, u_lay RX1 TX1 2], w ∈ TT
  exact List.forall_mem_cons.mpr ⟨ly_X1_0, List.forall_mem_cons.mpr ⟨ly_X1_1, List.forall_mem_cons.mpr ⟨ly_X1_2, fun _ h => absurd h List.not_mem_nil⟩⟩⟩
theorem ly_X2_0 : u_lay RX2 TX2 0 ∈ TT := tt_of (tt_1 (List.mem_of_getElem? (i := 68) (by decide +kernel))) (by decide +kernel)
theorem ly_X2_1 : u_lay RX2 TX2 1 ∈ TT := tt_of (tt_1 (List.mem_of_getElem? (i := 70) (by decide +kernel))) (by decide +kernel)
theorem ly_X2_2 : u_lay RX2 TX2 2 ∈ TT := tt_of (tt_1 (List.mem_of_getElem? (i := 72) (by decide +kernel))) (by decide +kernel)
theorem ly_X2_3 : u_lay RX2 TX2 3 ∈ TT := tt_of (tt_1 (List.mem_of_getElem? (i := 74) (by decide +kernel))) (by decide +kernel)
theorem ly_X2_4 : u_lay RX2 TX2 4 ∈ TT := tt_of (tt_1 (List.mem_of_getElem? (i := 76) (by decide +kernel))) (by decide +kernel)
theorem ly_X2_5 : u_lay RX2 TX2 5 ∈ TT := tt_of (tt_1 (List.mem_of_getElem? (i := 78) (by decide +kernel))) (by decide +kernel)
theorem ly_X2_6 : u_lay RX2 TX2 6 ∈ TT := tt_of (tt_1 (List.mem_of_getElem? (i := 80) (by decide +kernel))) (by decide +kernel)
theorem in_X2 : ∀ w ∈ u_ws RX2 TX2 7, w ∈ TT := by
  show ∀ w ∈ [u_lay RX2 TX2 0, u_lay RX2 TX2 1, u_lay RX2 TX2 2, u_lay RX2 TX2 3, u_lay RX2 TX2 4, u_lay RX2 TX2 5, u_lay RX2 TX2 6], w ∈ TT
  exact List.forall_mem_cons.mpr ⟨ly_X2_0, List.forall_mem_cons.mpr ⟨ly_X2_1, List.forall_mem_cons.mpr ⟨ly_X2_2, List.forall_mem_cons.mpr ⟨ly_X2_3, List.forall_mem_cons.mpr ⟨ly_X2_4, List.forall_mem_cons.mpr ⟨ly_X2_5, List.forall_mem_cons.mpr ⟨ly_X2_6, fun _ h => absurd h List.not_mem_nil⟩⟩⟩⟩⟩⟩⟩
theorem ly_X3_0 : u_lay RX3 TX3 0 ∈ TT := tt_of (tt_1 (List.mem_of_getElem? (i := 96) (by decide +kernel))) (by decide +kernel)
theorem ly_X3_1 : u_lay RX3 TX3 1 ∈ TT := tt_of (tt_1 (List.mem_of_getElem? (i := 98) (by decide +kernel))) (by decide +kernel)
theorem ly_X3_2 : u_lay RX3 TX3 2 ∈ TT := tt_of (tt_1 (List.mem_of_getElem? (i := 100) (by decide +kernel))) (by decide +kernel)
theorem in_X3 : ∀ w ∈ u_ws RX3 TX3 3, w ∈ TT := by
  show ∀ w ∈ [u_lay RX3 TX3 0, u_lay RX3 TX3 1, u_lay RX3 TX3 2], w ∈ TT
  exact List.forall_mem_cons.mpr ⟨ly_X3_0, List.forall_mem_cons.mpr ⟨ly_X3_1, List.forall_mem_cons.mpr ⟨ly_X3_2, fun _ h => absurd h List.not_mem_nil⟩⟩⟩
theorem ly_X4_0 : u_lay RX4 TX4 0 ∈ TT := tt_of (tt_1 (List.mem_of_getElem? (i := 125) (by decide +kernel))) (by decide +kernel)
theorem ly_X4_1 : u_lay RX4 TX4 1 ∈ TT := tt_of (tt_1 (List.mem_of_getElem? (i := 127) (by decide +kernel))) (by decide +kernel)
theorem ly_X4_2 : u_lay RX4 TX4 2 ∈ TT := tt_of (tt_1 (List.mem_of_getElem? (i := 129) (by decide +kernel))) (by decide +kernel)
theorem ly_X4_3 : u_lay RX4 TX4 3 ∈ TT := tt_of (tt_1 (List.mem_of_getElem? (i := 131) (by decide +kernel))) (by decide +kernel)
theorem ly_X4_4 : u_lay RX4 TX4 4 ∈ TT := tt_of (tt_1 (List.mem_of_getElem? (i := 133) (by decide +kernel))) (by decide +kernel)
theorem ly_X4_5 : u_lay RX4 TX4 5 ∈ TT := tt_of (tt_1 (List.mem_of_getElem? (i := 135) (by decide +kernel))) (by decide +kernel)
theorem ly_X4_6 : u_lay RX4 TX4 6 ∈ TT := tt_of (tt_1 (List.mem_of_getElem? (i := 137) (by decide +kernel))) (by decide +kernel)
theorem in_X4 : ∀ w ∈ u_ws RX4 TX4 7, w ∈ TT := by
  show ∀ w ∈ [u_lay RX4 TX4 0, u_lay RX4 TX4 1, u_lay RX4 TX4 2, u_lay RX4 TX4 3, u_lay RX4 TX4 4, u_lay RX4 TX4 5, u_lay RX4 TX4 6], w ∈ TT
  exact List.forall_mem_cons.mpr ⟨ly_X4_0, List.forall_mem_cons.mpr ⟨ly_X4_1, List.forall_mem_cons.mpr ⟨ly_X4_2, List.forall_mem_cons.mpr ⟨ly_X4_3, List.forall_mem_cons.mpr ⟨ly_X4_4, List.forall_mem_cons.mpr ⟨ly_X4_5, List.forall_mem_cons.mpr ⟨ly_X4_6, fun _ h => absurd h List.not_mem_nil⟩⟩⟩⟩⟩⟩⟩
theorem ly_X5_0 : u_lay RX5 TX5 0 ∈ TT := tt_of (tt_1 (List.mem_of_getElem? (i := 156) (by decide +kernel))) (by decide +kernel)
theorem ly_X5_1 : u_lay RX5 TX5 1 ∈ TT := tt_of (tt_1 (List.mem_of_getElem? (i := 158) (by decide +kernel))) (by decide +kernel)
theorem ly_X5_2 : u_lay RX5 TX5 2 ∈ TT := tt_of (tt_1 (List.mem_of_getElem? (i := 160) (by decide +kernel))) (by decide +kernel)
theorem ly_X5_3 : u_lay RX5 TX5 3 ∈ TT := tt_of (tt_1 (List.mem_of_getElem? (i := 162) (by decide +kernel))) (by decide +kernel)
theorem ly_X5_4 : u_lay RX5 TX5 4 ∈ TT := tt_of (tt_1 (List.mem_of_getElem? (i := 164) (by decide +kernel))) (by decide +kernel)
theorem ly_X5_5 : u_lay RX5 TX5 5 ∈ TT := tt_of (tt_1 (List.mem_of_getElem? (i := 166) (by decide +kernel))) (by decide +kernel)
theorem ly_X5_6 : u_lay RX5 TX5 6 ∈ TT := tt_of (tt_1 (List.mem_of_getElem? (i := 168) (by decide +kernel))) (by decide +kernel)
theorem ly_X5_7 : u_lay RX5 TX5 7 ∈ TT := tt_of (tt_1 (List.mem_of_getElem? (i := 170) (by decide +kernel))) (by decide +kernel)
theorem ly_X5_8 : u_lay RX5 TX5 8 ∈ TT := tt_of (tt_1 (List.mem_of_getElem? (i := 172) (by decide +kernel))) (by decide +kernel)
theorem in_X5 : ∀ w ∈ u_ws RX5 TX5 9, w ∈ TT := by
  show ∀ w ∈ [u_lay RX5 TX5 0, u_lay RX5 TX5 1, u_lay RX5 TX5 2, u_lay RX5 TX5 3, u_lay RX5 TX5 4, u_lay RX5 TX5 5, u_lay RX5 TX5 6, u_lay RX5 TX5 7, u_lay RX5 TX5 8], w ∈ TT
  exact List.forall_mem_cons.mpr ⟨ly_X5_0, List.forall_mem_cons.mpr ⟨ly_X5_1, List.forall_mem_cons.mpr ⟨ly_X5_2, List.forall_mem_cons.mpr ⟨ly_X5_3, List.forall_mem_cons.mpr ⟨ly_X5_4, List.forall_mem_cons.mpr ⟨ly_X5_5, List.forall_mem_cons.mpr ⟨ly_X5_6, List.forall_mem_cons.mpr ⟨ly_X5_7, List.forall_mem_cons.mpr ⟨ly_X5_8, fun _ h => absurd h List.not_mem_nil⟩⟩⟩⟩⟩⟩⟩⟩⟩
theorem ly_X6_0 : u_lay RX6 TX6 0 ∈ TT := tt_of (tt_1 (List.mem_of_getElem? (i := 30) (by decide +kernel))) (by decide +kernel)
theorem ly_X6_1 : u_lay RX6 TX6 1 ∈ TT := tt_of (tt_1 (List.mem_of_getElem? (i := 32) (by decide +kernel))) (by decide +kernel)
theorem in_X6 : ∀ w ∈ u_ws RX6 TX6 2, w ∈ TT := by
  show ∀ w ∈ [u_lay RX6 TX6 0, u_lay RX6 TX6 1], w ∈ TT
  exact List.forall_mem_cons.mpr ⟨ly_X6_0, List.forall_mem_cons.mpr ⟨ly_X6_1, fun _ h => absurd h List.not_mem_nil⟩⟩
theorem ly_X7_0 : u_lay RX7 TX7 0 ∈ TT := tt_of (tt_1 (List.mem_of_getElem? (i := 236) (by decide +kernel))) (by decide +kernel)
theorem ly_X7_1 : u_lay RX7 TX7 1 ∈ TT := tt_of (tt_1 (List.mem_of_getElem? (i := 238) (by decide +kernel))) (by decide +kernel)
theorem ly_X7_2 : u_lay RX7 TX7 2 ∈ TT := tt_of (tt_2 (List.mem_of_getElem? (i := 0) (by decide +kernel))) (by decide +kernel)
theorem ly_X7_3 : u_lay RX7 TX7 3 ∈ TT := tt_of (tt_2 (List.mem_of_getElem? (i := 2) (by decide +kernel))) (by decide +kernel)
theorem ly_X7_4 : u_lay RX7 TX7 4 ∈ TT := tt_of (tt_2 (List.mem_of_getElem? (i := 4) (by decide +kernel))) (by decide +kernel)
theorem ly_X7_5 : u_lay RX7 TX7 5 ∈ TT := tt_of (tt_2 (List.mem_of_getElem? (i := 6) (by decide +kernel))) (by decide +kernel)
theorem in_X7 : ∀ w ∈ u_ws RX7 TX7 6, w ∈ TT := by
  show ∀ w ∈ [u_lay RX7 TX7 0, u_lay RX7 TX7 1, u_lay RX7 TX7 2, u_lay RX7 TX7 3, u_lay RX7 TX7 4, u_lay RX7 TX7 5], w ∈ TT
  exact List.forall_mem_cons.mpr ⟨ly_X7_0, List.forall_mem_cons.mpr ⟨ly_X7_1, List.forall_mem_cons.mpr ⟨ly_X7_2, List.forall_mem_cons.mpr ⟨ly_X7_3, List.forall_mem_cons.mpr ⟨ly_X7_4, List.forall_mem_cons.mpr ⟨ly_X7_5, fun _ h => absurd h List.not_mem_nil⟩⟩⟩⟩⟩⟩
theorem ly_X8_0 : u_lay RX8 TX8 0 ∈ TT := tt_of (tt_3 (List.mem_of_getElem? (i := 175) (by decide +kernel))) (by decide +kernel)
theorem ly_X8_1 : u_lay RX8 TX8 1 ∈ TT := tt_of (tt_3 (List.mem_of_getElem? (i := 177) (by decide +kernel))) (by decide +kernel)
theorem ly_X8_2 : u_lay RX8 TX8 2 ∈ TT := tt_of (tt_3 (List.mem_of_getElem? (i := 179) (by decide +kernel))) (by decide +kernel)
theorem ly_X8_3 : u_lay RX8 TX8 3 ∈ TT := tt_of (tt_3 (List.mem_of_getElem? (i := 181) (by decide +kernel))) (by decide +kernel)
theorem ly_X8_4 : u_lay RX8 TX8 4 ∈ TT := tt_of (tt_3 (List.mem_of_getElem? (i := 183) (by decide +kernel))) (by decide +kernel)
theorem ly_X8_5 : u_lay RX8 TX8 5 ∈ TT := tt_of (tt_3 (List.mem_of_getElem? (i := 185) (by decide +kernel))) (by decide +kernel)
theorem ly_X8_6 : u_lay RX8 TX8 6 ∈ TT := tt_of (tt_3 (List.mem_of_getElem? (i := 187) (by decide +kernel))) (by decide +kernel)
theorem ly_X8_7 : u_lay RX8 TX8 7 ∈ TT := tt_of (tt_3 (List.mem_of_getElem? (i := 189) (by decide +kernel))) (by decide +kernel)
theorem ly_X8_8 : u_lay RX8 TX8 8 ∈ TT := tt_of (tt_3 (List.mem_of_getElem? (i := 191) (by decide +kernel))) (by decide +kernel)
theorem ly_X8_9 : u_lay RX8 TX8 9 ∈ TT := tt_of (tt_3 (List.mem_of_getElem? (i := 193) (by decide +kernel))) (by decide +kernel)
theorem ly_X8_10 : u_lay RX8 TX8 10 ∈ TT := tt_of (tt_3 (List.mem_of_getElem? (i := 195) (by decide +kernel))) (by decide +kernel)
theorem ly_X8_11 : u_lay RX8 TX8 11 ∈ TT := tt_of (tt_3 (List.mem_of_getElem? (i := 197) (by decide +kernel))) (by decide +kernel)
theorem ly_X8_12 : u_lay RX8 TX8 12 ∈ TT := tt_of (tt_3 (List.mem_of_getElem? (i := 199) (by decide +kernel))) (by decide +kernel)
theorem ly_X8_13 : u_lay RX8 TX8 13 ∈ TT := tt_of (tt_3 (List.mem_of_getElem? (i := 201) (by decide +kernel))) (by decide +kernel)
theorem ly_X8_14 : u_lay RX8 TX8 14 ∈ TT := tt_of (tt_3 (List.mem_of_getElem? (i := 203) (by decide +kernel))) (by decide +kernel)
theorem ly_X8_15 : u_lay RX8 TX8 15 ∈ TT := tt_of (tt_3 (List.mem_of_getElem? (i := 205) (by decide +kernel))) (by decide +kernel)
theorem ly_X8_16 : u_lay RX8 TX8 16 ∈ TT := tt_of (tt_3 (List.mem_of_getElem? (i := 207) (by decide +kernel))) (by decide +kernel)
theorem ly_X8_17 : u_lay RX8 TX8 17 ∈ TT := tt_of (tt_3 (List.mem_of_getElem? (i := 209) (by decide +kernel))) (by decide +kernel)
theorem ly_X8_18 : u_lay RX8 TX8 18 ∈ TT := tt_of (tt_3 (List.mem_of_getElem? (i := 211) (by decide +kernel))) (by decide +kernel)
theorem ly_X8_19 : u_lay RX8 TX8 19 ∈ TT := tt_of (tt_3 (List.mem_of_getElem? (i := 213) (by decide +kernel))) (by decide +kernel)
theorem ly_X8_20 : u_lay RX8 TX8 20 ∈ TT := tt_of (tt_3 (List.mem_of_getElem? (i := 215) (by decide +kernel))) (by decide +kernel)
theorem ly_X8_21 : u_lay RX8 TX8 21 ∈ TT := tt_of (tt_3 (List.mem_of_getElem? (i := 217) (by decide +kernel))) (by decide +kernel)
theorem ly_X8_22 : u_lay RX8 TX8 22 ∈ TT := tt_of (tt_3 (List.mem_of_getElem? (i := 219) (by decide +kernel))) (by decide +kernel)
theorem ly_X8_23 : u_lay RX8 TX8 23 ∈ TT := tt_of (tt_3 (List.mem_of_getElem? (i := 221) (by decide +kernel))) (by decide +kernel)
theorem ly_X8_24 : u_lay RX8 TX8 24 ∈ TT := tt_of (tt_3 (List.mem_of_getElem? (i := 223) (by decide +kernel))) (by decide +kernel)
theorem ly_X8_25 : u_lay RX8 TX8 25 ∈ TT := tt_of (tt_3 (List.mem_of_getElem? (i := 225) (by decide +kernel))) (by decide +kernel)
theorem ly_X8_26 : u_lay RX8 TX8 26 ∈ TT := tt_of (tt_3 (List.mem_of_getElem? (i := 227) (by decide +kernel))) (by decide +kernel)
theorem in_X8 : ∀ w ∈ u_ws RX8 TX8 27, w ∈ TT := by
  show ∀ w ∈ [u_lay RX8 TX8 0, u_lay RX8 TX8 1, u_lay RX8 TX8 2, u_lay RX8 TX8 3, u_lay RX8 TX8 4, u_lay RX8 TX8 5, u_lay RX8 TX8 6, u_lay RX8 TX8 7, u_lay RX8 TX8 8, u_lay RX8 TX8 9, u_lay RX8 TX8 10, u_lay RX8 TX8 11, u_lay RX8 TX8 12, u_lay RX8 TX8 13, u_lay RX8 TX8 14, u_lay RX8 TX8 15, u_lay RX8 TX8 16, u_lay RX8 TX8 17, u_lay RX8 TX8 18, u_lay RX8 TX8 19, u_lay RX8 TX8 20, u_lay RX8 TX8 21, u_lay RX8 TX8 22, u_lay RX8 TX8 23, u_lay RX8 TX8 24, u_lay RX8 TX8 25, u_lay RX8 TX8 26], w ∈ TT
  exact List.forall_mem_cons.mpr ⟨ly_X8_0, List.forall_mem_cons.mpr ⟨ly_X8_1, List.forall_mem_cons.mpr ⟨ly_X8_2, List.forall_mem_cons.mpr ⟨ly_X8_3, List.forall_mem_cons.mpr ⟨ly_X8_4, List.forall_mem_cons.mpr ⟨ly_X8_5, List.forall_mem_cons.mpr ⟨ly_X8_6, List.forall_mem_cons.mpr ⟨ly_X8_7, List.forall_mem_cons.mpr ⟨ly_X8_8, List.forall_mem_cons.mpr ⟨ly_X8_9, List.forall_mem_cons.mpr ⟨ly_X8_10, List.forall_mem_cons.mpr ⟨ly_X8_11, List.forall_mem_cons.mpr ⟨ly_X8_12, List.forall_mem_cons.mpr ⟨ly_X8_13, List.forall_mem_cons.mpr ⟨ly_X8_14, List.forall_mem_cons.mpr ⟨ly_X8_15, List.forall_mem_cons.mpr ⟨ly_X8_16, List.forall_mem_cons.mpr ⟨ly_X8_17, List.forall_mem_cons.mpr ⟨ly_X8_18, List.forall_mem_cons.mpr ⟨ly_X8_19, List.forall_mem_cons.mpr ⟨ly_X8_20, List.forall_mem_cons.mpr ⟨ly_X8_21, List.forall_mem_cons.mpr ⟨ly_X8_22, List.forall_mem_cons.mpr ⟨ly_X8_23, List.forall_mem_cons.mpr ⟨ly_X8_24, List.forall_mem_cons.mpr ⟨ly_X8_25, List.forall_mem_cons.mpr ⟨ly_X8_26, fun _ h => absurd h List.not_mem_nil⟩⟩⟩⟩⟩⟩⟩⟩⟩⟩⟩⟩⟩⟩⟩⟩⟩⟩⟩⟩⟩⟩⟩⟩⟩⟩⟩
/-- a field's site: the pool number idx of the class own names field k of the kind ci -/
def XF (own : String) (idx ci k : Nat) (q : vw_C) : Prop := vwCl[ci]? = some q ∧ k < q.2.2 ∧ Cond.fieldLink own idx (q.2.1 k).1 (q.2.1 k).2.1 (q.2.1 k).2.2.1 ∈ TT ∧ ∀ w ∈ u_ws q.1 q.2.1 q.2.2, w ∈ TT
/-- a kind's fields: their types and names -/
def XP (q : vw_C) (ty : Nat → FieldType) : Prop := (∀ k, k < q.2.2 → parseFieldDescriptor (q.2.1 k).2.2.1 = some (ty k)) ∧ ∀ a, a < q.2.2 → ∀ b, b < q.2.2 → a ≠ b → (q.2.1 a).2.1 ≠ (q.2.1 b).2.1
theorem xp_X1 : XP (RX1, TX1, 3) tyX1 := ⟨tyX1_ok, nmX1⟩
theorem xp_X2 : XP (RX2, TX2, 7) tyX2 := ⟨tyX2_ok, nmX2⟩
theorem xp_X3 : XP (RX3, TX3, 3) tyX3 := ⟨tyX3_ok, nmX3⟩
theorem xp_X4 : XP (RX4, TX4, 7) tyX4 := ⟨tyX4_ok, nmX4⟩
theorem xp_X5 : XP (RX5, TX5, 9) tyX5 := ⟨tyX5_ok, nmX5⟩
theorem xp_X6 : XP (RX6, TX6, 2) tyX6 := ⟨tyX6_ok, nmX6⟩
theorem xp_X7 : XP (RX7, TX7, 6) tyX7 := ⟨tyX7_ok, nmX7⟩
theorem xp_X8 : XP (RX8, TX8, 27) tyX8 := ⟨tyX8_ok, nmX8⟩
theorem xf_X6_11 : XF RX6 11 5 0 (RX6, TX6, 2) := ⟨rfl, Nat.le_of_ble_eq_true rfl, tt_of (tt_1 (List.mem_of_getElem? (i := 27) rfl)) rfl, in_X6⟩
theorem xf_X6_15 : XF RX6 15 5 1 (RX6, TX6, 2) := ⟨rfl, Nat.le_of_ble_eq_true rfl, tt_of (tt_1 (List.mem_of_getElem? (i := 28) rfl)) rfl, in_X6⟩
theorem xf_X7_62 : XF RX7 62 5 1 (RX6, TX6, 2) := ⟨rfl, Nat.le_of_ble_eq_true rfl, tt_of (tt_1 (List.mem_of_getElem? (i := 29) rfl)) rfl, in_X6⟩
theorem xf_X2_7 : XF RX2 7 1 0 (RX2, TX2, 7) := ⟨rfl, Nat.le_of_ble_eq_true rfl, tt_of (tt_1 (List.mem_of_getElem? (i := 42) rfl)) rfl, in_X2⟩
theorem xf_X4_36 : XF RX4 36 1 0 (RX2, TX2, 7) := ⟨rfl, Nat.le_of_ble_eq_true rfl, tt_of (tt_1 (List.mem_of_getElem? (i := 43) rfl)) rfl, in_X2⟩
theorem xf_X6_37 : XF RX6 37 1 0 (RX2, TX2, 7) := ⟨rfl, Nat.le_of_ble_eq_true rfl, tt_of (tt_1 (List.mem_of_getElem? (i := 44) rfl)) rfl, in_X2⟩
theorem xf_X7_103 : XF RX7 103 1 0 (RX2, TX2, 7) := ⟨rfl, Nat.le_of_ble_eq_true rfl, tt_of (tt_1 (List.mem_of_getElem? (i := 45) rfl)) rfl, in_X2⟩
theorem xf_X2_13 : XF RX2 13 1 1 (RX2, TX2, 7) := ⟨rfl, Nat.le_of_ble_eq_true rfl, tt_of (tt_1 (List.mem_of_getElem? (i := 46) rfl)) rfl, in_X2⟩
theorem xf_X4_41 : XF RX4 41 1 1 (RX2, TX2, 7) := ⟨rfl, Nat.le_of_ble_eq_true rfl, tt_of (tt_1 (List.mem_of_getElem? (i := 47) rfl)) rfl, in_X2⟩
theorem xf_X6_25 : XF RX6 25 1 1 (RX2, TX2, 7) := ⟨rfl, Nat.le_of_ble_eq_true rfl, tt_of (tt_1 (List.mem_of_getElem? (i := 48) rfl)) rfl, in_X2⟩
theorem xf_X7_106 : XF RX7 106 1 1 (RX2, TX2, 7) := ⟨rfl, Nat.le_of_ble_eq_true rfl, tt_of (tt_1 (List.mem_of_getElem? (i := 49) rfl)) rfl, in_X2⟩
theorem xf_X2_18 : XF RX2 18 1 2 (RX2, TX2, 7) := ⟨rfl, Nat.le_of_ble_eq_true rfl, tt_of (tt_1 (List.mem_of_getElem? (i := 50) rfl)) rfl, in_X2⟩
theorem xf_X6_30 : XF RX6 30 1 2 (RX2, TX2, 7) := ⟨rfl, Nat.le_of_ble_eq_true rfl, tt_of (tt_1 (List.mem_of_getElem? (i := 51) rfl)) rfl, in_X2⟩
theorem xf_X7_99 : XF RX7 99 1 2 (RX2, TX2, 7) := ⟨rfl, Nat.le_of_ble_eq_true rfl, tt_of (tt_1 (List.mem_of_getElem? (i := 52) rfl)) rfl, in_X2⟩
theorem xf_X4_113 : XF RX4 113 1 2 (RX2, TX2, 7) := ⟨rfl, Nat.le_of_ble_eq_true rfl, tt_of (tt_1 (List.mem_of_getElem? (i := 53) rfl)) rfl, in_X2⟩
theorem xf_X2_22 : XF RX2 22 1 3 (RX2, TX2, 7) := ⟨rfl, Nat.le_of_ble_eq_true rfl, tt_of (tt_1 (List.mem_of_getElem? (i := 54) rfl)) rfl, in_X2⟩
theorem xf_X7_76 : XF RX7 76 1 3 (RX2, TX2, 7) := ⟨rfl, Nat.le_of_ble_eq_true rfl, tt_of (tt_1 (List.mem_of_getElem? (i := 55) rfl)) rfl, in_X2⟩
theorem xf_X4_94 : XF RX4 94 1 3 (RX2, TX2, 7) := ⟨rfl, Nat.le_of_ble_eq_true rfl, tt_of (tt_1 (List.mem_of_getElem? (i := 56) rfl)) rfl, in_X2⟩
theorem xf_X5_111 : XF RX5 111 1 3 (RX2, TX2, 7) := ⟨rfl, Nat.le_of_ble_eq_true rfl, tt_of (tt_1 (List.mem_of_getElem? (i := 57) rfl)) rfl, in_X2⟩
theorem xf_X2_26 : XF RX2 26 1 4 (RX2, TX2, 7) := ⟨rfl, Nat.le_of_ble_eq_true rfl, tt_of (tt_1 (List.mem_of_getElem? (i := 58) rfl)) rfl, in_X2⟩
theorem xf_X7_80 : XF RX7 80 1 4 (RX2, TX2, 7) := ⟨rfl, Nat.le_of_ble_eq_true rfl, tt_of (tt_1 (List.mem_of_getElem? (i := 59) rfl)) rfl, in_X2⟩
theorem xf_X4_100 : XF RX4 100 1 4 (RX2, TX2, 7) := ⟨rfl, Nat.le_of_ble_eq_true rfl, tt_of (tt_1 (List.mem_of_getElem? (i := 60) rfl)) rfl, in_X2⟩
theorem xf_X5_106 : XF RX5 106 1 4 (RX2, TX2, 7) := ⟨rfl, Nat.le_of_ble_eq_true rfl, tt_of (tt_1 (List.mem_of_getElem? (i := 61) rfl)) rfl, in_X2⟩
theorem xf_X2_29 : XF RX2 29 1 5 (RX2, TX2, 7) := ⟨rfl, Nat.le_of_ble_eq_true rfl, tt_of (tt_1 (List.mem_of_getElem? (i := 62) rfl)) rfl, in_X2⟩
theorem xf_X4_74 : XF RX4 74 1 5 (RX2, TX2, 7) := ⟨rfl, Nat.le_of_ble_eq_true rfl, tt_of (tt_1 (List.mem_of_getElem? (i := 63) rfl)) rfl, in_X2⟩
theorem xf_X7_169 : XF RX7 169 1 5 (RX2, TX2, 7) := ⟨rfl, Nat.le_of_ble_eq_true rfl, tt_of (tt_1 (List.mem_of_getElem? (i := 64) rfl)) rfl, in_X2⟩
theorem xf_X2_32 : XF RX2 32 1 6 (RX2, TX2, 7) := ⟨rfl, Nat.le_of_ble_eq_true rfl, tt_of (tt_1 (List.mem_of_getElem? (i := 65) rfl)) rfl, in_X2⟩
theorem xf_X4_80 : XF RX4 80 1 6 (RX2, TX2, 7) := ⟨rfl, Nat.le_of_ble_eq_true rfl, tt_of (tt_1 (List.mem_of_getElem? (i := 66) rfl)) rfl, in_X2⟩
theorem xf_X7_172 : XF RX7 172 1 6 (RX2, TX2, 7) := ⟨rfl, Nat.le_of_ble_eq_true rfl, tt_of (tt_1 (List.mem_of_getElem? (i := 67) rfl)) rfl, in_X2⟩
theorem xf_X3_11 : XF RX3 11 2 0 (RX3, TX3, 3) := ⟨rfl, Nat.le_of_ble_eq_true rfl, tt_of (tt_1 (List.mem_of_getElem? (i := 92) rfl)) rfl, in_X3⟩
theorem xf_X3_15 : XF RX3 15 2 1 (RX3, TX3, 3) := ⟨rfl, Nat.le_of_ble_eq_true rfl, tt_of (tt_1 (List.mem_of_getElem? (i := 93) rfl)) rfl, in_X3⟩
theorem xf_X3_19 : XF RX3 19 2 2 (RX3, TX3, 3) := ⟨rfl, Nat.le_of_ble_eq_true rfl, tt_of (tt_1 (List.mem_of_getElem? (i := 94) rfl)) rfl, in_X3⟩
theorem xf_X7_204 : XF RX7 204 2 2 (RX3, TX3, 3) := ⟨rfl, Nat.le_of_ble_eq_true rfl, tt_of (tt_1 (List.mem_of_getElem? (i := 95) rfl)) rfl, in_X3⟩
theorem xf_X4_32 : XF RX4 32 3 0 (RX4, TX4, 7) := ⟨rfl, Nat.le_of_ble_eq_true rfl, tt_of (tt_1 (List.mem_of_getElem? (i := 109) rfl)) rfl, in_X4⟩
theorem xf_X4_7 : XF RX4 7 3 1 (RX4, TX4, 7) := ⟨rfl, Nat.le_of_ble_eq_true rfl, tt_of (tt_1 (List.mem_of_getElem? (i := 110) rfl)) rfl, in_X4⟩
theorem xf_X7_152 : XF RX7 152 3 1 (RX4, TX4, 7) := ⟨rfl, Nat.le_of_ble_eq_true rfl, tt_of (tt_1 (List.mem_of_getElem? (i := 111) rfl)) rfl, in_X4⟩
theorem xf_X4_13 : XF RX4 13 3 2 (RX4, TX4, 7) := ⟨rfl, Nat.le_of_ble_eq_true rfl, tt_of (tt_1 (List.mem_of_getElem? (i := 112) rfl)) rfl, in_X4⟩
theorem xf_X5_99 : XF RX5 99 3 2 (RX4, TX4, 7) := ⟨rfl, Nat.le_of_ble_eq_true rfl, tt_of (tt_1 (List.mem_of_getElem? (i := 113) rfl)) rfl, in_X4⟩
theorem xf_X4_16 : XF RX4 16 3 3 (RX4, TX4, 7) := ⟨rfl, Nat.le_of_ble_eq_true rfl, tt_of (tt_1 (List.mem_of_getElem? (i := 114) rfl)) rfl, in_X4⟩
theorem xf_X5_96 : XF RX5 96 3 3 (RX4, TX4, 7) := ⟨rfl, Nat.le_of_ble_eq_true rfl, tt_of (tt_1 (List.mem_of_getElem? (i := 115) rfl)) rfl, in_X4⟩
theorem xf_X4_19 : XF RX4 19 3 4 (RX4, TX4, 7) := ⟨rfl, Nat.le_of_ble_eq_true rfl, tt_of (tt_1 (List.mem_of_getElem? (i := 116) rfl)) rfl, in_X4⟩
theorem xf_X1_31 : XF RX1 31 3 4 (RX4, TX4, 7) := ⟨rfl, Nat.le_of_ble_eq_true rfl, tt_of (tt_1 (List.mem_of_getElem? (i := 117) rfl)) rfl, in_X4⟩
theorem xf_X7_86 : XF RX7 86 3 4 (RX4, TX4, 7) := ⟨rfl, Nat.le_of_ble_eq_true rfl, tt_of (tt_1 (List.mem_of_getElem? (i := 118) rfl)) rfl, in_X4⟩
theorem xf_X4_25 : XF RX4 25 3 5 (RX4, TX4, 7) := ⟨rfl, Nat.le_of_ble_eq_true rfl, tt_of (tt_1 (List.mem_of_getElem? (i := 119) rfl)) rfl, in_X4⟩
theorem xf_X5_46 : XF RX5 46 3 5 (RX4, TX4, 7) := ⟨rfl, Nat.le_of_ble_eq_true rfl, tt_of (tt_1 (List.mem_of_getElem? (i := 120) rfl)) rfl, in_X4⟩
theorem xf_X7_145 : XF RX7 145 3 5 (RX4, TX4, 7) := ⟨rfl, Nat.le_of_ble_eq_true rfl, tt_of (tt_1 (List.mem_of_getElem? (i := 121) rfl)) rfl, in_X4⟩
theorem xf_X4_29 : XF RX4 29 3 6 (RX4, TX4, 7) := ⟨rfl, Nat.le_of_ble_eq_true rfl, tt_of (tt_1 (List.mem_of_getElem? (i := 122) rfl)) rfl, in_X4⟩
theorem xf_X1_47 : XF RX1 47 3 6 (RX4, TX4, 7) := ⟨rfl, Nat.le_of_ble_eq_true rfl, tt_of (tt_1 (List.mem_of_getElem? (i := 123) rfl)) rfl, in_X4⟩
theorem xf_X7_163 : XF RX7 163 3 6 (RX4, TX4, 7) := ⟨rfl, Nat.le_of_ble_eq_true rfl, tt_of (tt_1 (List.mem_of_getElem? (i := 124) rfl)) rfl, in_X4⟩
theorem xf_X5_38 : XF RX5 38 4 0 (RX5, TX5, 9) := ⟨rfl, Nat.le_of_ble_eq_true rfl, tt_of (tt_1 (List.mem_of_getElem? (i := 147) rfl)) rfl, in_X5⟩
theorem xf_X5_11 : XF RX5 11 4 1 (RX5, TX5, 9) := ⟨rfl, Nat.le_of_ble_eq_true rfl, tt_of (tt_1 (List.mem_of_getElem? (i := 148) rfl)) rfl, in_X5⟩
theorem xf_X5_15 : XF RX5 15 4 2 (RX5, TX5, 9) := ⟨rfl, Nat.le_of_ble_eq_true rfl, tt_of (tt_1 (List.mem_of_getElem? (i := 149) rfl)) rfl, in_X5⟩
theorem xf_X5_19 : XF RX5 19 4 3 (RX5, TX5, 9) := ⟨rfl, Nat.le_of_ble_eq_true rfl, tt_of (tt_1 (List.mem_of_getElem? (i := 150) rfl)) rfl, in_X5⟩
theorem xf_X5_22 : XF RX5 22 4 4 (RX5, TX5, 9) := ⟨rfl, Nat.le_of_ble_eq_true rfl, tt_of (tt_1 (List.mem_of_getElem? (i := 151) rfl)) rfl, in_X5⟩
theorem xf_X5_25 : XF RX5 25 4 5 (RX5, TX5, 9) := ⟨rfl, Nat.le_of_ble_eq_true rfl, tt_of (tt_1 (List.mem_of_getElem? (i := 152) rfl)) rfl, in_X5⟩
theorem xf_X5_28 : XF RX5 28 4 6 (RX5, TX5, 9) := ⟨rfl, Nat.le_of_ble_eq_true rfl, tt_of (tt_1 (List.mem_of_getElem? (i := 153) rfl)) rfl, in_X5⟩
theorem xf_X5_31 : XF RX5 31 4 7 (RX5, TX5, 9) := ⟨rfl, Nat.le_of_ble_eq_true rfl, tt_of (tt_1 (List.mem_of_getElem? (i := 154) rfl)) rfl, in_X5⟩
theorem xf_X5_35 : XF RX5 35 4 8 (RX5, TX5, 9) := ⟨rfl, Nat.le_of_ble_eq_true rfl, tt_of (tt_1 (List.mem_of_getElem? (i := 155) rfl)) rfl, in_X5⟩
theorem xf_X1_18 : XF RX1 18 0 0 (RX1, TX1, 3) := ⟨rfl, Nat.le_of_ble_eq_true rfl, tt_of (tt_1 (List.mem_of_getElem? (i := 181) rfl)) rfl, in_X1⟩
theorem xf_X1_9 : XF RX1 9 0 1 (RX1, TX1, 3) := ⟨rfl, Nat.le_of_ble_eq_true rfl, tt_of (tt_1 (List.mem_of_getElem? (i := 182) rfl)) rfl, in_X1⟩
theorem xf_X1_15 : XF RX1 15 0 2 (RX1, TX1, 3) := ⟨rfl, Nat.le_of_ble_eq_true rfl, tt_of (tt_1 (List.mem_of_getElem? (i := 183) rfl)) rfl, in_X1⟩
theorem xf_X7_198 : XF RX7 198 0 2 (RX1, TX1, 3) := ⟨rfl, Nat.le_of_ble_eq_true rfl, tt_of (tt_1 (List.mem_of_getElem? (i := 184) rfl)) rfl, in_X1⟩
theorem xf_X7_10 : XF RX7 10 6 0 (RX7, TX7, 6) := ⟨rfl, Nat.le_of_ble_eq_true rfl, tt_of (tt_1 (List.mem_of_getElem? (i := 230) rfl)) rfl, in_X7⟩
theorem xf_X7_19 : XF RX7 19 6 1 (RX7, TX7, 6) := ⟨rfl, Nat.le_of_ble_eq_true rfl, tt_of (tt_1 (List.mem_of_getElem? (i := 231) rfl)) rfl, in_X7⟩
theorem xf_X7_26 : XF RX7 26 6 2 (RX7, TX7, 6) := ⟨rfl, Nat.le_of_ble_eq_true rfl, tt_of (tt_1 (List.mem_of_getElem? (i := 232) rfl)) rfl, in_X7⟩
theorem xf_X7_35 : XF RX7 35 6 3 (RX7, TX7, 6) := ⟨rfl, Nat.le_of_ble_eq_true rfl, tt_of (tt_1 (List.mem_of_getElem? (i := 233) rfl)) rfl, in_X7⟩
theorem xf_X7_44 : XF RX7 44 6 4 (RX7, TX7, 6) := ⟨rfl, Nat.le_of_ble_eq_true rfl, tt_of (tt_1 (List.mem_of_getElem? (i := 234) rfl)) rfl, in_X7⟩
theorem xf_X7_51 : XF RX7 51 6 5 (RX7, TX7, 6) := ⟨rfl, Nat.le_of_ble_eq_true rfl, tt_of (tt_1 (List.mem_of_getElem? (i := 235) rfl)) rfl, in_X7⟩
theorem xf_X8_7 : XF RX8 7 7 0 (RX8, TX8, 27) := ⟨rfl, Nat.le_of_ble_eq_true rfl, tt_of (tt_3 (List.mem_of_getElem? (i := 148) rfl)) rfl, in_X8⟩
theorem xf_X8_13 : XF RX8 13 7 1 (RX8, TX8, 27) := ⟨rfl, Nat.le_of_ble_eq_true rfl, tt_of (tt_3 (List.mem_of_getElem? (i := 149) rfl)) rfl, in_X8⟩
theorem xf_X8_69 : XF RX8 69 7 2 (RX8, TX8, 27) := ⟨rfl, Nat.le_of_ble_eq_true rfl, tt_of (tt_3 (List.mem_of_getElem? (i := 150) rfl)) rfl, in_X8⟩
theorem xf_X8_16 : XF RX8 16 7 3 (RX8, TX8, 27) := ⟨rfl, Nat.le_of_ble_eq_true rfl, tt_of (tt_3 (List.mem_of_getElem? (i := 151) rfl)) rfl, in_X8⟩
theorem xf_X8_76 : XF RX8 76 7 4 (RX8, TX8, 27) := ⟨rfl, Nat.le_of_ble_eq_true rfl, tt_of (tt_3 (List.mem_of_getElem? (i := 152) rfl)) rfl, in_X8⟩
theorem xf_X8_79 : XF RX8 79 7 5 (RX8, TX8, 27) := ⟨rfl, Nat.le_of_ble_eq_true rfl, tt_of (tt_3 (List.mem_of_getElem? (i := 153) rfl)) rfl, in_X8⟩
theorem xf_X8_82 : XF RX8 82 7 6 (RX8, TX8, 27) := ⟨rfl, Nat.le_of_ble_eq_true rfl, tt_of (tt_3 (List.mem_of_getElem? (i := 154) rfl)) rfl, in_X8⟩
theorem xf_X8_19 : XF RX8 19 7 7 (RX8, TX8, 27) := ⟨rfl, Nat.le_of_ble_eq_true rfl, tt_of (tt_3 (List.mem_of_getElem? (i := 155) rfl)) rfl, in_X8⟩
theorem xf_X8_125 : XF RX8 125 7 8 (RX8, TX8, 27) := ⟨rfl, Nat.le_of_ble_eq_true rfl, tt_of (tt_3 (List.mem_of_getElem? (i := 156) rfl)) rfl, in_X8⟩
theorem xf_X8_119 : XF RX8 119 7 9 (RX8, TX8, 27) := ⟨rfl, Nat.le_of_ble_eq_true rfl, tt_of (tt_3 (List.mem_of_getElem? (i := 157) rfl)) rfl, in_X8⟩
theorem xf_X8_122 : XF RX8 122 7 10 (RX8, TX8, 27) := ⟨rfl, Nat.le_of_ble_eq_true rfl, tt_of (tt_3 (List.mem_of_getElem? (i := 158) rfl)) rfl, in_X8⟩
theorem xf_X8_116 : XF RX8 116 7 11 (RX8, TX8, 27) := ⟨rfl, Nat.le_of_ble_eq_true rfl, tt_of (tt_3 (List.mem_of_getElem? (i := 159) rfl)) rfl, in_X8⟩
theorem xf_X8_22 : XF RX8 22 7 12 (RX8, TX8, 27) := ⟨rfl, Nat.le_of_ble_eq_true rfl, tt_of (tt_3 (List.mem_of_getElem? (i := 160) rfl)) rfl, in_X8⟩
theorem xf_X8_92 : XF RX8 92 7 13 (RX8, TX8, 27) := ⟨rfl, Nat.le_of_ble_eq_true rfl, tt_of (tt_3 (List.mem_of_getElem? (i := 161) rfl)) rfl, in_X8⟩
theorem xf_X8_25 : XF RX8 25 7 14 (RX8, TX8, 27) := ⟨rfl, Nat.le_of_ble_eq_true rfl, tt_of (tt_3 (List.mem_of_getElem? (i := 162) rfl)) rfl, in_X8⟩
theorem xf_X8_28 : XF RX8 28 7 15 (RX8, TX8, 27) := ⟨rfl, Nat.le_of_ble_eq_true rfl, tt_of (tt_3 (List.mem_of_getElem? (i := 163) rfl)) rfl, in_X8⟩
theorem xf_X8_31 : XF RX8 31 7 16 (RX8, TX8, 27) := ⟨rfl, Nat.le_of_ble_eq_true rfl, tt_of (tt_3 (List.mem_of_getElem? (i := 164) rfl)) rfl, in_X8⟩
theorem xf_X8_34 : XF RX8 34 7 17 (RX8, TX8, 27) := ⟨rfl, Nat.le_of_ble_eq_true rfl, tt_of (tt_3 (List.mem_of_getElem? (i := 165) rfl)) rfl, in_X8⟩
theorem xf_X8_38 : XF RX8 38 7 18 (RX8, TX8, 27) := ⟨rfl, Nat.le_of_ble_eq_true rfl, tt_of (tt_3 (List.mem_of_getElem? (i := 166) rfl)) rfl, in_X8⟩
theorem xf_X8_41 : XF RX8 41 7 19 (RX8, TX8, 27) := ⟨rfl, Nat.le_of_ble_eq_true rfl, tt_of (tt_3 (List.mem_of_getElem? (i := 167) rfl)) rfl, in_X8⟩
theorem xf_X8_44 : XF RX8 44 7 20 (RX8, TX8, 27) := ⟨rfl, Nat.le_of_ble_eq_true rfl, tt_of (tt_3 (List.mem_of_getElem? (i := 168) rfl)) rfl, in_X8⟩
theorem xf_X8_47 : XF RX8 47 7 21 (RX8, TX8, 27) := ⟨rfl, Nat.le_of_ble_eq_true rfl, tt_of (tt_3 (List.mem_of_getElem? (i := 169) rfl)) rfl, in_X8⟩
theorem xf_X8_50 : XF RX8 50 7 22 (RX8, TX8, 27) := ⟨rfl, Nat.le_of_ble_eq_true rfl, tt_of (tt_3 (List.mem_of_getElem? (i := 170) rfl)) rfl, in_X8⟩
theorem xf_X8_53 : XF RX8 53 7 23 (RX8, TX8, 27) := ⟨rfl, Nat.le_of_ble_eq_true rfl, tt_of (tt_3 (List.mem_of_getElem? (i := 171) rfl)) rfl, in_X8⟩
theorem xf_X8_56 : XF RX8 56 7 24 (RX8, TX8, 27) := ⟨rfl, Nat.le_of_ble_eq_true rfl, tt_of (tt_3 (List.mem_of_getElem? (i := 172) rfl)) rfl, in_X8⟩
theorem xf_X8_59 : XF RX8 59 7 25 (RX8, TX8, 27) := ⟨rfl, Nat.le_of_ble_eq_true rfl, tt_of (tt_3 (List.mem_of_getElem? (i := 173) rfl)) rfl, in_X8⟩
theorem xf_X8_62 : XF RX8 62 7 26 (RX8, TX8, 27) := ⟨rfl, Nat.le_of_ble_eq_true rfl, tt_of (tt_3 (List.mem_of_getElem? (i := 174) rfl)) rfl, in_X8⟩
/-- a method of an object, one of a class -/
def XV (y : MethodName) (bytes : ByteArray) (maxL : Nat) (ret : Option FieldType) (n : Nat) : Prop := Cond.instanceMethod y ∈ TT ∧ Cond.selects y.cls y y ∈ TT ∧ Cond.initialized y.cls ∈ TT ∧ Cond.code y bytes maxL ret ∈ TT ∧ (y.cls ≠ "java/lang/invoke/MethodHandle" ∧ y.cls ≠ "java/lang/invoke/VarHandle" ∧ (parseMethodDescriptor y.desc).map (fun d => d.parameters.length) = some n)
def XS (y : MethodName) (bytes : ByteArray) (maxL : Nat) (ret : Option FieldType) (n : Nat) : Prop := Cond.static y ∈ TT ∧ Cond.initialized y.cls ∈ TT ∧ Cond.code y bytes maxL ret ∈ TT ∧ (y.cls ≠ "java/lang/invoke/MethodHandle" ∧ y.cls ≠ "java/lang/invoke/VarHandle" ∧ (parseMethodDescriptor y.desc).map (fun d => d.parameters.length) = some n)
def XI (y : MethodName) (bytes : ByteArray) (maxL n : Nat) : Prop := y.name = "<init>" ∧ Cond.instanceMethod y ∈ TT ∧ Cond.initialized y.cls ∈ TT ∧ Cond.code y bytes maxL none ∈ TT ∧ (y.cls ≠ "java/lang/invoke/MethodHandle" ∧ y.cls ≠ "java/lang/invoke/VarHandle" ∧ (parseMethodDescriptor y.desc).map (fun d => d.parameters.length) = some n)
theorem xs_X0_number : XS yX0_number cX0_number 2 (some .int) 2 := ⟨tt_of (tt_1 (List.mem_of_getElem? (i := 204) rfl)) rfl, wi_X0, tt_of (tt_1 (List.mem_of_getElem? (i := 205) rfl)) rfl, ⟨by decide +kernel, by decide +kernel, by decide +kernel⟩⟩
theorem xs_X0_only : XS yX0_only cX0_only 2 (some .long) 2 := ⟨tt_of (tt_2 (List.mem_of_getElem? (i := 87) rfl)) rfl, wi_X0, tt_of (tt_2 (List.mem_of_getElem? (i := 88) rfl)) rfl, ⟨by decide +kernel, by decide +kernel, by decide +kernel⟩⟩
theorem xs_X0_inRow : XS yX0_inRow cX0_inRow 1 (some .long) 1 := ⟨tt_of (tt_2 (List.mem_of_getElem? (i := 230) rfl)) rfl, wi_X0, tt_of (tt_2 (List.mem_of_getElem? (i := 231) rfl)) rfl, ⟨by decide +kernel, by decide +kernel, by decide +kernel⟩⟩
theorem xs_X0_inColumn : XS yX0_inColumn cX0_inColumn 1 (some .long) 1 := ⟨tt_of (tt_2 (List.mem_of_getElem? (i := 235) rfl)) rfl, wi_X0, tt_of (tt_2 (List.mem_of_getElem? (i := 236) rfl)) rfl, ⟨by decide +kernel, by decide +kernel, by decide +kernel⟩⟩
theorem xs_X0_block : XS yX0_block cX0_block 9 (some .long) 4 := ⟨tt_of (tt_1 (List.mem_of_getElem? (i := 197) rfl)) rfl, wi_X0, tt_of (tt_1 (List.mem_of_getElem? (i := 198) rfl)) rfl, ⟨by decide +kernel, by decide +kernel, by decide +kernel⟩⟩
theorem xs_X0_first : XS yX0_first cX0_first 2 (some .long) 1 := ⟨tt_of (tt_1 (List.mem_of_getElem? (i := 216) rfl)) rfl, wi_X0, tt_of (tt_1 (List.mem_of_getElem? (i := 217) rfl)) rfl, ⟨by decide +kernel, by decide +kernel, by decide +kernel⟩⟩
theorem xs_X0_numberOfFirst : XS yX0_numberOfFirst cX0_numberOfFirst 2 (some .int) 1 := ⟨tt_of (tt_3 (List.mem_of_getElem? (i := 65) rfl)) rfl, wi_X0, tt_of (tt_3 (List.mem_of_getElem? (i := 66) rfl)) rfl, ⟨by decide +kernel, by decide +kernel, by decide +kernel⟩⟩
theorem xs_X0_pairsRight : XS yX0_pairsRight cX0_pairsRight 2 (some .long) 1 := ⟨tt_of (tt_2 (List.mem_of_getElem? (i := 121) rfl)) rfl, wi_X0, tt_of (tt_2 (List.mem_of_getElem? (i := 122) rfl)) rfl, ⟨by decide +kernel, by decide +kernel, by decide +kernel⟩⟩
theorem xs_X0_pairsBelow : XS yX0_pairsBelow cX0_pairsBelow 2 (some .long) 1 := ⟨tt_of (tt_2 (List.mem_of_getElem? (i := 129) rfl)) rfl, wi_X0, tt_of (tt_2 (List.mem_of_getElem? (i := 130) rfl)) rfl, ⟨by decide +kernel, by decide +kernel, by decide +kernel⟩⟩
theorem xs_X0_countPairs : XS yX0_countPairs cX0_countPairs 2 (some .int) 1 := ⟨tt_of (tt_2 (List.mem_of_getElem? (i := 205) rfl)) rfl, wi_X0, tt_of (tt_2 (List.mem_of_getElem? (i := 206) rfl)) rfl, ⟨by decide +kernel, by decide +kernel, by decide +kernel⟩⟩
theorem xs_X0_beside : XS yX0_beside cX0_beside 2 (some .long) 1 := ⟨tt_of (tt_1 (List.mem_of_getElem? (i := 228) rfl)) rfl, wi_X0, tt_of (tt_1 (List.mem_of_getElem? (i := 229) rfl)) rfl, ⟨by decide +kernel, by decide +kernel, by decide +kernel⟩⟩
theorem xs_X0_countInnerCorners : XS yX0_countInnerCorners cX0_countInnerCorners 12 (some .int) 1 := ⟨tt_of (tt_2 (List.mem_of_getElem? (i := 162) rfl)) rfl, wi_X0, tt_of (tt_2 (List.mem_of_getElem? (i := 163) rfl)) rfl, ⟨by decide +kernel, by decide +kernel, by decide +kernel⟩⟩
theorem xs_X0_countHoles : XS yX0_countHoles cX0_countHoles 12 (some .int) 2 := ⟨tt_of (tt_2 (List.mem_of_getElem? (i := 170) rfl)) rfl, wi_X0, tt_of (tt_2 (List.mem_of_getElem? (i := 171) rfl)) rfl, ⟨by decide +kernel, by decide +kernel, by decide +kernel⟩⟩
theorem xs_X0_connected : XS yX0_connected cX0_connected 11 (some .long) 2 := ⟨tt_of (tt_2 (List.mem_of_getElem? (i := 174) rfl)) rfl, wi_X0, tt_of (tt_2 (List.mem_of_getElem? (i := 175) rfl)) rfl, ⟨by decide +kernel, by decide +kernel, by decide +kernel⟩⟩
theorem xi_X1_init : XI yX1_init cX1_init 2 1 := ⟨rfl, tt_of (tt_1 (List.mem_of_getElem? (i := 178) rfl)) rfl, wi_X1, tt_of (tt_1 (List.mem_of_getElem? (i := 179) rfl)) rfl, ⟨by decide +kernel, by decide +kernel, by decide +kernel⟩⟩
theorem xv_X1_hasOrder : XV yX1_hasOrder cX1_hasOrder 2 (some .boolean) 1 := ⟨tt_of (tt_3 (List.mem_of_getElem? (i := 72) rfl)) rfl, tt_of (tt_3 (List.mem_of_getElem? (i := 73) rfl)) rfl, wi_X1, tt_of (tt_3 (List.mem_of_getElem? (i := 74) rfl)) rfl, ⟨by decide +kernel, by decide +kernel, by decide +kernel⟩⟩
theorem xv_X1_paint : XV yX1_paint cX1_paint 6 (some .int) 1 := ⟨tt_of (tt_3 (List.mem_of_getElem? (i := 76) rfl)) rfl, tt_of (tt_3 (List.mem_of_getElem? (i := 77) rfl)) rfl, wi_X1, tt_of (tt_3 (List.mem_of_getElem? (i := 78) rfl)) rfl, ⟨by decide +kernel, by decide +kernel, by decide +kernel⟩⟩
theorem xv_X1_smallestFree : XV yX1_smallestFree cX1_smallestFree 6 (some .int) 1 := ⟨tt_of (tt_3 (List.mem_of_getElem? (i := 107) rfl)) rfl, tt_of (tt_s 16 rfl) rfl, wi_X1, tt_of (tt_3 (List.mem_of_getElem? (i := 108) rfl)) rfl, ⟨by decide +kernel, by decide +kernel, by decide +kernel⟩⟩
theorem xv_X1_arrangeByNumber : XV yX1_arrangeByNumber cX1_arrangeByNumber 2 none 0 := ⟨tt_of (tt_3 (List.mem_of_getElem? (i := 81) rfl)) rfl, tt_of (tt_s 11 rfl) rfl, wi_X1, tt_of (tt_3 (List.mem_of_getElem? (i := 82) rfl)) rfl, ⟨by decide +kernel, by decide +kernel, by decide +kernel⟩⟩
theorem xv_X1_arrangeByNeighbours : XV yX1_arrangeByNeighbours cX1_arrangeByNeighbours 4 none 0 := ⟨tt_of (tt_3 (List.mem_of_getElem? (i := 85) rfl)) rfl, tt_of (tt_s 12 rfl) rfl, wi_X1, tt_of (tt_3 (List.mem_of_getElem? (i := 86) rfl)) rfl, ⟨by decide +kernel, by decide +kernel, by decide +kernel⟩⟩
theorem xv_X1_arrangeByRemoval : XV yX1_arrangeByRemoval cX1_arrangeByRemoval 4 none 0 := ⟨tt_of (tt_3 (List.mem_of_getElem? (i := 99) rfl)) rfl, tt_of (tt_s 14 rfl) rfl, wi_X1, tt_of (tt_3 (List.mem_of_getElem? (i := 100) rfl)) rfl, ⟨by decide +kernel, by decide +kernel, by decide +kernel⟩⟩
theorem xv_X1_mostNeighbours : XV yX1_mostNeighbours cX1_mostNeighbours 7 (some .int) 1 := ⟨tt_of (tt_3 (List.mem_of_getElem? (i := 93) rfl)) rfl, tt_of (tt_s 13 rfl) rfl, wi_X1, tt_of (tt_3 (List.mem_of_getElem? (i := 94) rfl)) rfl, ⟨by decide +kernel, by decide +kernel, by decide +kernel⟩⟩
theorem xv_X1_fewestNeighboursAmong : XV yX1_fewestNeighboursAmong cX1_fewestNeighboursAmong 7 (some .int) 1 := ⟨tt_of (tt_3 (List.mem_of_getElem? (i := 103) rfl)) rfl, tt_of (tt_s 15 rfl) rfl, wi_X1, tt_of (tt_3 (List.mem_of_getElem? (i := 104) rfl)) rfl, ⟨by decide +kernel, by decide +kernel, by decide +kernel⟩⟩
theorem xi_X2_init : XI yX2_init cX2_init 1 0 := ⟨rfl, tt_of (tt_1 (List.mem_of_getElem? (i := 39) rfl)) rfl, wi_X2, tt_of (tt_1 (List.mem_of_getElem? (i := 40) rfl)) rfl, ⟨by decide +kernel, by decide +kernel, by decide +kernel⟩⟩
theorem xv_X2_copyFrom : XV yX2_copyFrom cX2_copyFrom 2 none 1 := ⟨tt_of (tt_2 (List.mem_of_getElem? (i := 37) rfl)) rfl, tt_of (tt_2 (List.mem_of_getElem? (i := 38) rfl)) rfl, wi_X2, tt_of (tt_2 (List.mem_of_getElem? (i := 39) rfl)) rfl, ⟨by decide +kernel, by decide +kernel, by decide +kernel⟩⟩
theorem xv_X2_hasCell : XV yX2_hasCell cX2_hasCell 3 (some .boolean) 2 := ⟨tt_of (tt_1 (List.mem_of_getElem? (i := 211) rfl)) rfl, tt_of (tt_1 (List.mem_of_getElem? (i := 212) rfl)) rfl, wi_X2, tt_of (tt_1 (List.mem_of_getElem? (i := 213) rfl)) rfl, ⟨by decide +kernel, by decide +kernel, by decide +kernel⟩⟩
theorem xv_X2_hasPair : XV yX2_hasPair cX2_hasPair 4 (some .boolean) 3 := ⟨tt_of (tt_1 (List.mem_of_getElem? (i := 207) rfl)) rfl, tt_of (tt_1 (List.mem_of_getElem? (i := 208) rfl)) rfl, wi_X2, tt_of (tt_1 (List.mem_of_getElem? (i := 209) rfl)) rfl, ⟨by decide +kernel, by decide +kernel, by decide +kernel⟩⟩
theorem xv_X2_hasCut : XV yX2_hasCut cX2_hasCut 6 (some .boolean) 3 := ⟨tt_of (tt_2 (List.mem_of_getElem? (i := 83) rfl)) rfl, tt_of (tt_2 (List.mem_of_getElem? (i := 84) rfl)) rfl, wi_X2, tt_of (tt_2 (List.mem_of_getElem? (i := 85) rfl)) rfl, ⟨by decide +kernel, by decide +kernel, by decide +kernel⟩⟩
theorem xv_X2_flip : XV yX2_flip cX2_flip 4 none 3 := ⟨tt_of (tt_2 (List.mem_of_getElem? (i := 95) rfl)) rfl, tt_of (tt_2 (List.mem_of_getElem? (i := 96) rfl)) rfl, wi_X2, tt_of (tt_2 (List.mem_of_getElem? (i := 97) rfl)) rfl, ⟨by decide +kernel, by decide +kernel, by decide +kernel⟩⟩
theorem xv_X2_countCuts : XV yX2_countCuts cX2_countCuts 1 (some .int) 0 := ⟨tt_of (tt_2 (List.mem_of_getElem? (i := 99) rfl)) rfl, tt_of (tt_2 (List.mem_of_getElem? (i := 100) rfl)) rfl, wi_X2, tt_of (tt_2 (List.mem_of_getElem? (i := 101) rfl)) rfl, ⟨by decide +kernel, by decide +kernel, by decide +kernel⟩⟩
theorem xv_X2_joined : XV yX2_joined cX2_joined 8 (some .long) 1 := ⟨tt_of (tt_1 (List.mem_of_getElem? (i := 200) rfl)) rfl, tt_of (tt_1 (List.mem_of_getElem? (i := 201) rfl)) rfl, wi_X2, tt_of (tt_1 (List.mem_of_getElem? (i := 202) rfl)) rfl, ⟨by decide +kernel, by decide +kernel, by decide +kernel⟩⟩
theorem xi_X3_init : XI yX3_init cX3_init 2 0 := ⟨rfl, tt_of (tt_1 (List.mem_of_getElem? (i := 86) rfl)) rfl, wi_X3, tt_of (tt_1 (List.mem_of_getElem? (i := 87) rfl)) rfl, ⟨by decide +kernel, by decide +kernel, by decide +kernel⟩⟩
theorem xv_X3_remember : XV yX3_remember cX3_remember 2 none 1 := ⟨tt_of (tt_2 (List.mem_of_getElem? (i := 33) rfl)) rfl, tt_of (tt_2 (List.mem_of_getElem? (i := 34) rfl)) rfl, wi_X3, tt_of (tt_2 (List.mem_of_getElem? (i := 35) rfl)) rfl, ⟨by decide +kernel, by decide +kernel, by decide +kernel⟩⟩
theorem xv_X3_restore : XV yX3_restore cX3_restore 2 none 1 := ⟨tt_of (tt_3 (List.mem_of_getElem? (i := 139) rfl)) rfl, tt_of (tt_3 (List.mem_of_getElem? (i := 140) rfl)) rfl, wi_X3, tt_of (tt_3 (List.mem_of_getElem? (i := 141) rfl)) rfl, ⟨by decide +kernel, by decide +kernel, by decide +kernel⟩⟩
theorem xi_X4_init : XI yX4_init cX4_init 2 1 := ⟨rfl, tt_of (tt_1 (List.mem_of_getElem? (i := 106) rfl)) rfl, wi_X4, tt_of (tt_1 (List.mem_of_getElem? (i := 107) rfl)) rfl, ⟨by decide +kernel, by decide +kernel, by decide +kernel⟩⟩
theorem xv_X4_find : XV yX4_find cX4_find 4 none 0 := ⟨tt_of (tt_1 (List.mem_of_getElem? (i := 193) rfl)) rfl, tt_of (tt_1 (List.mem_of_getElem? (i := 194) rfl)) rfl, wi_X4, tt_of (tt_1 (List.mem_of_getElem? (i := 195) rfl)) rfl, ⟨by decide +kernel, by decide +kernel, by decide +kernel⟩⟩
theorem xv_X4_fragment : XV yX4_fragment cX4_fragment 10 (some .long) 2 := ⟨tt_of (tt_1 (List.mem_of_getElem? (i := 220) rfl)) rfl, tt_of (tt_s 0 rfl) rfl, wi_X4, tt_of (tt_1 (List.mem_of_getElem? (i := 221) rfl)) rfl, ⟨by decide +kernel, by decide +kernel, by decide +kernel⟩⟩
theorem xv_X4_touching : XV yX4_touching cX4_touching 7 (some .long) 1 := ⟨tt_of (tt_1 (List.mem_of_getElem? (i := 225) rfl)) rfl, tt_of (tt_s 1 rfl) rfl, wi_X4, tt_of (tt_1 (List.mem_of_getElem? (i := 226) rfl)) rfl, ⟨by decide +kernel, by decide +kernel, by decide +kernel⟩⟩
theorem xv_X4_hasPane : XV yX4_hasPane cX4_hasPane 2 (some .boolean) 1 := ⟨tt_of (tt_2 (List.mem_of_getElem? (i := 154) rfl)) rfl, tt_of (tt_2 (List.mem_of_getElem? (i := 155) rfl)) rfl, wi_X4, tt_of (tt_2 (List.mem_of_getElem? (i := 156) rfl)) rfl, ⟨by decide +kernel, by decide +kernel, by decide +kernel⟩⟩
theorem xv_X4_everyPane : XV yX4_everyPane cX4_everyPane 1 (some .long) 0 := ⟨tt_of (tt_3 (List.mem_of_getElem? (i := 88) rfl)) rfl, tt_of (tt_3 (List.mem_of_getElem? (i := 89) rfl)) rfl, wi_X4, tt_of (tt_3 (List.mem_of_getElem? (i := 90) rfl)) rfl, ⟨by decide +kernel, by decide +kernel, by decide +kernel⟩⟩
theorem xv_X4_numberOf : XV yX4_numberOf cX4_numberOf 5 (some .int) 1 := ⟨tt_of (tt_2 (List.mem_of_getElem? (i := 146) rfl)) rfl, tt_of (tt_2 (List.mem_of_getElem? (i := 147) rfl)) rfl, wi_X4, tt_of (tt_2 (List.mem_of_getElem? (i := 148) rfl)) rfl, ⟨by decide +kernel, by decide +kernel, by decide +kernel⟩⟩
theorem xv_X4_isEasy : XV yX4_isEasy cX4_isEasy 3 (some .boolean) 1 := ⟨tt_of (tt_2 (List.mem_of_getElem? (i := 182) rfl)) rfl, tt_of (tt_2 (List.mem_of_getElem? (i := 183) rfl)) rfl, wi_X4, tt_of (tt_2 (List.mem_of_getElem? (i := 184) rfl)) rfl, ⟨by decide +kernel, by decide +kernel, by decide +kernel⟩⟩
theorem xv_X4_countEasyFragments : XV yX4_countEasyFragments cX4_countEasyFragments 9 (some .int) 1 := ⟨tt_of (tt_3 (List.mem_of_getElem? (i := 10) rfl)) rfl, tt_of (tt_3 (List.mem_of_getElem? (i := 11) rfl)) rfl, wi_X4, tt_of (tt_3 (List.mem_of_getElem? (i := 12) rfl)) rfl, ⟨by decide +kernel, by decide +kernel, by decide +kernel⟩⟩
theorem xv_X4_looseRight : XV yX4_looseRight cX4_looseRight 4 (some .long) 0 := ⟨tt_of (tt_2 (List.mem_of_getElem? (i := 117) rfl)) rfl, tt_of (tt_2 (List.mem_of_getElem? (i := 118) rfl)) rfl, wi_X4, tt_of (tt_2 (List.mem_of_getElem? (i := 119) rfl)) rfl, ⟨by decide +kernel, by decide +kernel, by decide +kernel⟩⟩
theorem xv_X4_looseBelow : XV yX4_looseBelow cX4_looseBelow 4 (some .long) 0 := ⟨tt_of (tt_2 (List.mem_of_getElem? (i := 125) rfl)) rfl, tt_of (tt_2 (List.mem_of_getElem? (i := 126) rfl)) rfl, wi_X4, tt_of (tt_2 (List.mem_of_getElem? (i := 127) rfl)) rfl, ⟨by decide +kernel, by decide +kernel, by decide +kernel⟩⟩
theorem xv_X4_measureLead : XV yX4_measureLead cX4_measureLead 3 (some .int) 0 := ⟨tt_of (tt_2 (List.mem_of_getElem? (i := 201) rfl)) rfl, tt_of (tt_2 (List.mem_of_getElem? (i := 202) rfl)) rfl, wi_X4, tt_of (tt_2 (List.mem_of_getElem? (i := 203) rfl)) rfl, ⟨by decide +kernel, by decide +kernel, by decide +kernel⟩⟩
theorem xv_X4_countEqualNeighbours : XV yX4_countEqualNeighbours cX4_countEqualNeighbours 5 (some .int) 0 := ⟨tt_of (tt_3 (List.mem_of_getElem? (i := 57) rfl)) rfl, tt_of (tt_3 (List.mem_of_getElem? (i := 58) rfl)) rfl, wi_X4, tt_of (tt_3 (List.mem_of_getElem? (i := 59) rfl)) rfl, ⟨by decide +kernel, by decide +kernel, by decide +kernel⟩⟩
theorem xv_X4_colourOf : XV yX4_colourOf cX4_colourOf 3 (some .int) 1 := ⟨tt_of (tt_3 (List.mem_of_getElem? (i := 62) rfl)) rfl, tt_of (tt_s 10 rfl) rfl, wi_X4, tt_of (tt_3 (List.mem_of_getElem? (i := 63) rfl)) rfl, ⟨by decide +kernel, by decide +kernel, by decide +kernel⟩⟩
theorem xv_X4_measureClique : XV yX4_measureClique cX4_measureClique 1 (some .int) 0 := ⟨tt_of (tt_3 (List.mem_of_getElem? (i := 123) rfl)) rfl, tt_of (tt_3 (List.mem_of_getElem? (i := 124) rfl)) rfl, wi_X4, tt_of (tt_3 (List.mem_of_getElem? (i := 125) rfl)) rfl, ⟨by decide +kernel, by decide +kernel, by decide +kernel⟩⟩
theorem xv_X4_cliqueAmong : XV yX4_cliqueAmong cX4_cliqueAmong 10 (some .int) 2 := ⟨tt_of (tt_3 (List.mem_of_getElem? (i := 129) rfl)) rfl, tt_of (tt_s 17 rfl) rfl, wi_X4, tt_of (tt_3 (List.mem_of_getElem? (i := 130) rfl)) rfl, ⟨by decide +kernel, by decide +kernel, by decide +kernel⟩⟩
theorem xi_X5_init : XI yX5_init cX5_init 2 1 := ⟨rfl, tt_of (tt_1 (List.mem_of_getElem? (i := 144) rfl)) rfl, wi_X5, tt_of (tt_1 (List.mem_of_getElem? (i := 145) rfl)) rfl, ⟨by decide +kernel, by decide +kernel, by decide +kernel⟩⟩
theorem xv_X5_forget : XV yX5_forget cX5_forget 1 none 0 := ⟨tt_of (tt_2 (List.mem_of_getElem? (i := 56) rfl)) rfl, tt_of (tt_2 (List.mem_of_getElem? (i := 57) rfl)) rfl, wi_X5, tt_of (tt_2 (List.mem_of_getElem? (i := 58) rfl)) rfl, ⟨by decide +kernel, by decide +kernel, by decide +kernel⟩⟩
theorem xv_X5_pieces : XV yX5_pieces cX5_pieces 1 (some .int) 0 := ⟨tt_of (tt_3 (List.mem_of_getElem? (i := 29) rfl)) rfl, tt_of (tt_3 (List.mem_of_getElem? (i := 30) rfl)) rfl, wi_X5, tt_of (tt_3 (List.mem_of_getElem? (i := 31) rfl)) rfl, ⟨by decide +kernel, by decide +kernel, by decide +kernel⟩⟩
theorem xv_X5_lead : XV yX5_lead cX5_lead 1 (some .int) 0 := ⟨tt_of (tt_3 (List.mem_of_getElem? (i := 37) rfl)) rfl, tt_of (tt_3 (List.mem_of_getElem? (i := 38) rfl)) rfl, wi_X5, tt_of (tt_3 (List.mem_of_getElem? (i := 39) rfl)) rfl, ⟨by decide +kernel, by decide +kernel, by decide +kernel⟩⟩
theorem xv_X5_plan : XV yX5_plan cX5_plan 6 none 1 := ⟨tt_of (tt_2 (List.mem_of_getElem? (i := 222) rfl)) rfl, tt_of (tt_2 (List.mem_of_getElem? (i := 223) rfl)) rfl, wi_X5, tt_of (tt_2 (List.mem_of_getElem? (i := 224) rfl)) rfl, ⟨by decide +kernel, by decide +kernel, by decide +kernel⟩⟩
theorem xv_X5_frame : XV yX5_frame cX5_frame 2 none 0 := ⟨tt_of (tt_2 (List.mem_of_getElem? (i := 227) rfl)) rfl, tt_of (tt_s 4 rfl) rfl, wi_X5, tt_of (tt_2 (List.mem_of_getElem? (i := 228) rfl)) rfl, ⟨by decide +kernel, by decide +kernel, by decide +kernel⟩⟩
theorem xv_X5_planPart : XV yX5_planPart cX5_planPart 11 none 4 := ⟨tt_of (tt_3 (List.mem_of_getElem? (i := 0) rfl)) rfl, tt_of (tt_s 5 rfl) rfl, wi_X5, tt_of (tt_3 (List.mem_of_getElem? (i := 1) rfl)) rfl, ⟨by decide +kernel, by decide +kernel, by decide +kernel⟩⟩
theorem xv_X5_offer : XV yX5_offer cX5_offer 4 none 3 := ⟨tt_of (tt_3 (List.mem_of_getElem? (i := 22) rfl)) rfl, tt_of (tt_s 7 rfl) rfl, wi_X5, tt_of (tt_3 (List.mem_of_getElem? (i := 23) rfl)) rfl, ⟨by decide +kernel, by decide +kernel, by decide +kernel⟩⟩
theorem xv_X5_crossedBelow : XV yX5_crossedBelow cX5_crossedBelow 4 (some .long) 2 := ⟨tt_of (tt_3 (List.mem_of_getElem? (i := 17) rfl)) rfl, tt_of (tt_s 6 rfl) rfl, wi_X5, tt_of (tt_3 (List.mem_of_getElem? (i := 18) rfl)) rfl, ⟨by decide +kernel, by decide +kernel, by decide +kernel⟩⟩
theorem xv_X5_crossedRight : XV yX5_crossedRight cX5_crossedRight 4 (some .long) 2 := ⟨tt_of (tt_3 (List.mem_of_getElem? (i := 26) rfl)) rfl, tt_of (tt_s 8 rfl) rfl, wi_X5, tt_of (tt_3 (List.mem_of_getElem? (i := 27) rfl)) rfl, ⟨by decide +kernel, by decide +kernel, by decide +kernel⟩⟩
theorem xv_X5_cut : XV yX5_cut cX5_cut 2 none 1 := ⟨tt_of (tt_3 (List.mem_of_getElem? (i := 45) rfl)) rfl, tt_of (tt_3 (List.mem_of_getElem? (i := 46) rfl)) rfl, wi_X5, tt_of (tt_3 (List.mem_of_getElem? (i := 47) rfl)) rfl, ⟨by decide +kernel, by decide +kernel, by decide +kernel⟩⟩
theorem xv_X5_cutPart : XV yX5_cutPart cX5_cutPart 11 none 6 := ⟨tt_of (tt_3 (List.mem_of_getElem? (i := 50) rfl)) rfl, tt_of (tt_s 9 rfl) rfl, wi_X5, tt_of (tt_3 (List.mem_of_getElem? (i := 51) rfl)) rfl, ⟨by decide +kernel, by decide +kernel, by decide +kernel⟩⟩
theorem xs_X5_place : XS yX5_place cX5_place 4 (some .int) 4 := ⟨tt_of (tt_3 (List.mem_of_getElem? (i := 3) rfl)) rfl, wi_X5, tt_of (tt_3 (List.mem_of_getElem? (i := 4) rfl)) rfl, ⟨by decide +kernel, by decide +kernel, by decide +kernel⟩⟩
theorem xs_X5_span : XS yX5_span cX5_span 2 (some .int) 2 := ⟨tt_of (tt_3 (List.mem_of_getElem? (i := 6) rfl)) rfl, wi_X5, tt_of (tt_3 (List.mem_of_getElem? (i := 7) rfl)) rfl, ⟨by decide +kernel, by decide +kernel, by decide +kernel⟩⟩
theorem xi_X6_init : XI yX6_init cX6_init 1 0 := ⟨rfl, tt_of (tt_1 (List.mem_of_getElem? (i := 24) rfl)) rfl, wi_X6, tt_of (tt_1 (List.mem_of_getElem? (i := 25) rfl)) rfl, ⟨by decide +kernel, by decide +kernel, by decide +kernel⟩⟩
theorem xv_X6_append : XV yX6_append cX6_append 2 (some .boolean) 1 := ⟨tt_of (tt_2 (List.mem_of_getElem? (i := 14) rfl)) rfl, tt_of (tt_2 (List.mem_of_getElem? (i := 15) rfl)) rfl, wi_X6, tt_of (tt_2 (List.mem_of_getElem? (i := 16) rfl)) rfl, ⟨by decide +kernel, by decide +kernel, by decide +kernel⟩⟩
theorem xv_X6_errorOffset : XV yX6_errorOffset cX6_errorOffset 7 (some .int) 0 := ⟨tt_of (tt_2 (List.mem_of_getElem? (i := 26) rfl)) rfl, tt_of (tt_2 (List.mem_of_getElem? (i := 27) rfl)) rfl, wi_X6, tt_of (tt_2 (List.mem_of_getElem? (i := 28) rfl)) rfl, ⟨by decide +kernel, by decide +kernel, by decide +kernel⟩⟩
theorem xv_X6_copyTo : XV yX6_copyTo cX6_copyTo 6 none 1 := ⟨tt_of (tt_2 (List.mem_of_getElem? (i := 47) rfl)) rfl, tt_of (tt_2 (List.mem_of_getElem? (i := 48) rfl)) rfl, wi_X6, tt_of (tt_2 (List.mem_of_getElem? (i := 49) rfl)) rfl, ⟨by decide +kernel, by decide +kernel, by decide +kernel⟩⟩
theorem xs_X6_isDigit : XS yX6_isDigit cX6_isDigit 1 (some .boolean) 1 := ⟨tt_of (tt_2 (List.mem_of_getElem? (i := 30) rfl)) rfl, wi_X6, tt_of (tt_2 (List.mem_of_getElem? (i := 31) rfl)) rfl, ⟨by decide +kernel, by decide +kernel, by decide +kernel⟩⟩
theorem xi_X7_init : XI yX7_init cX7_init 1 0 := ⟨rfl, tt_of (tt_1 (List.mem_of_getElem? (i := 16) rfl)) rfl, wi_X7, tt_of (tt_1 (List.mem_of_getElem? (i := 17) rfl)) rfl, ⟨by decide +kernel, by decide +kernel, by decide +kernel⟩⟩
theorem xv_X7_appendCharacter : XV yX7_appendCharacter cX7_appendCharacter 2 (some .int) 1 := ⟨tt_of (tt_2 (List.mem_of_getElem? (i := 10) rfl)) rfl, tt_of (tt_2 (List.mem_of_getElem? (i := 11) rfl)) rfl, wi_X7, tt_of (tt_2 (List.mem_of_getElem? (i := 12) rfl)) rfl, ⟨by decide +kernel, by decide +kernel, by decide +kernel⟩⟩
theorem xv_X7_clearText : XV yX7_clearText cX7_clearText 2 (some .int) 0 := ⟨tt_of (tt_2 (List.mem_of_getElem? (i := 18) rfl)) rfl, tt_of (tt_2 (List.mem_of_getElem? (i := 19) rfl)) rfl, wi_X7, tt_of (tt_2 (List.mem_of_getElem? (i := 20) rfl)) rfl, ⟨by decide +kernel, by decide +kernel, by decide +kernel⟩⟩
theorem xv_X7_loadDrawing : XV yX7_loadDrawing cX7_loadDrawing 2 (some .int) 0 := ⟨tt_of (tt_2 (List.mem_of_getElem? (i := 22) rfl)) rfl, tt_of (tt_2 (List.mem_of_getElem? (i := 23) rfl)) rfl, wi_X7, tt_of (tt_2 (List.mem_of_getElem? (i := 24) rfl)) rfl, ⟨by decide +kernel, by decide +kernel, by decide +kernel⟩⟩
theorem xv_X7_setColour : XV yX7_setColour cX7_setColour 6 (some .int) 3 := ⟨tt_of (tt_2 (List.mem_of_getElem? (i := 60) rfl)) rfl, tt_of (tt_2 (List.mem_of_getElem? (i := 61) rfl)) rfl, wi_X7, tt_of (tt_2 (List.mem_of_getElem? (i := 62) rfl)) rfl, ⟨by decide +kernel, by decide +kernel, by decide +kernel⟩⟩
theorem xv_X7_rows : XV yX7_rows cX7_rows 1 (some .int) 0 := ⟨tt_of (tt_2 (List.mem_of_getElem? (i := 66) rfl)) rfl, tt_of (tt_2 (List.mem_of_getElem? (i := 67) rfl)) rfl, wi_X7, tt_of (tt_2 (List.mem_of_getElem? (i := 68) rfl)) rfl, ⟨by decide +kernel, by decide +kernel, by decide +kernel⟩⟩
theorem xv_X7_columns : XV yX7_columns cX7_columns 1 (some .int) 0 := ⟨tt_of (tt_2 (List.mem_of_getElem? (i := 70) rfl)) rfl, tt_of (tt_2 (List.mem_of_getElem? (i := 71) rfl)) rfl, wi_X7, tt_of (tt_2 (List.mem_of_getElem? (i := 72) rfl)) rfl, ⟨by decide +kernel, by decide +kernel, by decide +kernel⟩⟩
theorem xv_X7_colourAt : XV yX7_colourAt cX7_colourAt 3 (some .int) 2 := ⟨tt_of (tt_2 (List.mem_of_getElem? (i := 74) rfl)) rfl, tt_of (tt_2 (List.mem_of_getElem? (i := 75) rfl)) rfl, wi_X7, tt_of (tt_2 (List.mem_of_getElem? (i := 76) rfl)) rfl, ⟨by decide +kernel, by decide +kernel, by decide +kernel⟩⟩
theorem xv_X7_addCut : XV yX7_addCut cX7_addCut 4 (some .int) 3 := ⟨tt_of (tt_2 (List.mem_of_getElem? (i := 78) rfl)) rfl, tt_of (tt_2 (List.mem_of_getElem? (i := 79) rfl)) rfl, wi_X7, tt_of (tt_2 (List.mem_of_getElem? (i := 80) rfl)) rfl, ⟨by decide +kernel, by decide +kernel, by decide +kernel⟩⟩
theorem xv_X7_removeCut : XV yX7_removeCut cX7_removeCut 4 (some .int) 3 := ⟨tt_of (tt_2 (List.mem_of_getElem? (i := 109) rfl)) rfl, tt_of (tt_2 (List.mem_of_getElem? (i := 110) rfl)) rfl, wi_X7, tt_of (tt_2 (List.mem_of_getElem? (i := 111) rfl)) rfl, ⟨by decide +kernel, by decide +kernel, by decide +kernel⟩⟩
theorem xv_X7_looseCuts : XV yX7_looseCuts cX7_looseCuts 1 (some .int) 0 := ⟨tt_of (tt_2 (List.mem_of_getElem? (i := 113) rfl)) rfl, tt_of (tt_2 (List.mem_of_getElem? (i := 114) rfl)) rfl, wi_X7, tt_of (tt_2 (List.mem_of_getElem? (i := 115) rfl)) rfl, ⟨by decide +kernel, by decide +kernel, by decide +kernel⟩⟩
theorem xv_X7_removeLooseCuts : XV yX7_removeLooseCuts cX7_removeLooseCuts 5 (some .int) 0 := ⟨tt_of (tt_2 (List.mem_of_getElem? (i := 132) rfl)) rfl, tt_of (tt_2 (List.mem_of_getElem? (i := 133) rfl)) rfl, wi_X7, tt_of (tt_2 (List.mem_of_getElem? (i := 134) rfl)) rfl, ⟨by decide +kernel, by decide +kernel, by decide +kernel⟩⟩
theorem xv_X7_paneCount : XV yX7_paneCount cX7_paneCount 1 (some .int) 0 := ⟨tt_of (tt_2 (List.mem_of_getElem? (i := 137) rfl)) rfl, tt_of (tt_2 (List.mem_of_getElem? (i := 138) rfl)) rfl, wi_X7, tt_of (tt_2 (List.mem_of_getElem? (i := 139) rfl)) rfl, ⟨by decide +kernel, by decide +kernel, by decide +kernel⟩⟩
theorem xv_X7_paneAt : XV yX7_paneAt cX7_paneAt 3 (some .int) 2 := ⟨tt_of (tt_2 (List.mem_of_getElem? (i := 141) rfl)) rfl, tt_of (tt_2 (List.mem_of_getElem? (i := 142) rfl)) rfl, wi_X7, tt_of (tt_2 (List.mem_of_getElem? (i := 143) rfl)) rfl, ⟨by decide +kernel, by decide +kernel, by decide +kernel⟩⟩
theorem xv_X7_paneSize : XV yX7_paneSize cX7_paneSize 2 (some .int) 1 := ⟨tt_of (tt_2 (List.mem_of_getElem? (i := 150) rfl)) rfl, tt_of (tt_2 (List.mem_of_getElem? (i := 151) rfl)) rfl, wi_X7, tt_of (tt_2 (List.mem_of_getElem? (i := 152) rfl)) rfl, ⟨by decide +kernel, by decide +kernel, by decide +kernel⟩⟩
theorem xv_X7_innerCorners : XV yX7_innerCorners cX7_innerCorners 2 (some .int) 1 := ⟨tt_of (tt_2 (List.mem_of_getElem? (i := 158) rfl)) rfl, tt_of (tt_2 (List.mem_of_getElem? (i := 159) rfl)) rfl, wi_X7, tt_of (tt_2 (List.mem_of_getElem? (i := 160) rfl)) rfl, ⟨by decide +kernel, by decide +kernel, by decide +kernel⟩⟩
theorem xv_X7_holes : XV yX7_holes cX7_holes 2 (some .int) 1 := ⟨tt_of (tt_2 (List.mem_of_getElem? (i := 166) rfl)) rfl, tt_of (tt_2 (List.mem_of_getElem? (i := 167) rfl)) rfl, wi_X7, tt_of (tt_2 (List.mem_of_getElem? (i := 168) rfl)) rfl, ⟨by decide +kernel, by decide +kernel, by decide +kernel⟩⟩
theorem xv_X7_canBeCut : XV yX7_canBeCut cX7_canBeCut 2 (some .int) 1 := ⟨tt_of (tt_2 (List.mem_of_getElem? (i := 178) rfl)) rfl, tt_of (tt_2 (List.mem_of_getElem? (i := 179) rfl)) rfl, wi_X7, tt_of (tt_2 (List.mem_of_getElem? (i := 180) rfl)) rfl, ⟨by decide +kernel, by decide +kernel, by decide +kernel⟩⟩
theorem xv_X7_cuttableCount : XV yX7_cuttableCount cX7_cuttableCount 3 (some .int) 0 := ⟨tt_of (tt_2 (List.mem_of_getElem? (i := 189) rfl)) rfl, tt_of (tt_2 (List.mem_of_getElem? (i := 190) rfl)) rfl, wi_X7, tt_of (tt_2 (List.mem_of_getElem? (i := 191) rfl)) rfl, ⟨by decide +kernel, by decide +kernel, by decide +kernel⟩⟩
theorem xv_X7_neighbourCount : XV yX7_neighbourCount cX7_neighbourCount 2 (some .int) 1 := ⟨tt_of (tt_2 (List.mem_of_getElem? (i := 193) rfl)) rfl, tt_of (tt_2 (List.mem_of_getElem? (i := 194) rfl)) rfl, wi_X7, tt_of (tt_2 (List.mem_of_getElem? (i := 195) rfl)) rfl, ⟨by decide +kernel, by decide +kernel, by decide +kernel⟩⟩
theorem xv_X7_leadLength : XV yX7_leadLength cX7_leadLength 1 (some .int) 0 := ⟨tt_of (tt_2 (List.mem_of_getElem? (i := 197) rfl)) rfl, tt_of (tt_2 (List.mem_of_getElem? (i := 198) rfl)) rfl, wi_X7, tt_of (tt_2 (List.mem_of_getElem? (i := 199) rfl)) rfl, ⟨by decide +kernel, by decide +kernel, by decide +kernel⟩⟩
theorem xv_X7_setCellLimit : XV yX7_setCellLimit cX7_setCellLimit 3 (some .int) 1 := ⟨tt_of (tt_2 (List.mem_of_getElem? (i := 210) rfl)) rfl, tt_of (tt_2 (List.mem_of_getElem? (i := 211) rfl)) rfl, wi_X7, tt_of (tt_2 (List.mem_of_getElem? (i := 212) rfl)) rfl, ⟨by decide +kernel, by decide +kernel, by decide +kernel⟩⟩
theorem xv_X7_setCornerLimit : XV yX7_setCornerLimit cX7_setCornerLimit 3 (some .int) 1 := ⟨tt_of (tt_2 (List.mem_of_getElem? (i := 214) rfl)) rfl, tt_of (tt_2 (List.mem_of_getElem? (i := 215) rfl)) rfl, wi_X7, tt_of (tt_2 (List.mem_of_getElem? (i := 216) rfl)) rfl, ⟨by decide +kernel, by decide +kernel, by decide +kernel⟩⟩
theorem xv_X7_splitPieces : XV yX7_splitPieces cX7_splitPieces 2 (some .int) 1 := ⟨tt_of (tt_2 (List.mem_of_getElem? (i := 218) rfl)) rfl, tt_of (tt_2 (List.mem_of_getElem? (i := 219) rfl)) rfl, wi_X7, tt_of (tt_2 (List.mem_of_getElem? (i := 220) rfl)) rfl, ⟨by decide +kernel, by decide +kernel, by decide +kernel⟩⟩
theorem xv_X7_splitLead : XV yX7_splitLead cX7_splitLead 2 (some .int) 1 := ⟨tt_of (tt_3 (List.mem_of_getElem? (i := 33) rfl)) rfl, tt_of (tt_3 (List.mem_of_getElem? (i := 34) rfl)) rfl, wi_X7, tt_of (tt_3 (List.mem_of_getElem? (i := 35) rfl)) rfl, ⟨by decide +kernel, by decide +kernel, by decide +kernel⟩⟩
theorem xv_X7_applySplit : XV yX7_applySplit cX7_applySplit 2 (some .int) 1 := ⟨tt_of (tt_3 (List.mem_of_getElem? (i := 41) rfl)) rfl, tt_of (tt_3 (List.mem_of_getElem? (i := 42) rfl)) rfl, wi_X7, tt_of (tt_3 (List.mem_of_getElem? (i := 43) rfl)) rfl, ⟨by decide +kernel, by decide +kernel, by decide +kernel⟩⟩
theorem xv_X7_equalNeighbours : XV yX7_equalNeighbours cX7_equalNeighbours 1 (some .int) 0 := ⟨tt_of (tt_3 (List.mem_of_getElem? (i := 53) rfl)) rfl, tt_of (tt_3 (List.mem_of_getElem? (i := 54) rfl)) rfl, wi_X7, tt_of (tt_3 (List.mem_of_getElem? (i := 55) rfl)) rfl, ⟨by decide +kernel, by decide +kernel, by decide +kernel⟩⟩
theorem xv_X7_colourCount : XV yX7_colourCount cX7_colourCount 2 (some .int) 1 := ⟨tt_of (tt_3 (List.mem_of_getElem? (i := 68) rfl)) rfl, tt_of (tt_3 (List.mem_of_getElem? (i := 69) rfl)) rfl, wi_X7, tt_of (tt_3 (List.mem_of_getElem? (i := 70) rfl)) rfl, ⟨by decide +kernel, by decide +kernel, by decide +kernel⟩⟩
theorem xv_X7_suggestedColour : XV yX7_suggestedColour cX7_suggestedColour 3 (some .int) 2 := ⟨tt_of (tt_3 (List.mem_of_getElem? (i := 111) rfl)) rfl, tt_of (tt_3 (List.mem_of_getElem? (i := 112) rfl)) rfl, wi_X7, tt_of (tt_3 (List.mem_of_getElem? (i := 113) rfl)) rfl, ⟨by decide +kernel, by decide +kernel, by decide +kernel⟩⟩
theorem xv_X7_bestOrder : XV yX7_bestOrder cX7_bestOrder 5 (some .int) 0 := ⟨tt_of (tt_3 (List.mem_of_getElem? (i := 115) rfl)) rfl, tt_of (tt_3 (List.mem_of_getElem? (i := 116) rfl)) rfl, wi_X7, tt_of (tt_3 (List.mem_of_getElem? (i := 117) rfl)) rfl, ⟨by decide +kernel, by decide +kernel, by decide +kernel⟩⟩
theorem xv_X7_largestClique : XV yX7_largestClique cX7_largestClique 1 (some .int) 0 := ⟨tt_of (tt_3 (List.mem_of_getElem? (i := 119) rfl)) rfl, tt_of (tt_3 (List.mem_of_getElem? (i := 120) rfl)) rfl, wi_X7, tt_of (tt_3 (List.mem_of_getElem? (i := 121) rfl)) rfl, ⟨by decide +kernel, by decide +kernel, by decide +kernel⟩⟩
theorem xv_X7_undo : XV yX7_undo cX7_undo 1 (some .int) 0 := ⟨tt_of (tt_3 (List.mem_of_getElem? (i := 135) rfl)) rfl, tt_of (tt_3 (List.mem_of_getElem? (i := 136) rfl)) rfl, wi_X7, tt_of (tt_3 (List.mem_of_getElem? (i := 137) rfl)) rfl, ⟨by decide +kernel, by decide +kernel, by decide +kernel⟩⟩
theorem xv_X7_flipCut : XV yX7_flipCut cX7_flipCut 4 (some .int) 3 := ⟨tt_of (tt_2 (List.mem_of_getElem? (i := 92) rfl)) rfl, tt_of (tt_s 3 rfl) rfl, wi_X7, tt_of (tt_2 (List.mem_of_getElem? (i := 93) rfl)) rfl, ⟨by decide +kernel, by decide +kernel, by decide +kernel⟩⟩
theorem xv_X7_refresh : XV yX7_refresh cX7_refresh 1 none 0 := ⟨tt_of (tt_2 (List.mem_of_getElem? (i := 53) rfl)) rfl, tt_of (tt_s 2 rfl) rfl, wi_X7, tt_of (tt_2 (List.mem_of_getElem? (i := 54) rfl)) rfl, ⟨by decide +kernel, by decide +kernel, by decide +kernel⟩⟩
theorem xi_X8_init : XI yX8_init cX8_init 1 0 := ⟨rfl, tt_of (tt_3 (List.mem_of_getElem? (i := 145) rfl)) rfl, wi_X8, tt_of (tt_3 (List.mem_of_getElem? (i := 146) rfl)) rfl, ⟨by decide +kernel, by decide +kernel, by decide +kernel⟩⟩
theorem xs_X8_in : XS yX8_in cX8_in 3 (some .boolean) 3 := ⟨tt_of (tt_4 (List.mem_of_getElem? (i := 0) rfl)) rfl, wi_X8, tt_of (tt_4 (List.mem_of_getElem? (i := 1) rfl)) rfl, ⟨by decide +kernel, by decide +kernel, by decide +kernel⟩⟩
theorem xv_X8_isCell : XV yX8_isCell cX8_isCell 3 (some .boolean) 2 := ⟨tt_of (tt_4 (List.mem_of_getElem? (i := 28) rfl)) rfl, tt_of (tt_s 22 rfl) rfl, wi_X8, tt_of (tt_4 (List.mem_of_getElem? (i := 29) rfl)) rfl, ⟨by decide +kernel, by decide +kernel, by decide +kernel⟩⟩
theorem xv_X8_save : XV yX8_save cX8_save 2 none 0 := ⟨tt_of (tt_4 (List.mem_of_getElem? (i := 16) rfl)) rfl, tt_of (tt_s 19 rfl) rfl, wi_X8, tt_of (tt_4 (List.mem_of_getElem? (i := 17) rfl)) rfl, ⟨by decide +kernel, by decide +kernel, by decide +kernel⟩⟩
theorem xv_X8_undo : XV yX8_undo cX8_undo 2 (some .int) 0 := ⟨tt_of (tt_3 (List.mem_of_getElem? (i := 232) rfl)) rfl, tt_of (tt_3 (List.mem_of_getElem? (i := 233) rfl)) rfl, wi_X8, tt_of (tt_3 (List.mem_of_getElem? (i := 234) rfl)) rfl, ⟨by decide +kernel, by decide +kernel, by decide +kernel⟩⟩
theorem xv_X8_changed : XV yX8_changed cX8_changed 4 (some .int) 2 := ⟨tt_of (tt_4 (List.mem_of_getElem? (i := 51) rfl)) rfl, tt_of (tt_s 26 rfl) rfl, wi_X8, tt_of (tt_4 (List.mem_of_getElem? (i := 52) rfl)) rfl, ⟨by decide +kernel, by decide +kernel, by decide +kernel⟩⟩
theorem xv_X8_appendCharacter : XV yX8_appendCharacter cX8_appendCharacter 2 (some .int) 1 := ⟨tt_of (tt_3 (List.mem_of_getElem? (i := 236) rfl)) rfl, tt_of (tt_3 (List.mem_of_getElem? (i := 237) rfl)) rfl, wi_X8, tt_of (tt_3 (List.mem_of_getElem? (i := 238) rfl)) rfl, ⟨by decide +kernel, by decide +kernel, by decide +kernel⟩⟩
theorem xv_X8_clearText : XV yX8_clearText cX8_clearText 2 (some .int) 0 := ⟨tt_of (tt_4 (List.mem_of_getElem? (i := 3) rfl)) rfl, tt_of (tt_4 (List.mem_of_getElem? (i := 4) rfl)) rfl, wi_X8, tt_of (tt_4 (List.mem_of_getElem? (i := 5) rfl)) rfl, ⟨by decide +kernel, by decide +kernel, by decide +kernel⟩⟩
theorem xv_X8_reads : XV yX8_reads cX8_reads 5 (some .int) 0 := ⟨tt_of (tt_4 (List.mem_of_getElem? (i := 12) rfl)) rfl, tt_of (tt_s 18 rfl) rfl, wi_X8, tt_of (tt_4 (List.mem_of_getElem? (i := 13) rfl)) rfl, ⟨by decide +kernel, by decide +kernel, by decide +kernel⟩⟩
theorem xv_X8_loadDrawing : XV yX8_loadDrawing cX8_loadDrawing 4 (some .int) 0 := ⟨tt_of (tt_4 (List.mem_of_getElem? (i := 7) rfl)) rfl, tt_of (tt_4 (List.mem_of_getElem? (i := 8) rfl)) rfl, wi_X8, tt_of (tt_4 (List.mem_of_getElem? (i := 9) rfl)) rfl, ⟨by decide +kernel, by decide +kernel, by decide +kernel⟩⟩
theorem xv_X8_setColour : XV yX8_setColour cX8_setColour 5 (some .int) 3 := ⟨tt_of (tt_4 (List.mem_of_getElem? (i := 46) rfl)) rfl, tt_of (tt_4 (List.mem_of_getElem? (i := 47) rfl)) rfl, wi_X8, tt_of (tt_4 (List.mem_of_getElem? (i := 48) rfl)) rfl, ⟨by decide +kernel, by decide +kernel, by decide +kernel⟩⟩
theorem xv_X8_rows : XV yX8_rows cX8_rows 1 (some .int) 0 := ⟨tt_of (tt_4 (List.mem_of_getElem? (i := 54) rfl)) rfl, tt_of (tt_4 (List.mem_of_getElem? (i := 55) rfl)) rfl, wi_X8, tt_of (tt_4 (List.mem_of_getElem? (i := 56) rfl)) rfl, ⟨by decide +kernel, by decide +kernel, by decide +kernel⟩⟩
theorem xv_X8_columns : XV yX8_columns cX8_columns 1 (some .int) 0 := ⟨tt_of (tt_4 (List.mem_of_getElem? (i := 58) rfl)) rfl, tt_of (tt_4 (List.mem_of_getElem? (i := 59) rfl)) rfl, wi_X8, tt_of (tt_4 (List.mem_of_getElem? (i := 60) rfl)) rfl, ⟨by decide +kernel, by decide +kernel, by decide +kernel⟩⟩
theorem xv_X8_colourAt : XV yX8_colourAt cX8_colourAt 3 (some .int) 2 := ⟨tt_of (tt_4 (List.mem_of_getElem? (i := 62) rfl)) rfl, tt_of (tt_4 (List.mem_of_getElem? (i := 63) rfl)) rfl, wi_X8, tt_of (tt_4 (List.mem_of_getElem? (i := 64) rfl)) rfl, ⟨by decide +kernel, by decide +kernel, by decide +kernel⟩⟩
theorem xv_X8_hasNext : XV yX8_hasNext cX8_hasNext 3 (some .boolean) 2 := ⟨tt_of (tt_4 (List.mem_of_getElem? (i := 43) rfl)) rfl, tt_of (tt_s 25 rfl) rfl, wi_X8, tt_of (tt_4 (List.mem_of_getElem? (i := 44) rfl)) rfl, ⟨by decide +kernel, by decide +kernel, by decide +kernel⟩⟩
theorem xs_X8_step : XS yX8_step cX8_step 1 (some .int) 1 := ⟨tt_of (tt_4 (List.mem_of_getElem? (i := 35) rfl)) rfl, wi_X8, tt_of (tt_4 (List.mem_of_getElem? (i := 36) rfl)) rfl, ⟨by decide +kernel, by decide +kernel, by decide +kernel⟩⟩
theorem xv_X8_joins : XV yX8_joins cX8_joins 3 (some .boolean) 2 := ⟨tt_of (tt_4 (List.mem_of_getElem? (i := 39) rfl)) rfl, tt_of (tt_s 24 rfl) rfl, wi_X8, tt_of (tt_4 (List.mem_of_getElem? (i := 40) rfl)) rfl, ⟨by decide +kernel, by decide +kernel, by decide +kernel⟩⟩
theorem xv_X8_isCut : XV yX8_isCut cX8_isCut 4 (some .boolean) 3 := ⟨tt_of (tt_4 (List.mem_of_getElem? (i := 71) rfl)) rfl, tt_of (tt_s 27 rfl) rfl, wi_X8, tt_of (tt_4 (List.mem_of_getElem? (i := 72) rfl)) rfl, ⟨by decide +kernel, by decide +kernel, by decide +kernel⟩⟩
theorem xv_X8_cuts : XV yX8_cuts cX8_cuts 3 (some .int) 0 := ⟨tt_of (tt_4 (List.mem_of_getElem? (i := 75) rfl)) rfl, tt_of (tt_s 28 rfl) rfl, wi_X8, tt_of (tt_4 (List.mem_of_getElem? (i := 76) rfl)) rfl, ⟨by decide +kernel, by decide +kernel, by decide +kernel⟩⟩
theorem xv_X8_addCut : XV yX8_addCut cX8_addCut 6 (some .int) 3 := ⟨tt_of (tt_4 (List.mem_of_getElem? (i := 66) rfl)) rfl, tt_of (tt_4 (List.mem_of_getElem? (i := 67) rfl)) rfl, wi_X8, tt_of (tt_4 (List.mem_of_getElem? (i := 68) rfl)) rfl, ⟨by decide +kernel, by decide +kernel, by decide +kernel⟩⟩
theorem xv_X8_removeCut : XV yX8_removeCut cX8_removeCut 6 (some .int) 3 := ⟨tt_of (tt_4 (List.mem_of_getElem? (i := 78) rfl)) rfl, tt_of (tt_4 (List.mem_of_getElem? (i := 79) rfl)) rfl, wi_X8, tt_of (tt_4 (List.mem_of_getElem? (i := 80) rfl)) rfl, ⟨by decide +kernel, by decide +kernel, by decide +kernel⟩⟩
theorem xv_X8_spread : XV yX8_spread cX8_spread 11 (some .int) 3 := ⟨tt_of (tt_4 (List.mem_of_getElem? (i := 32) rfl)) rfl, tt_of (tt_s 23 rfl) rfl, wi_X8, tt_of (tt_4 (List.mem_of_getElem? (i := 33) rfl)) rfl, ⟨by decide +kernel, by decide +kernel, by decide +kernel⟩⟩
theorem xv_X8_wholeDrawing : XV yX8_wholeDrawing cX8_wholeDrawing 1 none 0 := ⟨tt_of (tt_4 (List.mem_of_getElem? (i := 24) rfl)) rfl, tt_of (tt_s 21 rfl) rfl, wi_X8, tt_of (tt_4 (List.mem_of_getElem? (i := 25) rfl)) rfl, ⟨by decide +kernel, by decide +kernel, by decide +kernel⟩⟩
theorem xv_X8_findPanes : XV yX8_findPanes cX8_findPanes 2 none 0 := ⟨tt_of (tt_4 (List.mem_of_getElem? (i := 20) rfl)) rfl, tt_of (tt_s 20 rfl) rfl, wi_X8, tt_of (tt_4 (List.mem_of_getElem? (i := 21) rfl)) rfl, ⟨by decide +kernel, by decide +kernel, by decide +kernel⟩⟩
theorem xv_X8_isPane : XV yX8_isPane cX8_isPane 2 (some .boolean) 1 := ⟨tt_of (tt_4 (List.mem_of_getElem? (i := 95) rfl)) rfl, tt_of (tt_s 29 rfl) rfl, wi_X8, tt_of (tt_4 (List.mem_of_getElem? (i := 96) rfl)) rfl, ⟨by decide +kernel, by decide +kernel, by decide +kernel⟩⟩
theorem xv_X8_corners : XV yX8_corners cX8_corners 8 (some .int) 2 := ⟨tt_of (tt_4 (List.mem_of_getElem? (i := 103) rfl)) rfl, tt_of (tt_s 30 rfl) rfl, wi_X8, tt_of (tt_4 (List.mem_of_getElem? (i := 104) rfl)) rfl, ⟨by decide +kernel, by decide +kernel, by decide +kernel⟩⟩
theorem xv_X8_isEdge : XV yX8_isEdge cX8_isEdge 4 (some .boolean) 1 := ⟨tt_of (tt_4 (List.mem_of_getElem? (i := 119) rfl)) rfl, tt_of (tt_s 33 rfl) rfl, wi_X8, tt_of (tt_4 (List.mem_of_getElem? (i := 120) rfl)) rfl, ⟨by decide +kernel, by decide +kernel, by decide +kernel⟩⟩
theorem xv_X8_isHole : XV yX8_isHole cX8_isHole 11 (some .boolean) 3 := ⟨tt_of (tt_4 (List.mem_of_getElem? (i := 115) rfl)) rfl, tt_of (tt_s 32 rfl) rfl, wi_X8, tt_of (tt_4 (List.mem_of_getElem? (i := 116) rfl)) rfl, ⟨by decide +kernel, by decide +kernel, by decide +kernel⟩⟩
theorem xv_X8_holesOf : XV yX8_holesOf cX8_holesOf 5 (some .int) 2 := ⟨tt_of (tt_4 (List.mem_of_getElem? (i := 111) rfl)) rfl, tt_of (tt_s 31 rfl) rfl, wi_X8, tt_of (tt_4 (List.mem_of_getElem? (i := 112) rfl)) rfl, ⟨by decide +kernel, by decide +kernel, by decide +kernel⟩⟩
theorem xv_X8_isEasy : XV yX8_isEasy cX8_isEasy 4 (some .boolean) 3 := ⟨tt_of (tt_4 (List.mem_of_getElem? (i := 131) rfl)) rfl, tt_of (tt_s 35 rfl) rfl, wi_X8, tt_of (tt_4 (List.mem_of_getElem? (i := 132) rfl)) rfl, ⟨by decide +kernel, by decide +kernel, by decide +kernel⟩⟩
theorem xv_X8_canCut : XV yX8_canCut cX8_canCut 2 (some .boolean) 1 := ⟨tt_of (tt_4 (List.mem_of_getElem? (i := 127) rfl)) rfl, tt_of (tt_s 34 rfl) rfl, wi_X8, tt_of (tt_4 (List.mem_of_getElem? (i := 128) rfl)) rfl, ⟨by decide +kernel, by decide +kernel, by decide +kernel⟩⟩
theorem xv_X8_paneCount : XV yX8_paneCount cX8_paneCount 1 (some .int) 0 := ⟨tt_of (tt_4 (List.mem_of_getElem? (i := 82) rfl)) rfl, tt_of (tt_4 (List.mem_of_getElem? (i := 83) rfl)) rfl, wi_X8, tt_of (tt_4 (List.mem_of_getElem? (i := 84) rfl)) rfl, ⟨by decide +kernel, by decide +kernel, by decide +kernel⟩⟩
theorem xv_X8_paneAt : XV yX8_paneAt cX8_paneAt 3 (some .int) 2 := ⟨tt_of (tt_4 (List.mem_of_getElem? (i := 86) rfl)) rfl, tt_of (tt_4 (List.mem_of_getElem? (i := 87) rfl)) rfl, wi_X8, tt_of (tt_4 (List.mem_of_getElem? (i := 88) rfl)) rfl, ⟨by decide +kernel, by decide +kernel, by decide +kernel⟩⟩
theorem xv_X8_paneSize : XV yX8_paneSize cX8_paneSize 2 (some .int) 1 := ⟨tt_of (tt_4 (List.mem_of_getElem? (i := 90) rfl)) rfl, tt_of (tt_4 (List.mem_of_getElem? (i := 91) rfl)) rfl, wi_X8, tt_of (tt_4 (List.mem_of_getElem? (i := 92) rfl)) rfl, ⟨by decide +kernel, by decide +kernel, by decide +kernel⟩⟩
theorem xv_X8_innerCorners : XV yX8_innerCorners cX8_innerCorners 2 (some .int) 1 := ⟨tt_of (tt_4 (List.mem_of_getElem? (i := 98) rfl)) rfl, tt_of (tt_4 (List.mem_of_getElem? (i := 99) rfl)) rfl, wi_X8, tt_of (tt_4 (List.mem_of_getElem? (i := 100) rfl)) rfl, ⟨by decide +kernel, by decide +kernel, by decide +kernel⟩⟩
theorem xv_X8_holes : XV yX8_holes cX8_holes 2 (some .int) 1 := ⟨tt_of (tt_4 (List.mem_of_getElem? (i := 106) rfl)) rfl, tt_of (tt_4 (List.mem_of_getElem? (i := 107) rfl)) rfl, wi_X8, tt_of (tt_4 (List.mem_of_getElem? (i := 108) rfl)) rfl, ⟨by decide +kernel, by decide +kernel, by decide +kernel⟩⟩
theorem xv_X8_canBeCut : XV yX8_canBeCut cX8_canBeCut 2 (some .int) 1 := ⟨tt_of (tt_4 (List.mem_of_getElem? (i := 122) rfl)) rfl, tt_of (tt_4 (List.mem_of_getElem? (i := 123) rfl)) rfl, wi_X8, tt_of (tt_4 (List.mem_of_getElem? (i := 124) rfl)) rfl, ⟨by decide +kernel, by decide +kernel, by decide +kernel⟩⟩
theorem xv_X8_cuttableCount : XV yX8_cuttableCount cX8_cuttableCount 3 (some .int) 0 := ⟨tt_of (tt_4 (List.mem_of_getElem? (i := 134) rfl)) rfl, tt_of (tt_4 (List.mem_of_getElem? (i := 135) rfl)) rfl, wi_X8, tt_of (tt_4 (List.mem_of_getElem? (i := 136) rfl)) rfl, ⟨by decide +kernel, by decide +kernel, by decide +kernel⟩⟩
theorem xv_X8_isLoose : XV yX8_isLoose cX8_isLoose 3 (some .boolean) 1 := ⟨tt_of (tt_4 (List.mem_of_getElem? (i := 143) rfl)) rfl, tt_of (tt_s 36 rfl) rfl, wi_X8, tt_of (tt_4 (List.mem_of_getElem? (i := 144) rfl)) rfl, ⟨by decide +kernel, by decide +kernel, by decide +kernel⟩⟩
theorem xv_X8_looseCuts : XV yX8_looseCuts cX8_looseCuts 3 (some .int) 0 := ⟨tt_of (tt_4 (List.mem_of_getElem? (i := 138) rfl)) rfl, tt_of (tt_4 (List.mem_of_getElem? (i := 139) rfl)) rfl, wi_X8, tt_of (tt_4 (List.mem_of_getElem? (i := 140) rfl)) rfl, ⟨by decide +kernel, by decide +kernel, by decide +kernel⟩⟩
theorem xv_X8_removeLooseCuts : XV yX8_removeLooseCuts cX8_removeLooseCuts 3 (some .int) 0 := ⟨tt_of (tt_4 (List.mem_of_getElem? (i := 146) rfl)) rfl, tt_of (tt_4 (List.mem_of_getElem? (i := 147) rfl)) rfl, wi_X8, tt_of (tt_4 (List.mem_of_getElem? (i := 148) rfl)) rfl, ⟨by decide +kernel, by decide +kernel, by decide +kernel⟩⟩
theorem xv_X8_findNear : XV yX8_findNear cX8_findNear 6 (some .int) 0 := ⟨tt_of (tt_4 (List.mem_of_getElem? (i := 156) rfl)) rfl, tt_of (tt_s 37 rfl) rfl, wi_X8, tt_of (tt_4 (List.mem_of_getElem? (i := 157) rfl)) rfl, ⟨by decide +kernel, by decide +kernel, by decide +kernel⟩⟩
theorem xv_X8_neighbourCount : XV yX8_neighbourCount cX8_neighbourCount 3 (some .int) 1 := ⟨tt_of (tt_4 (List.mem_of_getElem? (i := 151) rfl)) rfl, tt_of (tt_4 (List.mem_of_getElem? (i := 152) rfl)) rfl, wi_X8, tt_of (tt_4 (List.mem_of_getElem? (i := 153) rfl)) rfl, ⟨by decide +kernel, by decide +kernel, by decide +kernel⟩⟩
theorem xv_X8_leadLength : XV yX8_leadLength cX8_leadLength 1 (some .int) 0 := ⟨tt_of (tt_4 (List.mem_of_getElem? (i := 159) rfl)) rfl, tt_of (tt_4 (List.mem_of_getElem? (i := 160) rfl)) rfl, wi_X8, tt_of (tt_4 (List.mem_of_getElem? (i := 161) rfl)) rfl, ⟨by decide +kernel, by decide +kernel, by decide +kernel⟩⟩
theorem xv_X8_setCellLimit : XV yX8_setCellLimit cX8_setCellLimit 2 (some .int) 1 := ⟨tt_of (tt_4 (List.mem_of_getElem? (i := 163) rfl)) rfl, tt_of (tt_4 (List.mem_of_getElem? (i := 164) rfl)) rfl, wi_X8, tt_of (tt_4 (List.mem_of_getElem? (i := 165) rfl)) rfl, ⟨by decide +kernel, by decide +kernel, by decide +kernel⟩⟩
theorem xv_X8_setCornerLimit : XV yX8_setCornerLimit cX8_setCornerLimit 2 (some .int) 1 := ⟨tt_of (tt_4 (List.mem_of_getElem? (i := 167) rfl)) rfl, tt_of (tt_4 (List.mem_of_getElem? (i := 168) rfl)) rfl, wi_X8, tt_of (tt_4 (List.mem_of_getElem? (i := 169) rfl)) rfl, ⟨by decide +kernel, by decide +kernel, by decide +kernel⟩⟩
theorem xs_X8_box : XS yX8_box cX8_box 4 (some .int) 4 := ⟨tt_of (tt_4 (List.mem_of_getElem? (i := 183) rfl)) rfl, wi_X8, tt_of (tt_4 (List.mem_of_getElem? (i := 184) rfl)) rfl, ⟨by decide +kernel, by decide +kernel, by decide +kernel⟩⟩
theorem xv_X8_easyMany : XV yX8_easyMany cX8_easyMany 7 (some .int) 1 := ⟨tt_of (tt_4 (List.mem_of_getElem? (i := 187) rfl)) rfl, tt_of (tt_s 40 rfl) rfl, wi_X8, tt_of (tt_4 (List.mem_of_getElem? (i := 188) rfl)) rfl, ⟨by decide +kernel, by decide +kernel, by decide +kernel⟩⟩
theorem xv_X8_apartBelow : XV yX8_apartBelow cX8_apartBelow 7 (some .int) 4 := ⟨tt_of (tt_4 (List.mem_of_getElem? (i := 191) rfl)) rfl, tt_of (tt_s 41 rfl) rfl, wi_X8, tt_of (tt_4 (List.mem_of_getElem? (i := 192) rfl)) rfl, ⟨by decide +kernel, by decide +kernel, by decide +kernel⟩⟩
theorem xv_X8_apartRight : XV yX8_apartRight cX8_apartRight 7 (some .int) 4 := ⟨tt_of (tt_4 (List.mem_of_getElem? (i := 199) rfl)) rfl, tt_of (tt_s 43 rfl) rfl, wi_X8, tt_of (tt_4 (List.mem_of_getElem? (i := 200) rfl)) rfl, ⟨by decide +kernel, by decide +kernel, by decide +kernel⟩⟩
theorem xv_X8_tries : XV yX8_tries cX8_tries 8 none 5 := ⟨tt_of (tt_4 (List.mem_of_getElem? (i := 195) rfl)) rfl, tt_of (tt_s 42 rfl) rfl, wi_X8, tt_of (tt_4 (List.mem_of_getElem? (i := 196) rfl)) rfl, ⟨by decide +kernel, by decide +kernel, by decide +kernel⟩⟩
theorem xv_X8_layBox : XV yX8_layBox cX8_layBox 11 none 1 := ⟨tt_of (tt_4 (List.mem_of_getElem? (i := 180) rfl)) rfl, tt_of (tt_s 39 rfl) rfl, wi_X8, tt_of (tt_4 (List.mem_of_getElem? (i := 181) rfl)) rfl, ⟨by decide +kernel, by decide +kernel, by decide +kernel⟩⟩
theorem xv_X8_layPlan : XV yX8_layPlan cX8_layPlan 10 (some .int) 1 := ⟨tt_of (tt_4 (List.mem_of_getElem? (i := 176) rfl)) rfl, tt_of (tt_s 38 rfl) rfl, wi_X8, tt_of (tt_4 (List.mem_of_getElem? (i := 177) rfl)) rfl, ⟨by decide +kernel, by decide +kernel, by decide +kernel⟩⟩
theorem xv_X8_splitPieces : XV yX8_splitPieces cX8_splitPieces 2 (some .int) 1 := ⟨tt_of (tt_4 (List.mem_of_getElem? (i := 171) rfl)) rfl, tt_of (tt_4 (List.mem_of_getElem? (i := 172) rfl)) rfl, wi_X8, tt_of (tt_4 (List.mem_of_getElem? (i := 173) rfl)) rfl, ⟨by decide +kernel, by decide +kernel, by decide +kernel⟩⟩
theorem xv_X8_splitLead : XV yX8_splitLead cX8_splitLead 2 (some .int) 1 := ⟨tt_of (tt_4 (List.mem_of_getElem? (i := 202) rfl)) rfl, tt_of (tt_4 (List.mem_of_getElem? (i := 203) rfl)) rfl, wi_X8, tt_of (tt_4 (List.mem_of_getElem? (i := 204) rfl)) rfl, ⟨by decide +kernel, by decide +kernel, by decide +kernel⟩⟩
theorem xv_X8_cutBy : XV yX8_cutBy cX8_cutBy 14 (some .int) 3 := ⟨tt_of (tt_4 (List.mem_of_getElem? (i := 211) rfl)) rfl, tt_of (tt_s 44 rfl) rfl, wi_X8, tt_of (tt_4 (List.mem_of_getElem? (i := 212) rfl)) rfl, ⟨by decide +kernel, by decide +kernel, by decide +kernel⟩⟩
theorem xv_X8_applySplit : XV yX8_applySplit cX8_applySplit 4 (some .int) 1 := ⟨tt_of (tt_4 (List.mem_of_getElem? (i := 206) rfl)) rfl, tt_of (tt_4 (List.mem_of_getElem? (i := 207) rfl)) rfl, wi_X8, tt_of (tt_4 (List.mem_of_getElem? (i := 208) rfl)) rfl, ⟨by decide +kernel, by decide +kernel, by decide +kernel⟩⟩
theorem xv_X8_equalNeighbours : XV yX8_equalNeighbours cX8_equalNeighbours 6 (some .int) 0 := ⟨tt_of (tt_4 (List.mem_of_getElem? (i := 214) rfl)) rfl, tt_of (tt_4 (List.mem_of_getElem? (i := 215) rfl)) rfl, wi_X8, tt_of (tt_4 (List.mem_of_getElem? (i := 216) rfl)) rfl, ⟨by decide +kernel, by decide +kernel, by decide +kernel⟩⟩
theorem xv_X8_firstOf : XV yX8_firstOf cX8_firstOf 3 (some .int) 1 := ⟨tt_of (tt_4 (List.mem_of_getElem? (i := 219) rfl)) rfl, tt_of (tt_s 45 rfl) rfl, wi_X8, tt_of (tt_4 (List.mem_of_getElem? (i := 220) rfl)) rfl, ⟨by decide +kernel, by decide +kernel, by decide +kernel⟩⟩
theorem xv_X8_leftNear : XV yX8_leftNear cX8_leftNear 4 (some .int) 1 := ⟨tt_of (tt_4 (List.mem_of_getElem? (i := 235) rfl)) rfl, tt_of (tt_s 48 rfl) rfl, wi_X8, tt_of (tt_4 (List.mem_of_getElem? (i := 236) rfl)) rfl, ⟨by decide +kernel, by decide +kernel, by decide +kernel⟩⟩
theorem xv_X8_nextPane : XV yX8_nextPane cX8_nextPane 6 (some .int) 1 := ⟨tt_of (tt_4 (List.mem_of_getElem? (i := 231) rfl)) rfl, tt_of (tt_s 47 rfl) rfl, wi_X8, tt_of (tt_4 (List.mem_of_getElem? (i := 232) rfl)) rfl, ⟨by decide +kernel, by decide +kernel, by decide +kernel⟩⟩
theorem xv_X8_colourOne : XV yX8_colourOne cX8_colourOne 5 none 1 := ⟨tt_of (tt_4 (List.mem_of_getElem? (i := 239) rfl)) rfl, tt_of (tt_s 49 rfl) rfl, wi_X8, tt_of (tt_5 (List.mem_of_getElem? (i := 0) rfl)) rfl, ⟨by decide +kernel, by decide +kernel, by decide +kernel⟩⟩
theorem xv_X8_colourAll : XV yX8_colourAll cX8_colourAll 4 (some .int) 1 := ⟨tt_of (tt_4 (List.mem_of_getElem? (i := 227) rfl)) rfl, tt_of (tt_s 46 rfl) rfl, wi_X8, tt_of (tt_4 (List.mem_of_getElem? (i := 228) rfl)) rfl, ⟨by decide +kernel, by decide +kernel, by decide +kernel⟩⟩
theorem xv_X8_colourCount : XV yX8_colourCount cX8_colourCount 3 (some .int) 1 := ⟨tt_of (tt_4 (List.mem_of_getElem? (i := 222) rfl)) rfl, tt_of (tt_4 (List.mem_of_getElem? (i := 223) rfl)) rfl, wi_X8, tt_of (tt_4 (List.mem_of_getElem? (i := 224) rfl)) rfl, ⟨by decide +kernel, by decide +kernel, by decide +kernel⟩⟩
theorem xv_X8_suggestedColour : XV yX8_suggestedColour cX8_suggestedColour 5 (some .int) 2 := ⟨tt_of (tt_5 (List.mem_of_getElem? (i := 2) rfl)) rfl, tt_of (tt_5 (List.mem_of_getElem? (i := 3) rfl)) rfl, wi_X8, tt_of (tt_5 (List.mem_of_getElem? (i := 4) rfl)) rfl, ⟨by decide +kernel, by decide +kernel, by decide +kernel⟩⟩
theorem xv_X8_bestOrder : XV yX8_bestOrder cX8_bestOrder 6 (some .int) 0 := ⟨tt_of (tt_5 (List.mem_of_getElem? (i := 6) rfl)) rfl, tt_of (tt_5 (List.mem_of_getElem? (i := 7) rfl)) rfl, wi_X8, tt_of (tt_5 (List.mem_of_getElem? (i := 8) rfl)) rfl, ⟨by decide +kernel, by decide +kernel, by decide +kernel⟩⟩
theorem xv_X8_areNear : XV yX8_areNear cX8_areNear 3 (some .boolean) 2 := ⟨tt_of (tt_5 (List.mem_of_getElem? (i := 15) rfl)) rfl, tt_of (tt_s 50 rfl) rfl, wi_X8, tt_of (tt_5 (List.mem_of_getElem? (i := 16) rfl)) rfl, ⟨by decide +kernel, by decide +kernel, by decide +kernel⟩⟩
theorem xv_X8_largestClique : XV yX8_largestClique cX8_largestClique 7 (some .int) 0 := ⟨tt_of (tt_5 (List.mem_of_getElem? (i := 10) rfl)) rfl, tt_of (tt_5 (List.mem_of_getElem? (i := 11) rfl)) rfl, wi_X8, tt_of (tt_5 (List.mem_of_getElem? (i := 12) rfl)) rfl, ⟨by decide +kernel, by decide +kernel, by decide +kernel⟩⟩
theorem xs_J13_bitCount_95d88 : XS yJ13_bitCount_95d88 cJ13_bitCount_95d88 2 (some .int) 1 := ⟨tt_of (tt_2 (List.mem_of_getElem? (i := 103) rfl)) rfl, wi_J13, tt_of (tt_2 (List.mem_of_getElem? (i := 104) rfl)) rfl, ⟨by decide +kernel, by decide +kernel, by decide +kernel⟩⟩
theorem lk_L_9 : Cond.methodLink RL 9 yX7_init ∈ TT := tt_of (tt_1 (List.mem_of_getElem? (i := 15) rfl)) rfl
theorem lk_X7_25 : Cond.methodLink RX7 25 yX3_init ∈ TT := tt_of (tt_1 (List.mem_of_getElem? (i := 85) rfl)) rfl
theorem lk_X7_32 : Cond.methodLink RX7 32 yX4_init ∈ TT := tt_of (tt_1 (List.mem_of_getElem? (i := 105) rfl)) rfl
theorem lk_X7_41 : Cond.methodLink RX7 41 yX5_init ∈ TT := tt_of (tt_1 (List.mem_of_getElem? (i := 143) rfl)) rfl
theorem lk_X7_50 : Cond.methodLink RX7 50 yX1_init ∈ TT := tt_of (tt_1 (List.mem_of_getElem? (i := 177) rfl)) rfl
theorem lk_X7_55 : Cond.methodLink RX7 55 yX4_find ∈ TT := tt_of (tt_1 (List.mem_of_getElem? (i := 192) rfl)) rfl
theorem lk_X4_44 : Cond.methodLink RX4 44 yX0_block ∈ TT := tt_of (tt_1 (List.mem_of_getElem? (i := 196) rfl)) rfl
theorem lk_X4_48 : Cond.methodLink RX4 48 yX2_joined ∈ TT := tt_of (tt_1 (List.mem_of_getElem? (i := 199) rfl)) rfl
theorem lk_X2_55 : Cond.methodLink RX2 55 yX0_number ∈ TT := tt_of (tt_1 (List.mem_of_getElem? (i := 203) rfl)) rfl
theorem lk_X2_59 : Cond.methodLink RX2 59 yX2_hasPair ∈ TT := tt_of (tt_1 (List.mem_of_getElem? (i := 206) rfl)) rfl
theorem lk_X2_41 : Cond.methodLink RX2 41 yX2_hasCell ∈ TT := tt_of (tt_1 (List.mem_of_getElem? (i := 210) rfl)) rfl
theorem lk_X4_52 : Cond.methodLink RX4 52 yX0_first ∈ TT := tt_of (tt_1 (List.mem_of_getElem? (i := 215) rfl)) rfl
theorem lk_X4_56 : Cond.methodLink RX4 56 yX4_fragment ∈ TT := tt_of (tt_1 (List.mem_of_getElem? (i := 218) rfl)) rfl
theorem lk_X4_62 : Cond.methodLink RX4 62 yX4_touching ∈ TT := tt_of (tt_1 (List.mem_of_getElem? (i := 223) rfl)) rfl
theorem lk_X4_65 : Cond.methodLink RX4 65 yX0_beside ∈ TT := tt_of (tt_1 (List.mem_of_getElem? (i := 227) rfl)) rfl
theorem lk_L_13 : Cond.methodLink RL 13 yX7_appendCharacter ∈ TT := tt_of (tt_2 (List.mem_of_getElem? (i := 9) rfl)) rfl
theorem lk_X7_58 : Cond.methodLink RX7 58 yX6_append ∈ TT := tt_of (tt_2 (List.mem_of_getElem? (i := 13) rfl)) rfl
theorem lk_L_18 : Cond.methodLink RL 18 yX7_clearText ∈ TT := tt_of (tt_2 (List.mem_of_getElem? (i := 17) rfl)) rfl
theorem lk_L_23 : Cond.methodLink RL 23 yX7_loadDrawing ∈ TT := tt_of (tt_2 (List.mem_of_getElem? (i := 21) rfl)) rfl
theorem lk_X7_66 : Cond.methodLink RX7 66 yX6_errorOffset ∈ TT := tt_of (tt_2 (List.mem_of_getElem? (i := 25) rfl)) rfl
theorem lk_X6_21 : Cond.methodLink RX6 21 yX6_isDigit ∈ TT := tt_of (tt_2 (List.mem_of_getElem? (i := 29) rfl)) rfl
theorem lk_X7_70 : Cond.methodLink RX7 70 yX3_remember ∈ TT := tt_of (tt_2 (List.mem_of_getElem? (i := 32) rfl)) rfl
theorem lk_X3_23 : Cond.methodLink RX3 23 yX2_copyFrom ∈ TT := tt_of (tt_2 (List.mem_of_getElem? (i := 36) rfl)) rfl
theorem lk_X7_73 : Cond.methodLink RX7 73 yX6_copyTo ∈ TT := tt_of (tt_2 (List.mem_of_getElem? (i := 46) rfl)) rfl
theorem lk_X6_33 : Cond.methodLink RX6 33 yX0_number ∈ TT := tt_of (tt_2 (List.mem_of_getElem? (i := 50) rfl)) rfl
theorem lk_X7_83 : Cond.methodLink RX7 83 yX7_refresh ∈ TT := tt_of (tt_2 (List.mem_of_getElem? (i := 51) rfl)) rfl
theorem lk_X7_215 : Cond.methodLink RX7 215 yX5_forget ∈ TT := tt_of (tt_2 (List.mem_of_getElem? (i := 55) rfl)) rfl
theorem lk_L_27 : Cond.methodLink RL 27 yX7_setColour ∈ TT := tt_of (tt_2 (List.mem_of_getElem? (i := 59) rfl)) rfl
theorem lk_X7_89 : Cond.methodLink RX7 89 yX2_hasCell ∈ TT := tt_of (tt_2 (List.mem_of_getElem? (i := 63) rfl)) rfl
theorem lk_X7_93 : Cond.methodLink RX7 93 yX0_number ∈ TT := tt_of (tt_2 (List.mem_of_getElem? (i := 64) rfl)) rfl
theorem lk_L_32 : Cond.methodLink RL 32 yX7_rows ∈ TT := tt_of (tt_2 (List.mem_of_getElem? (i := 65) rfl)) rfl
theorem lk_L_36 : Cond.methodLink RL 36 yX7_columns ∈ TT := tt_of (tt_2 (List.mem_of_getElem? (i := 69) rfl)) rfl
theorem lk_L_40 : Cond.methodLink RL 40 yX7_colourAt ∈ TT := tt_of (tt_2 (List.mem_of_getElem? (i := 73) rfl)) rfl
theorem lk_L_45 : Cond.methodLink RL 45 yX7_addCut ∈ TT := tt_of (tt_2 (List.mem_of_getElem? (i := 77) rfl)) rfl
theorem lk_X7_109 : Cond.methodLink RX7 109 yX2_hasPair ∈ TT := tt_of (tt_2 (List.mem_of_getElem? (i := 81) rfl)) rfl
theorem lk_X7_113 : Cond.methodLink RX7 113 yX2_hasCut ∈ TT := tt_of (tt_2 (List.mem_of_getElem? (i := 82) rfl)) rfl
theorem lk_X2_45 : Cond.methodLink RX2 45 yX0_only ∈ TT := tt_of (tt_2 (List.mem_of_getElem? (i := 86) rfl)) rfl
theorem lk_X0_9 : Cond.methodLink RX0 9 yX0_number ∈ TT := tt_of (tt_2 (List.mem_of_getElem? (i := 89) rfl)) rfl
theorem lk_X7_116 : Cond.methodLink RX7 116 yX7_flipCut ∈ TT := tt_of (tt_2 (List.mem_of_getElem? (i := 90) rfl)) rfl
theorem lk_X7_208 : Cond.methodLink RX7 208 yX2_flip ∈ TT := tt_of (tt_2 (List.mem_of_getElem? (i := 94) rfl)) rfl
theorem lk_X7_212 : Cond.methodLink RX7 212 yX2_countCuts ∈ TT := tt_of (tt_2 (List.mem_of_getElem? (i := 98) rfl)) rfl
theorem lk_X2_49 : Cond.methodLink RX2 49 yJ13_bitCount_95d88 ∈ TT := tt_of (tt_2 (List.mem_of_getElem? (i := 102) rfl)) rfl
theorem lk_L_49 : Cond.methodLink RL 49 yX7_removeCut ∈ TT := tt_of (tt_2 (List.mem_of_getElem? (i := 108) rfl)) rfl
theorem lk_L_53 : Cond.methodLink RL 53 yX7_looseCuts ∈ TT := tt_of (tt_2 (List.mem_of_getElem? (i := 112) rfl)) rfl
theorem lk_X7_120 : Cond.methodLink RX7 120 yX4_looseRight ∈ TT := tt_of (tt_2 (List.mem_of_getElem? (i := 116) rfl)) rfl
theorem lk_X4_91 : Cond.methodLink RX4 91 yX0_pairsRight ∈ TT := tt_of (tt_2 (List.mem_of_getElem? (i := 120) rfl)) rfl
theorem lk_X7_124 : Cond.methodLink RX7 124 yJ13_bitCount_95d88 ∈ TT := tt_of (tt_2 (List.mem_of_getElem? (i := 123) rfl)) rfl
theorem lk_X7_130 : Cond.methodLink RX7 130 yX4_looseBelow ∈ TT := tt_of (tt_2 (List.mem_of_getElem? (i := 124) rfl)) rfl
theorem lk_X4_97 : Cond.methodLink RX4 97 yX0_pairsBelow ∈ TT := tt_of (tt_2 (List.mem_of_getElem? (i := 128) rfl)) rfl
theorem lk_L_57 : Cond.methodLink RL 57 yX7_removeLooseCuts ∈ TT := tt_of (tt_2 (List.mem_of_getElem? (i := 131) rfl)) rfl
theorem lk_L_61 : Cond.methodLink RL 61 yX7_paneCount ∈ TT := tt_of (tt_2 (List.mem_of_getElem? (i := 136) rfl)) rfl
theorem lk_L_65 : Cond.methodLink RL 65 yX7_paneAt ∈ TT := tt_of (tt_2 (List.mem_of_getElem? (i := 140) rfl)) rfl
theorem lk_X7_135 : Cond.methodLink RX7 135 yX0_only ∈ TT := tt_of (tt_2 (List.mem_of_getElem? (i := 144) rfl)) rfl
theorem lk_X7_139 : Cond.methodLink RX7 139 yX4_numberOf ∈ TT := tt_of (tt_2 (List.mem_of_getElem? (i := 145) rfl)) rfl
theorem lk_L_69 : Cond.methodLink RL 69 yX7_paneSize ∈ TT := tt_of (tt_2 (List.mem_of_getElem? (i := 149) rfl)) rfl
theorem lk_X7_142 : Cond.methodLink RX7 142 yX4_hasPane ∈ TT := tt_of (tt_2 (List.mem_of_getElem? (i := 153) rfl)) rfl
theorem lk_L_73 : Cond.methodLink RL 73 yX7_innerCorners ∈ TT := tt_of (tt_2 (List.mem_of_getElem? (i := 157) rfl)) rfl
theorem lk_X7_149 : Cond.methodLink RX7 149 yX0_countInnerCorners ∈ TT := tt_of (tt_2 (List.mem_of_getElem? (i := 161) rfl)) rfl
theorem lk_X0_21 : Cond.methodLink RX0 21 yJ13_bitCount_95d88 ∈ TT := tt_of (tt_2 (List.mem_of_getElem? (i := 164) rfl)) rfl
theorem lk_L_77 : Cond.methodLink RL 77 yX7_holes ∈ TT := tt_of (tt_2 (List.mem_of_getElem? (i := 165) rfl)) rfl
theorem lk_X7_155 : Cond.methodLink RX7 155 yX0_countHoles ∈ TT := tt_of (tt_2 (List.mem_of_getElem? (i := 169) rfl)) rfl
theorem lk_X0_35 : Cond.methodLink RX0 35 yX0_connected ∈ TT := tt_of (tt_2 (List.mem_of_getElem? (i := 173) rfl)) rfl
theorem lk_X0_17 : Cond.methodLink RX0 17 yX0_first ∈ TT := tt_of (tt_2 (List.mem_of_getElem? (i := 176) rfl)) rfl
theorem lk_L_81 : Cond.methodLink RL 81 yX7_canBeCut ∈ TT := tt_of (tt_2 (List.mem_of_getElem? (i := 177) rfl)) rfl
theorem lk_X7_159 : Cond.methodLink RX7 159 yX4_isEasy ∈ TT := tt_of (tt_2 (List.mem_of_getElem? (i := 181) rfl)) rfl
theorem lk_X4_68 : Cond.methodLink RX4 68 yJ13_bitCount_95d88 ∈ TT := tt_of (tt_2 (List.mem_of_getElem? (i := 185) rfl)) rfl
theorem lk_X4_77 : Cond.methodLink RX4 77 yX0_countInnerCorners ∈ TT := tt_of (tt_2 (List.mem_of_getElem? (i := 186) rfl)) rfl
theorem lk_X4_83 : Cond.methodLink RX4 83 yX0_countHoles ∈ TT := tt_of (tt_2 (List.mem_of_getElem? (i := 187) rfl)) rfl
theorem lk_L_85 : Cond.methodLink RL 85 yX7_cuttableCount ∈ TT := tt_of (tt_2 (List.mem_of_getElem? (i := 188) rfl)) rfl
theorem lk_L_89 : Cond.methodLink RL 89 yX7_neighbourCount ∈ TT := tt_of (tt_2 (List.mem_of_getElem? (i := 192) rfl)) rfl
theorem lk_L_93 : Cond.methodLink RL 93 yX7_leadLength ∈ TT := tt_of (tt_2 (List.mem_of_getElem? (i := 196) rfl)) rfl
theorem lk_X7_166 : Cond.methodLink RX7 166 yX4_measureLead ∈ TT := tt_of (tt_2 (List.mem_of_getElem? (i := 200) rfl)) rfl
theorem lk_X4_103 : Cond.methodLink RX4 103 yX0_countPairs ∈ TT := tt_of (tt_2 (List.mem_of_getElem? (i := 204) rfl)) rfl
theorem lk_X0_27 : Cond.methodLink RX0 27 yX0_pairsRight ∈ TT := tt_of (tt_2 (List.mem_of_getElem? (i := 207) rfl)) rfl
theorem lk_X0_30 : Cond.methodLink RX0 30 yX0_pairsBelow ∈ TT := tt_of (tt_2 (List.mem_of_getElem? (i := 208) rfl)) rfl
theorem lk_L_97 : Cond.methodLink RL 97 yX7_setCellLimit ∈ TT := tt_of (tt_2 (List.mem_of_getElem? (i := 209) rfl)) rfl
theorem lk_L_101 : Cond.methodLink RL 101 yX7_setCornerLimit ∈ TT := tt_of (tt_2 (List.mem_of_getElem? (i := 213) rfl)) rfl
theorem lk_L_105 : Cond.methodLink RL 105 yX7_splitPieces ∈ TT := tt_of (tt_2 (List.mem_of_getElem? (i := 217) rfl)) rfl
theorem lk_X7_175 : Cond.methodLink RX7 175 yX5_plan ∈ TT := tt_of (tt_2 (List.mem_of_getElem? (i := 221) rfl)) rfl
theorem lk_X5_51 : Cond.methodLink RX5 51 yX5_frame ∈ TT := tt_of (tt_2 (List.mem_of_getElem? (i := 225) rfl)) rfl
theorem lk_X5_58 : Cond.methodLink RX5 58 yX0_inRow ∈ TT := tt_of (tt_2 (List.mem_of_getElem? (i := 229) rfl)) rfl
theorem lk_X5_68 : Cond.methodLink RX5 68 yX0_inColumn ∈ TT := tt_of (tt_2 (List.mem_of_getElem? (i := 234) rfl)) rfl
theorem lk_X5_54 : Cond.methodLink RX5 54 yX5_planPart ∈ TT := tt_of (tt_2 (List.mem_of_getElem? (i := 238) rfl)) rfl
theorem lk_X5_42 : Cond.methodLink RX5 42 yX5_place ∈ TT := tt_of (tt_3 (List.mem_of_getElem? (i := 2) rfl)) rfl
theorem lk_X5_114 : Cond.methodLink RX5 114 yX5_span ∈ TT := tt_of (tt_3 (List.mem_of_getElem? (i := 5) rfl)) rfl
theorem lk_X5_71 : Cond.methodLink RX5 71 yX0_block ∈ TT := tt_of (tt_3 (List.mem_of_getElem? (i := 8) rfl)) rfl
theorem lk_X5_75 : Cond.methodLink RX5 75 yX4_countEasyFragments ∈ TT := tt_of (tt_3 (List.mem_of_getElem? (i := 9) rfl)) rfl
theorem lk_X4_87 : Cond.methodLink RX4 87 yX4_isEasy ∈ TT := tt_of (tt_3 (List.mem_of_getElem? (i := 13) rfl)) rfl
theorem lk_X5_80 : Cond.methodLink RX5 80 yX5_crossedBelow ∈ TT := tt_of (tt_3 (List.mem_of_getElem? (i := 15) rfl)) rfl
theorem lk_X5_84 : Cond.methodLink RX5 84 yJ13_bitCount_95d88 ∈ TT := tt_of (tt_3 (List.mem_of_getElem? (i := 19) rfl)) rfl
theorem lk_X5_89 : Cond.methodLink RX5 89 yX5_offer ∈ TT := tt_of (tt_3 (List.mem_of_getElem? (i := 20) rfl)) rfl
theorem lk_X5_93 : Cond.methodLink RX5 93 yX5_crossedRight ∈ TT := tt_of (tt_3 (List.mem_of_getElem? (i := 24) rfl)) rfl
theorem lk_X7_179 : Cond.methodLink RX7 179 yX5_pieces ∈ TT := tt_of (tt_3 (List.mem_of_getElem? (i := 28) rfl)) rfl
theorem lk_L_109 : Cond.methodLink RL 109 yX7_splitLead ∈ TT := tt_of (tt_3 (List.mem_of_getElem? (i := 32) rfl)) rfl
theorem lk_X7_182 : Cond.methodLink RX7 182 yX5_lead ∈ TT := tt_of (tt_3 (List.mem_of_getElem? (i := 36) rfl)) rfl
theorem lk_L_113 : Cond.methodLink RL 113 yX7_applySplit ∈ TT := tt_of (tt_3 (List.mem_of_getElem? (i := 40) rfl)) rfl
theorem lk_X7_185 : Cond.methodLink RX7 185 yX5_cut ∈ TT := tt_of (tt_3 (List.mem_of_getElem? (i := 44) rfl)) rfl
theorem lk_X5_102 : Cond.methodLink RX5 102 yX5_cutPart ∈ TT := tt_of (tt_3 (List.mem_of_getElem? (i := 48) rfl)) rfl
theorem lk_L_117 : Cond.methodLink RL 117 yX7_equalNeighbours ∈ TT := tt_of (tt_3 (List.mem_of_getElem? (i := 52) rfl)) rfl
theorem lk_X7_188 : Cond.methodLink RX7 188 yX4_countEqualNeighbours ∈ TT := tt_of (tt_3 (List.mem_of_getElem? (i := 56) rfl)) rfl
theorem lk_X4_106 : Cond.methodLink RX4 106 yX4_colourOf ∈ TT := tt_of (tt_3 (List.mem_of_getElem? (i := 60) rfl)) rfl
theorem lk_X4_110 : Cond.methodLink RX4 110 yX0_numberOfFirst ∈ TT := tt_of (tt_3 (List.mem_of_getElem? (i := 64) rfl)) rfl
theorem lk_L_121 : Cond.methodLink RL 121 yX7_colourCount ∈ TT := tt_of (tt_3 (List.mem_of_getElem? (i := 67) rfl)) rfl
theorem lk_X7_191 : Cond.methodLink RX7 191 yX1_hasOrder ∈ TT := tt_of (tt_3 (List.mem_of_getElem? (i := 71) rfl)) rfl
theorem lk_X7_194 : Cond.methodLink RX7 194 yX1_paint ∈ TT := tt_of (tt_3 (List.mem_of_getElem? (i := 75) rfl)) rfl
theorem lk_X1_22 : Cond.methodLink RX1 22 yX1_arrangeByNumber ∈ TT := tt_of (tt_3 (List.mem_of_getElem? (i := 79) rfl)) rfl
theorem lk_X1_25 : Cond.methodLink RX1 25 yX1_arrangeByNeighbours ∈ TT := tt_of (tt_3 (List.mem_of_getElem? (i := 83) rfl)) rfl
theorem lk_X1_56 : Cond.methodLink RX1 56 yX4_everyPane ∈ TT := tt_of (tt_3 (List.mem_of_getElem? (i := 87) rfl)) rfl
theorem lk_X1_60 : Cond.methodLink RX1 60 yX1_mostNeighbours ∈ TT := tt_of (tt_3 (List.mem_of_getElem? (i := 91) rfl)) rfl
theorem lk_X1_41 : Cond.methodLink RX1 41 yJ13_bitCount_95d88 ∈ TT := tt_of (tt_3 (List.mem_of_getElem? (i := 95) rfl)) rfl
theorem lk_X1_28 : Cond.methodLink RX1 28 yX1_arrangeByRemoval ∈ TT := tt_of (tt_3 (List.mem_of_getElem? (i := 97) rfl)) rfl
theorem lk_X1_63 : Cond.methodLink RX1 63 yX1_fewestNeighboursAmong ∈ TT := tt_of (tt_3 (List.mem_of_getElem? (i := 101) rfl)) rfl
theorem lk_X1_37 : Cond.methodLink RX1 37 yX1_smallestFree ∈ TT := tt_of (tt_3 (List.mem_of_getElem? (i := 105) rfl)) rfl
theorem lk_X1_53 : Cond.methodLink RX1 53 yX0_numberOfFirst ∈ TT := tt_of (tt_3 (List.mem_of_getElem? (i := 109) rfl)) rfl
theorem lk_L_125 : Cond.methodLink RL 125 yX7_suggestedColour ∈ TT := tt_of (tt_3 (List.mem_of_getElem? (i := 110) rfl)) rfl
theorem lk_L_129 : Cond.methodLink RL 129 yX7_bestOrder ∈ TT := tt_of (tt_3 (List.mem_of_getElem? (i := 114) rfl)) rfl
theorem lk_L_133 : Cond.methodLink RL 133 yX7_largestClique ∈ TT := tt_of (tt_3 (List.mem_of_getElem? (i := 118) rfl)) rfl
theorem lk_X7_201 : Cond.methodLink RX7 201 yX4_measureClique ∈ TT := tt_of (tt_3 (List.mem_of_getElem? (i := 122) rfl)) rfl
theorem lk_X4_117 : Cond.methodLink RX4 117 yX4_everyPane ∈ TT := tt_of (tt_3 (List.mem_of_getElem? (i := 126) rfl)) rfl
theorem lk_X4_121 : Cond.methodLink RX4 121 yX4_cliqueAmong ∈ TT := tt_of (tt_3 (List.mem_of_getElem? (i := 127) rfl)) rfl
theorem lk_L_137 : Cond.methodLink RL 137 yX7_undo ∈ TT := tt_of (tt_3 (List.mem_of_getElem? (i := 134) rfl)) rfl
theorem lk_X7_205 : Cond.methodLink RX7 205 yX3_restore ∈ TT := tt_of (tt_3 (List.mem_of_getElem? (i := 138) rfl)) rfl
theorem lk_L_12 : Cond.methodLink RL 12 yX8_init ∈ TT := tt_of (tt_3 (List.mem_of_getElem? (i := 144) rfl)) rfl
theorem lk_L_140 : Cond.methodLink RL 140 yX8_undo ∈ TT := tt_of (tt_3 (List.mem_of_getElem? (i := 231) rfl)) rfl
theorem lk_L_17 : Cond.methodLink RL 17 yX8_appendCharacter ∈ TT := tt_of (tt_3 (List.mem_of_getElem? (i := 235) rfl)) rfl
theorem lk_X8_65 : Cond.methodLink RX8 65 yX8_in ∈ TT := tt_of (tt_3 (List.mem_of_getElem? (i := 239) rfl)) rfl
theorem lk_L_22 : Cond.methodLink RL 22 yX8_clearText ∈ TT := tt_of (tt_4 (List.mem_of_getElem? (i := 2) rfl)) rfl
theorem lk_L_26 : Cond.methodLink RL 26 yX8_loadDrawing ∈ TT := tt_of (tt_4 (List.mem_of_getElem? (i := 6) rfl)) rfl
theorem lk_X8_85 : Cond.methodLink RX8 85 yX8_reads ∈ TT := tt_of (tt_4 (List.mem_of_getElem? (i := 10) rfl)) rfl
theorem lk_X8_73 : Cond.methodLink RX8 73 yX8_save ∈ TT := tt_of (tt_4 (List.mem_of_getElem? (i := 14) rfl)) rfl
theorem lk_X8_89 : Cond.methodLink RX8 89 yX8_findPanes ∈ TT := tt_of (tt_4 (List.mem_of_getElem? (i := 18) rfl)) rfl
theorem lk_X8_131 : Cond.methodLink RX8 131 yX8_wholeDrawing ∈ TT := tt_of (tt_4 (List.mem_of_getElem? (i := 22) rfl)) rfl
theorem lk_X8_95 : Cond.methodLink RX8 95 yX8_isCell ∈ TT := tt_of (tt_4 (List.mem_of_getElem? (i := 26) rfl)) rfl
theorem lk_X8_134 : Cond.methodLink RX8 134 yX8_spread ∈ TT := tt_of (tt_4 (List.mem_of_getElem? (i := 30) rfl)) rfl
theorem lk_X8_106 : Cond.methodLink RX8 106 yX8_step ∈ TT := tt_of (tt_4 (List.mem_of_getElem? (i := 34) rfl)) rfl
theorem lk_X8_128 : Cond.methodLink RX8 128 yX8_joins ∈ TT := tt_of (tt_4 (List.mem_of_getElem? (i := 37) rfl)) rfl
theorem lk_X8_103 : Cond.methodLink RX8 103 yX8_hasNext ∈ TT := tt_of (tt_4 (List.mem_of_getElem? (i := 41) rfl)) rfl
theorem lk_L_31 : Cond.methodLink RL 31 yX8_setColour ∈ TT := tt_of (tt_4 (List.mem_of_getElem? (i := 45) rfl)) rfl
theorem lk_X8_99 : Cond.methodLink RX8 99 yX8_changed ∈ TT := tt_of (tt_4 (List.mem_of_getElem? (i := 49) rfl)) rfl
theorem lk_L_35 : Cond.methodLink RL 35 yX8_rows ∈ TT := tt_of (tt_4 (List.mem_of_getElem? (i := 53) rfl)) rfl
theorem lk_L_39 : Cond.methodLink RL 39 yX8_columns ∈ TT := tt_of (tt_4 (List.mem_of_getElem? (i := 57) rfl)) rfl
theorem lk_L_44 : Cond.methodLink RL 44 yX8_colourAt ∈ TT := tt_of (tt_4 (List.mem_of_getElem? (i := 61) rfl)) rfl
theorem lk_L_48 : Cond.methodLink RL 48 yX8_addCut ∈ TT := tt_of (tt_4 (List.mem_of_getElem? (i := 65) rfl)) rfl
theorem lk_X8_110 : Cond.methodLink RX8 110 yX8_isCut ∈ TT := tt_of (tt_4 (List.mem_of_getElem? (i := 69) rfl)) rfl
theorem lk_X8_113 : Cond.methodLink RX8 113 yX8_cuts ∈ TT := tt_of (tt_4 (List.mem_of_getElem? (i := 73) rfl)) rfl
theorem lk_L_52 : Cond.methodLink RL 52 yX8_removeCut ∈ TT := tt_of (tt_4 (List.mem_of_getElem? (i := 77) rfl)) rfl
theorem lk_L_64 : Cond.methodLink RL 64 yX8_paneCount ∈ TT := tt_of (tt_4 (List.mem_of_getElem? (i := 81) rfl)) rfl
theorem lk_L_68 : Cond.methodLink RL 68 yX8_paneAt ∈ TT := tt_of (tt_4 (List.mem_of_getElem? (i := 85) rfl)) rfl
theorem lk_L_72 : Cond.methodLink RL 72 yX8_paneSize ∈ TT := tt_of (tt_4 (List.mem_of_getElem? (i := 89) rfl)) rfl
theorem lk_X8_156 : Cond.methodLink RX8 156 yX8_isPane ∈ TT := tt_of (tt_4 (List.mem_of_getElem? (i := 93) rfl)) rfl
theorem lk_L_76 : Cond.methodLink RL 76 yX8_innerCorners ∈ TT := tt_of (tt_4 (List.mem_of_getElem? (i := 97) rfl)) rfl
theorem lk_X8_146 : Cond.methodLink RX8 146 yX8_corners ∈ TT := tt_of (tt_4 (List.mem_of_getElem? (i := 101) rfl)) rfl
theorem lk_L_80 : Cond.methodLink RL 80 yX8_holes ∈ TT := tt_of (tt_4 (List.mem_of_getElem? (i := 105) rfl)) rfl
theorem lk_X8_150 : Cond.methodLink RX8 150 yX8_holesOf ∈ TT := tt_of (tt_4 (List.mem_of_getElem? (i := 109) rfl)) rfl
theorem lk_X8_142 : Cond.methodLink RX8 142 yX8_isHole ∈ TT := tt_of (tt_4 (List.mem_of_getElem? (i := 113) rfl)) rfl
theorem lk_X8_138 : Cond.methodLink RX8 138 yX8_isEdge ∈ TT := tt_of (tt_4 (List.mem_of_getElem? (i := 117) rfl)) rfl
theorem lk_L_84 : Cond.methodLink RL 84 yX8_canBeCut ∈ TT := tt_of (tt_4 (List.mem_of_getElem? (i := 121) rfl)) rfl
theorem lk_X8_159 : Cond.methodLink RX8 159 yX8_canCut ∈ TT := tt_of (tt_4 (List.mem_of_getElem? (i := 125) rfl)) rfl
theorem lk_X8_153 : Cond.methodLink RX8 153 yX8_isEasy ∈ TT := tt_of (tt_4 (List.mem_of_getElem? (i := 129) rfl)) rfl
theorem lk_L_88 : Cond.methodLink RL 88 yX8_cuttableCount ∈ TT := tt_of (tt_4 (List.mem_of_getElem? (i := 133) rfl)) rfl
theorem lk_L_56 : Cond.methodLink RL 56 yX8_looseCuts ∈ TT := tt_of (tt_4 (List.mem_of_getElem? (i := 137) rfl)) rfl
theorem lk_X8_162 : Cond.methodLink RX8 162 yX8_isLoose ∈ TT := tt_of (tt_4 (List.mem_of_getElem? (i := 141) rfl)) rfl
theorem lk_L_60 : Cond.methodLink RL 60 yX8_removeLooseCuts ∈ TT := tt_of (tt_4 (List.mem_of_getElem? (i := 145) rfl)) rfl
theorem lk_X8_165 : Cond.methodLink RX8 165 yX8_looseCuts ∈ TT := tt_of (tt_4 (List.mem_of_getElem? (i := 149) rfl)) rfl
theorem lk_L_92 : Cond.methodLink RL 92 yX8_neighbourCount ∈ TT := tt_of (tt_4 (List.mem_of_getElem? (i := 150) rfl)) rfl
theorem lk_X8_168 : Cond.methodLink RX8 168 yX8_findNear ∈ TT := tt_of (tt_4 (List.mem_of_getElem? (i := 154) rfl)) rfl
theorem lk_L_96 : Cond.methodLink RL 96 yX8_leadLength ∈ TT := tt_of (tt_4 (List.mem_of_getElem? (i := 158) rfl)) rfl
theorem lk_L_100 : Cond.methodLink RL 100 yX8_setCellLimit ∈ TT := tt_of (tt_4 (List.mem_of_getElem? (i := 162) rfl)) rfl
theorem lk_L_104 : Cond.methodLink RL 104 yX8_setCornerLimit ∈ TT := tt_of (tt_4 (List.mem_of_getElem? (i := 166) rfl)) rfl
theorem lk_L_108 : Cond.methodLink RL 108 yX8_splitPieces ∈ TT := tt_of (tt_4 (List.mem_of_getElem? (i := 170) rfl)) rfl
theorem lk_X8_192 : Cond.methodLink RX8 192 yX8_layPlan ∈ TT := tt_of (tt_4 (List.mem_of_getElem? (i := 174) rfl)) rfl
theorem lk_X8_188 : Cond.methodLink RX8 188 yX8_layBox ∈ TT := tt_of (tt_4 (List.mem_of_getElem? (i := 178) rfl)) rfl
theorem lk_X8_171 : Cond.methodLink RX8 171 yX8_box ∈ TT := tt_of (tt_4 (List.mem_of_getElem? (i := 182) rfl)) rfl
theorem lk_X8_175 : Cond.methodLink RX8 175 yX8_easyMany ∈ TT := tt_of (tt_4 (List.mem_of_getElem? (i := 185) rfl)) rfl
theorem lk_X8_178 : Cond.methodLink RX8 178 yX8_apartBelow ∈ TT := tt_of (tt_4 (List.mem_of_getElem? (i := 189) rfl)) rfl
theorem lk_X8_181 : Cond.methodLink RX8 181 yX8_tries ∈ TT := tt_of (tt_4 (List.mem_of_getElem? (i := 193) rfl)) rfl
theorem lk_X8_185 : Cond.methodLink RX8 185 yX8_apartRight ∈ TT := tt_of (tt_4 (List.mem_of_getElem? (i := 197) rfl)) rfl
theorem lk_L_112 : Cond.methodLink RL 112 yX8_splitLead ∈ TT := tt_of (tt_4 (List.mem_of_getElem? (i := 201) rfl)) rfl
theorem lk_L_116 : Cond.methodLink RL 116 yX8_applySplit ∈ TT := tt_of (tt_4 (List.mem_of_getElem? (i := 205) rfl)) rfl
theorem lk_X8_195 : Cond.methodLink RX8 195 yX8_cutBy ∈ TT := tt_of (tt_4 (List.mem_of_getElem? (i := 209) rfl)) rfl
theorem lk_L_120 : Cond.methodLink RL 120 yX8_equalNeighbours ∈ TT := tt_of (tt_4 (List.mem_of_getElem? (i := 213) rfl)) rfl
theorem lk_X8_199 : Cond.methodLink RX8 199 yX8_firstOf ∈ TT := tt_of (tt_4 (List.mem_of_getElem? (i := 217) rfl)) rfl
theorem lk_L_124 : Cond.methodLink RL 124 yX8_colourCount ∈ TT := tt_of (tt_4 (List.mem_of_getElem? (i := 221) rfl)) rfl
theorem lk_X8_211 : Cond.methodLink RX8 211 yX8_colourAll ∈ TT := tt_of (tt_4 (List.mem_of_getElem? (i := 225) rfl)) rfl
theorem lk_X8_205 : Cond.methodLink RX8 205 yX8_nextPane ∈ TT := tt_of (tt_4 (List.mem_of_getElem? (i := 229) rfl)) rfl
theorem lk_X8_202 : Cond.methodLink RX8 202 yX8_leftNear ∈ TT := tt_of (tt_4 (List.mem_of_getElem? (i := 233) rfl)) rfl
theorem lk_X8_208 : Cond.methodLink RX8 208 yX8_colourOne ∈ TT := tt_of (tt_4 (List.mem_of_getElem? (i := 237) rfl)) rfl
theorem lk_L_128 : Cond.methodLink RL 128 yX8_suggestedColour ∈ TT := tt_of (tt_5 (List.mem_of_getElem? (i := 1) rfl)) rfl
theorem lk_L_132 : Cond.methodLink RL 132 yX8_bestOrder ∈ TT := tt_of (tt_5 (List.mem_of_getElem? (i := 5) rfl)) rfl
theorem lk_L_136 : Cond.methodLink RL 136 yX8_largestClique ∈ TT := tt_of (tt_5 (List.mem_of_getElem? (i := 9) rfl)) rfl
theorem lk_X8_214 : Cond.methodLink RX8 214 yX8_areNear ∈ TT := tt_of (tt_5 (List.mem_of_getElem? (i := 13) rfl)) rfl
theorem wo_X7 : Cond.methodLink RX7 1 objectInit ∈ TT := tt_of (tt_1 (List.mem_of_getElem? (i := 18) rfl)) rfl
theorem wo_X6 : Cond.methodLink RX6 5 objectInit ∈ TT := tt_of (tt_1 (List.mem_of_getElem? (i := 26) rfl)) rfl
theorem wo_X2 : Cond.methodLink RX2 1 objectInit ∈ TT := tt_of (tt_1 (List.mem_of_getElem? (i := 41) rfl)) rfl
theorem wo_X3 : Cond.methodLink RX3 1 objectInit ∈ TT := tt_of (tt_1 (List.mem_of_getElem? (i := 88) rfl)) rfl
theorem wo_X4 : Cond.methodLink RX4 1 objectInit ∈ TT := tt_of (tt_1 (List.mem_of_getElem? (i := 108) rfl)) rfl
theorem wo_X5 : Cond.methodLink RX5 3 objectInit ∈ TT := tt_of (tt_1 (List.mem_of_getElem? (i := 146) rfl)) rfl
theorem wo_X1 : Cond.methodLink RX1 1 objectInit ∈ TT := tt_of (tt_1 (List.mem_of_getElem? (i := 180) rfl)) rfl
theorem lk_X2_35 : Cond.methodLink RX2 35 arraycopyName ∈ TT := tt_of (tt_2 (List.mem_of_getElem? (i := 40) rfl)) rfl
theorem lk_X3_27 : Cond.methodLink RX3 27 Lib.Math.min.name ∈ TT := tt_of (tt_2 (List.mem_of_getElem? (i := 43) rfl)) rfl
theorem lk_X5_62 : Cond.methodLink RX5 62 Lib.Math.min.name ∈ TT := tt_of (tt_2 (List.mem_of_getElem? (i := 233) rfl)) rfl
theorem lk_X4_125 : Cond.methodLink RX4 125 Lib.Math.max.name ∈ TT := tt_of (tt_3 (List.mem_of_getElem? (i := 131) rfl)) rfl
theorem wo_X8 : Cond.methodLink RX8 1 objectInit ∈ TT := tt_of (tt_3 (List.mem_of_getElem? (i := 147) rfl)) rfl
theorem wob_i : Cond.instanceMethod objectInit ∈ TT := tt_of (tt_1 (List.mem_of_getElem? (i := 19) rfl)) rfl
theorem wob_c : Cond.code objectInit ⟨#[0xb1]⟩ 1 none ∈ TT := tt_of (tt_1 (List.mem_of_getElem? (i := 20) rfl)) rfl
theorem wm_min_s : Cond.static Lib.Math.min.name ∈ TT := tt_of (tt_2 (List.mem_of_getElem? (i := 44) rfl)) rfl
theorem wm_min_c : Cond.code Lib.Math.min.name Lib.Math.min.code 2 (some .int) ∈ TT := tt_of (tt_2 (List.mem_of_getElem? (i := 45) (by decide +kernel))) (by decide +kernel)
theorem wm_max_s : Cond.static Lib.Math.max.name ∈ TT := tt_of (tt_3 (List.mem_of_getElem? (i := 132) rfl)) rfl
theorem wm_max_c : Cond.code Lib.Math.max.name Lib.Math.max.code 2 (some .int) ∈ TT := tt_of (tt_3 (List.mem_of_getElem? (i := 133) (by decide +kernel))) (by decide +kernel)
theorem wy_s : Cond.static arraycopyName ∈ TT := tt_of (tt_2 (List.mem_of_getElem? (i := 41) rfl)) rfl
theorem wy_n : Cond.native arraycopyName ∈ TT := tt_of (tt_2 (List.mem_of_getElem? (i := 42) rfl)) rfl
