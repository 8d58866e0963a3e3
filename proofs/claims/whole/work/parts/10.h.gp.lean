abbrev rm_gp_refresh : Room := { frames := 6, cells := 0, slots := 0, locals := 139 }
set_option maxHeartbeats 4000000 in
set_option maxRecDepth 100000 in
theorem c_gp_refresh (l : Launch) (D : va_G) (cI cJ cZ cO : ClassId) (b : Nat → Nat) (D_rows : Int) (D_cols : Int) (D_cr : BitVec 64) (D_cb : BitVec 64) (D_cl : Int) (D_kl : Int) (D_col : Int → Int) (P_all : BitVec 64) (P_jr : BitVec 64) (P_jb : BitVec 64) (P_count : Int) (P_cells : Int → BitVec 64) (P_near : Int → BitVec 64) (S_planned : Int) (S_cells : BitVec 64) (S_top : Int) (S_bottom : Int) (S_left : Int) (S_right : Int) (N : Nat) (Res : BitVec 64 × BitVec 64 × BitVec 64 × Int × (Int → BitVec 64) × (Int → BitVec 64) × Int) (hf : f_gp_refresh N D_rows D_cols D_cr D_cb D_col P_all P_jr P_jb P_count P_cells P_near S_planned = some Res) : CoV l D (xT cI cJ cZ cO) yX7_refresh cX7_refresh 1 none rm_gp_refresh [.ref (b 0)] [((b 0), oG b), ((b 3), oD (b 4) D_rows D_cols D_cr D_cb D_cl D_kl), ((b 4), aI cI 56 D_col), ((b 7), oP b P_all P_jr P_jb P_count), ((b 8), aJ cJ 49 P_cells), ((b 9), aJ cJ 49 P_near), ((b 10), oS b S_planned S_cells S_top S_bottom S_left S_right)] [((b 0), oG b), ((b 3), oD (b 4) D_rows D_cols D_cr D_cb D_cl D_kl), ((b 4), aI cI 56 D_col), ((b 7), oP b Res.1 Res.2.1 Res.2.2.1 Res.2.2.2.1), ((b 8), aJ cJ 49 Res.2.2.2.2.1), ((b 9), aJ cJ 49 Res.2.2.2.2.2.1), ((b 10), oS b Res.2.2.2.2.2.2 S_cells S_top S_bottom S_left S_right)] := by
  refine co_v (by decide) ⟨rfl, rfl⟩ (Nat.le_of_ble_eq_true rfl) ?_
  intro p e s m args below meth c A Q ls C hret hl h
  have hx := C.1.1
  have hb := C.1.2.1
  have hl : lv_has ls 1 [(0, .ref (b 0))] := hl
  unfold f_gp_refresh at hf
  refine lv_aload_n hx hb (pc := 0) dX7_refresh_0 rfl (lv_at hl 0 rfl) ?_
  refine x_get C h (pc := 1) xf_X7_35 0 rfl (v := .ref (b 7)) rfl dX7_refresh_1 ?_
  obtain ⟨q_1, hq_1, hf⟩ := ob_some hf
  refine x_callVv C h (pc := 4) hl (c_pa_find l D cI cJ cZ cO b D_rows D_cols D_cr D_cb D_cl D_kl D_col P_all P_jr P_jb P_count P_cells P_near N q_1 hq_1) xv_X4_find lk_X7_55 ⟨(Nat.le_of_ble_eq_true rfl), (Nat.le_of_ble_eq_true rfl)⟩ rfl [1, 2, 3, 4, 5] rfl rfl rfl (ws' := [((b 0), oG b), ((b 3), oD (b 4) D_rows D_cols D_cr D_cb D_cl D_kl), ((b 4), aI cI 56 D_col), ((b 7), oP b q_1.1 q_1.2.1 q_1.2.2.1 q_1.2.2.2.1), ((b 8), aJ cJ 49 q_1.2.2.2.2.1), ((b 9), aJ cJ 49 q_1.2.2.2.2.2), ((b 10), oS b S_planned S_cells S_top S_bottom S_left S_right)]) rfl 3 rfl rfl rfl rfl (Nat.le_of_ble_eq_true rfl) dX7_refresh_4 (fun H locs h => ?_)
  refine lv_aload_n hx hb (pc := 7) dX7_refresh_7 rfl (lv_at hl 0 rfl) ?_
  refine x_get C h (pc := 8) xf_X7_44 0 rfl (v := .ref (b 10)) rfl dX7_refresh_8 ?_
  obtain ⟨q_2, hq_2, hf⟩ := ob_some hf
  refine x_callVv C h (pc := 11) hl (c_sp_forget l D cI cJ cZ cO b S_planned S_cells S_top S_bottom S_left S_right N q_2 hq_2) xv_X5_forget lk_X7_215 ⟨(Nat.le_of_ble_eq_true rfl), (Nat.le_of_ble_eq_true rfl)⟩ rfl [6] rfl rfl rfl (ws' := [((b 0), oG b), ((b 3), oD (b 4) D_rows D_cols D_cr D_cb D_cl D_kl), ((b 4), aI cI 56 D_col), ((b 7), oP b q_1.1 q_1.2.1 q_1.2.2.1 q_1.2.2.2.1), ((b 8), aJ cJ 49 q_1.2.2.2.2.1), ((b 9), aJ cJ 49 q_1.2.2.2.2.2), ((b 10), oS b q_2 S_cells S_top S_bottom S_left S_right)]) rfl 6 rfl rfl rfl rfl (Nat.le_of_ble_eq_true rfl) dX7_refresh_11 (fun H locs h => ?_)
  have e9 := Option.some.inj hf
  subst e9
  exact hret _ _ _ _ dX7_refresh_14 h
abbrev rm_gp_flipCut : Room := { frames := 7, cells := 0, slots := 0, locals := 159 }
set_option maxHeartbeats 4000000 in
set_option maxRecDepth 100000 in
theorem c_gp_flipCut (l : Launch) (D : va_G) (cI cJ cZ cO : ClassId) (b : Nat → Nat) (D_rows : Int) (D_cols : Int) (D_cr : BitVec 64) (D_cb : BitVec 64) (D_cl : Int) (D_kl : Int) (D_col : Int → Int) (H_next : Int) (H_count : Int) (K_rows : Int → Int) (K_cols : Int → Int) (K_cr : Int → BitVec 64) (K_cb : Int → BitVec 64) (K_cl : Int → Int) (K_kl : Int → Int) (K_col : Int → Int → Int) (P_all : BitVec 64) (P_jr : BitVec 64) (P_jb : BitVec 64) (P_count : Int) (P_cells : Int → BitVec 64) (P_near : Int → BitVec 64) (S_planned : Int) (S_cells : BitVec 64) (S_top : Int) (S_bottom : Int) (S_left : Int) (S_right : Int) (l1 : Int) (l2 : Int) (l3 : Int) (N : Nat) (Res : Int × BitVec 64 × BitVec 64 × Int × Int × (Int → Int) × (Int → Int) × (Int → BitVec 64) × (Int → BitVec 64) × (Int → Int) × (Int → Int) × (Int → Int → Int) × BitVec 64 × BitVec 64 × BitVec 64 × Int × (Int → BitVec 64) × (Int → BitVec 64) × Int) (hf : f_gp_flipCut N l1 l2 l3 D_rows D_cols D_cr D_cb D_cl D_kl D_col H_next H_count K_rows K_cols K_cr K_cb K_cl K_kl K_col P_all P_jr P_jb P_count P_cells P_near S_planned = some Res) : CoI l D (xT cI cJ cZ cO) yX7_flipCut cX7_flipCut 4 (some .int) rm_gp_flipCut [.ref (b 0), iv l1, iv l2, iv l3] [((b 0), oG b), ((b 3), oD (b 4) D_rows D_cols D_cr D_cb D_cl D_kl), ((b 4), aI cI 56 D_col), ((b 5), oH b H_next H_count), ((b 6), aK cO b), (b 16, oD (b 24) (K_rows 0) (K_cols 0) (K_cr 0) (K_cb 0) (K_cl 0) (K_kl 0)), (b 17, oD (b 25) (K_rows 1) (K_cols 1) (K_cr 1) (K_cb 1) (K_cl 1) (K_kl 1)), (b 18, oD (b 26) (K_rows 2) (K_cols 2) (K_cr 2) (K_cb 2) (K_cl 2) (K_kl 2)), (b 19, oD (b 27) (K_rows 3) (K_cols 3) (K_cr 3) (K_cb 3) (K_cl 3) (K_kl 3)), (b 20, oD (b 28) (K_rows 4) (K_cols 4) (K_cr 4) (K_cb 4) (K_cl 4) (K_kl 4)), (b 21, oD (b 29) (K_rows 5) (K_cols 5) (K_cr 5) (K_cb 5) (K_cl 5) (K_kl 5)), (b 22, oD (b 30) (K_rows 6) (K_cols 6) (K_cr 6) (K_cb 6) (K_cl 6) (K_kl 6)), (b 23, oD (b 31) (K_rows 7) (K_cols 7) (K_cr 7) (K_cb 7) (K_cl 7) (K_kl 7)), (b 24, aI cI 56 (K_col 0)), (b 25, aI cI 56 (K_col 1)), (b 26, aI cI 56 (K_col 2)), (b 27, aI cI 56 (K_col 3)), (b 28, aI cI 56 (K_col 4)), (b 29, aI cI 56 (K_col 5)), (b 30, aI cI 56 (K_col 6)), (b 31, aI cI 56 (K_col 7)), ((b 7), oP b P_all P_jr P_jb P_count), ((b 8), aJ cJ 49 P_cells), ((b 9), aJ cJ 49 P_near), ((b 10), oS b S_planned S_cells S_top S_bottom S_left S_right)] Res.1 [((b 0), oG b), ((b 3), oD (b 4) D_rows D_cols Res.2.1 Res.2.2.1 D_cl D_kl), ((b 4), aI cI 56 D_col), ((b 5), oH b Res.2.2.2.1 Res.2.2.2.2.1), ((b 6), aK cO b), (b 16, oD (b 24) (Res.2.2.2.2.2.1 0) (Res.2.2.2.2.2.2.1 0) (Res.2.2.2.2.2.2.2.1 0) (Res.2.2.2.2.2.2.2.2.1 0) (Res.2.2.2.2.2.2.2.2.2.1 0) (Res.2.2.2.2.2.2.2.2.2.2.1 0)), (b 17, oD (b 25) (Res.2.2.2.2.2.1 1) (Res.2.2.2.2.2.2.1 1) (Res.2.2.2.2.2.2.2.1 1) (Res.2.2.2.2.2.2.2.2.1 1) (Res.2.2.2.2.2.2.2.2.2.1 1) (Res.2.2.2.2.2.2.2.2.2.2.1 1)), (b 18, oD (b 26) (Res.2.2.2.2.2.1 2) (Res.2.2.2.2.2.2.1 2) (Res.2.2.2.2.2.2.2.1 2) (Res.2.2.2.2.2.2.2.2.1 2) (Res.2.2.2.2.2.2.2.2.2.1 2) (Res.2.2.2.2.2.2.2.2.2.2.1 2)), (b 19, oD (b 27) (Res.2.2.2.2.2.1 3) (Res.2.2.2.2.2.2.1 3) (Res.2.2.2.2.2.2.2.1 3) (Res.2.2.2.2.2.2.2.2.1 3) (Res.2.2.2.2.2.2.2.2.2.1 3) (Res.2.2.2.2.2.2.2.2.2.2.1 3)), (b 20, oD (b 28) (Res.2.2.2.2.2.1 4) (Res.2.2.2.2.2.2.1 4) (Res.2.2.2.2.2.2.2.1 4) (Res.2.2.2.2.2.2.2.2.1 4) (Res.2.2.2.2.2.2.2.2.2.1 4) (Res.2.2.2.2.2.2.2.2.2.2.1 4)), (b 21, oD (b 29) (Res.2.2.2.2.2.1 5) (Res.2.2.2.2.2.2.1 5) (Res.2.2.2.2.2.2.2.1 5) (Res.2.2.2.2.2.2.2.2.1 5) (Res.2.2.2.2.2.2.2.2.2.1 5) (Res.2.2.2.2.2.2.2.2.2.2.1 5)), (b 22, oD (b 30) (Res.2.2.2.2.2.1 6) (Res.2.2.2.2.2.2.1 6) (Res.2.2.2.2.2.2.2.1 6) (Res.2.2.2.2.2.2.2.2.1 6) (Res.2.2.2.2.2.2.2.2.2.1 6) (Res.2.2.2.2.2.2.2.2.2.2.1 6)), (b 23, oD (b 31) (Res.2.2.2.2.2.1 7) (Res.2.2.2.2.2.2.1 7) (Res.2.2.2.2.2.2.2.1 7) (Res.2.2.2.2.2.2.2.2.1 7) (Res.2.2.2.2.2.2.2.2.2.1 7) (Res.2.2.2.2.2.2.2.2.2.2.1 7)), (b 24, aI cI 56 (Res.2.2.2.2.2.2.2.2.2.2.2.1 0)), (b 25, aI cI 56 (Res.2.2.2.2.2.2.2.2.2.2.2.1 1)), (b 26, aI cI 56 (Res.2.2.2.2.2.2.2.2.2.2.2.1 2)), (b 27, aI cI 56 (Res.2.2.2.2.2.2.2.2.2.2.2.1 3)), (b 28, aI cI 56 (Res.2.2.2.2.2.2.2.2.2.2.2.1 4)), (b 29, aI cI 56 (Res.2.2.2.2.2.2.2.2.2.2.2.1 5)), (b 30, aI cI 56 (Res.2.2.2.2.2.2.2.2.2.2.2.1 6)), (b 31, aI cI 56 (Res.2.2.2.2.2.2.2.2.2.2.2.1 7)), ((b 7), oP b Res.2.2.2.2.2.2.2.2.2.2.2.2.1 Res.2.2.2.2.2.2.2.2.2.2.2.2.2.1 Res.2.2.2.2.2.2.2.2.2.2.2.2.2.2.1 Res.2.2.2.2.2.2.2.2.2.2.2.2.2.2.2.1), ((b 8), aJ cJ 49 Res.2.2.2.2.2.2.2.2.2.2.2.2.2.2.2.2.1), ((b 9), aJ cJ 49 Res.2.2.2.2.2.2.2.2.2.2.2.2.2.2.2.2.2.1), ((b 10), oS b Res.2.2.2.2.2.2.2.2.2.2.2.2.2.2.2.2.2.2 S_cells S_top S_bottom S_left S_right)] := by
  refine co_i (by decide) ⟨rfl, rfl⟩ (Nat.le_of_ble_eq_true rfl) ?_
  intro p e s m args below meth c A Q ls C hret hl h
  have hx := C.1.1
  have hb := C.1.2.1
  have hl : lv_has ls 4 [(0, .ref (b 0)), (1, iv l1), (2, iv l2), (3, iv l3)] := hl
  unfold f_gp_flipCut at hf
  refine lv_aload_n hx hb (pc := 0) dX7_flipCut_0 rfl (lv_at hl 0 rfl) ?_
  refine x_get C h (pc := 1) xf_X7_26 0 rfl (v := .ref (b 5)) rfl dX7_flipCut_1 ?_
  refine lv_aload_n hx hb (pc := 4) dX7_flipCut_4 rfl (lv_at hl 0 rfl) ?_
  refine x_get C h (pc := 5) xf_X7_19 0 rfl (v := .ref (b 3)) rfl dX7_flipCut_5 ?_
  obtain ⟨q_1, hq_1, hf⟩ := ob_some hf
  refine x_callVv C h (pc := 8) hl (c_hi_remember l D cI cJ cZ cO b D_rows D_cols D_cr D_cb D_cl D_kl D_col H_next H_count K_rows K_cols K_cr K_cb K_cl K_kl K_col N q_1 hq_1) xv_X3_remember lk_X7_70 ⟨(Nat.le_of_ble_eq_true rfl), (Nat.le_of_ble_eq_true rfl)⟩ rfl [1, 2, 3, 4, 5, 6, 7, 8, 9, 10, 11, 12, 13, 14, 15, 16, 17, 18, 19, 20] rfl rfl rfl (ws' := [((b 0), oG b), ((b 3), oD (b 4) D_rows D_cols D_cr D_cb D_cl D_kl), ((b 4), aI cI 56 D_col), ((b 5), oH b q_1.1 q_1.2.1), ((b 6), aK cO b), (b 16, oD (b 24) (q_1.2.2.1 0) (q_1.2.2.2.1 0) (q_1.2.2.2.2.1 0) (q_1.2.2.2.2.2.1 0) (q_1.2.2.2.2.2.2.1 0) (q_1.2.2.2.2.2.2.2.1 0)), (b 17, oD (b 25) (q_1.2.2.1 1) (q_1.2.2.2.1 1) (q_1.2.2.2.2.1 1) (q_1.2.2.2.2.2.1 1) (q_1.2.2.2.2.2.2.1 1) (q_1.2.2.2.2.2.2.2.1 1)), (b 18, oD (b 26) (q_1.2.2.1 2) (q_1.2.2.2.1 2) (q_1.2.2.2.2.1 2) (q_1.2.2.2.2.2.1 2) (q_1.2.2.2.2.2.2.1 2) (q_1.2.2.2.2.2.2.2.1 2)), (b 19, oD (b 27) (q_1.2.2.1 3) (q_1.2.2.2.1 3) (q_1.2.2.2.2.1 3) (q_1.2.2.2.2.2.1 3) (q_1.2.2.2.2.2.2.1 3) (q_1.2.2.2.2.2.2.2.1 3)), (b 20, oD (b 28) (q_1.2.2.1 4) (q_1.2.2.2.1 4) (q_1.2.2.2.2.1 4) (q_1.2.2.2.2.2.1 4) (q_1.2.2.2.2.2.2.1 4) (q_1.2.2.2.2.2.2.2.1 4)), (b 21, oD (b 29) (q_1.2.2.1 5) (q_1.2.2.2.1 5) (q_1.2.2.2.2.1 5) (q_1.2.2.2.2.2.1 5) (q_1.2.2.2.2.2.2.1 5) (q_1.2.2.2.2.2.2.2.1 5)), (b 22, oD (b 30) (q_1.2.2.1 6) (q_1.2.2.2.1 6) (q_1.2.2.2.2.1 6) (q_1.2.2.2.2.2.1 6) (q_1.2.2.2.2.2.2.1 6) (q_1.2.2.2.2.2.2.2.1 6)), (b 23, oD (b 31) (q_1.2.2.1 7) (q_1.2.2.2.1 7) (q_1.2.2.2.2.1 7) (q_1.2.2.2.2.2.1 7) (q_1.2.2.2.2.2.2.1 7) (q_1.2.2.2.2.2.2.2.1 7)), (b 24, aI cI 56 (q_1.2.2.2.2.2.2.2.2 0)), (b 25, aI cI 56 (q_1.2.2.2.2.2.2.2.2 1)), (b 26, aI cI 56 (q_1.2.2.2.2.2.2.2.2 2)), (b 27, aI cI 56 (q_1.2.2.2.2.2.2.2.2 3)), (b 28, aI cI 56 (q_1.2.2.2.2.2.2.2.2 4)), (b 29, aI cI 56 (q_1.2.2.2.2.2.2.2.2 5)), (b 30, aI cI 56 (q_1.2.2.2.2.2.2.2.2 6)), (b 31, aI cI 56 (q_1.2.2.2.2.2.2.2.2 7)), ((b 7), oP b P_all P_jr P_jb P_count), ((b 8), aJ cJ 49 P_cells), ((b 9), aJ cJ 49 P_near), ((b 10), oS b S_planned S_cells S_top S_bottom S_left S_right)]) rfl 3 rfl rfl rfl rfl (Nat.le_of_ble_eq_true rfl) dX7_flipCut_8 (fun H locs h => ?_)
  refine lv_aload_n hx hb (pc := 11) dX7_flipCut_11 rfl (lv_at hl 0 rfl) ?_
  refine x_get C h (pc := 12) xf_X7_19 0 rfl (v := .ref (b 3)) rfl dX7_flipCut_12 ?_
  refine lv_iload_n hx hb (pc := 15) dX7_flipCut_15 rfl (lv_at hl 1 rfl) ?_
  refine lv_iload_n hx hb (pc := 16) dX7_flipCut_16 rfl (lv_at hl 2 rfl) ?_
  refine lv_iload_n hx hb (pc := 17) dX7_flipCut_17 rfl (lv_at hl 3 rfl) ?_
  obtain ⟨q_2, hq_2, hf⟩ := ob_some hf
  refine x_callVv C h (pc := 18) hl (c_dr_flip l D cI cJ cZ cO (b 3) (b 4) D_rows D_cols D_cr D_cb D_cl D_kl l1 l2 l3 N q_2 hq_2) xv_X2_flip lk_X7_208 ⟨(Nat.le_of_ble_eq_true rfl), (Nat.le_of_ble_eq_true rfl)⟩ rfl [1] rfl rfl rfl (ws' := [((b 0), oG b), ((b 3), oD (b 4) D_rows D_cols q_2.1 q_2.2 D_cl D_kl), ((b 4), aI cI 56 D_col), ((b 5), oH b q_1.1 q_1.2.1), ((b 6), aK cO b), (b 16, oD (b 24) (q_1.2.2.1 0) (q_1.2.2.2.1 0) (q_1.2.2.2.2.1 0) (q_1.2.2.2.2.2.1 0) (q_1.2.2.2.2.2.2.1 0) (q_1.2.2.2.2.2.2.2.1 0)), (b 17, oD (b 25) (q_1.2.2.1 1) (q_1.2.2.2.1 1) (q_1.2.2.2.2.1 1) (q_1.2.2.2.2.2.1 1) (q_1.2.2.2.2.2.2.1 1) (q_1.2.2.2.2.2.2.2.1 1)), (b 18, oD (b 26) (q_1.2.2.1 2) (q_1.2.2.2.1 2) (q_1.2.2.2.2.1 2) (q_1.2.2.2.2.2.1 2) (q_1.2.2.2.2.2.2.1 2) (q_1.2.2.2.2.2.2.2.1 2)), (b 19, oD (b 27) (q_1.2.2.1 3) (q_1.2.2.2.1 3) (q_1.2.2.2.2.1 3) (q_1.2.2.2.2.2.1 3) (q_1.2.2.2.2.2.2.1 3) (q_1.2.2.2.2.2.2.2.1 3)), (b 20, oD (b 28) (q_1.2.2.1 4) (q_1.2.2.2.1 4) (q_1.2.2.2.2.1 4) (q_1.2.2.2.2.2.1 4) (q_1.2.2.2.2.2.2.1 4) (q_1.2.2.2.2.2.2.2.1 4)), (b 21, oD (b 29) (q_1.2.2.1 5) (q_1.2.2.2.1 5) (q_1.2.2.2.2.1 5) (q_1.2.2.2.2.2.1 5) (q_1.2.2.2.2.2.2.1 5) (q_1.2.2.2.2.2.2.2.1 5)), (b 22, oD (b 30) (q_1.2.2.1 6) (q_1.2.2.2.1 6) (q_1.2.2.2.2.1 6) (q_1.2.2.2.2.2.1 6) (q_1.2.2.2.2.2.2.1 6) (q_1.2.2.2.2.2.2.2.1 6)), (b 23, oD (b 31) (q_1.2.2.1 7) (q_1.2.2.2.1 7) (q_1.2.2.2.2.1 7) (q_1.2.2.2.2.2.1 7) (q_1.2.2.2.2.2.2.1 7) (q_1.2.2.2.2.2.2.2.1 7)), (b 24, aI cI 56 (q_1.2.2.2.2.2.2.2.2 0)), (b 25, aI cI 56 (q_1.2.2.2.2.2.2.2.2 1)), (b 26, aI cI 56 (q_1.2.2.2.2.2.2.2.2 2)), (b 27, aI cI 56 (q_1.2.2.2.2.2.2.2.2 3)), (b 28, aI cI 56 (q_1.2.2.2.2.2.2.2.2 4)), (b 29, aI cI 56 (q_1.2.2.2.2.2.2.2.2 5)), (b 30, aI cI 56 (q_1.2.2.2.2.2.2.2.2 6)), (b 31, aI cI 56 (q_1.2.2.2.2.2.2.2.2 7)), ((b 7), oP b P_all P_jr P_jb P_count), ((b 8), aJ cJ 49 P_cells), ((b 9), aJ cJ 49 P_near), ((b 10), oS b S_planned S_cells S_top S_bottom S_left S_right)]) rfl 1 rfl rfl rfl rfl (Nat.le_of_ble_eq_true rfl) dX7_flipCut_18 (fun H locs h => ?_)
  refine lv_aload_n hx hb (pc := 21) dX7_flipCut_21 rfl (lv_at hl 0 rfl) ?_
  obtain ⟨q_3, hq_3, hf⟩ := ob_some hf
  refine x_callVv C h (pc := 22) hl (c_gp_refresh l D cI cJ cZ cO b D_rows D_cols q_2.1 q_2.2 D_cl D_kl D_col P_all P_jr P_jb P_count P_cells P_near S_planned S_cells S_top S_bottom S_left S_right N q_3 hq_3) xv_X7_refresh lk_X7_83 ⟨(Nat.le_of_ble_eq_true rfl), (Nat.le_of_ble_eq_true rfl)⟩ rfl [0, 1, 2, 21, 22, 23, 24] rfl rfl rfl (ws' := [((b 0), oG b), ((b 3), oD (b 4) D_rows D_cols q_2.1 q_2.2 D_cl D_kl), ((b 4), aI cI 56 D_col), ((b 5), oH b q_1.1 q_1.2.1), ((b 6), aK cO b), (b 16, oD (b 24) (q_1.2.2.1 0) (q_1.2.2.2.1 0) (q_1.2.2.2.2.1 0) (q_1.2.2.2.2.2.1 0) (q_1.2.2.2.2.2.2.1 0) (q_1.2.2.2.2.2.2.2.1 0)), (b 17, oD (b 25) (q_1.2.2.1 1) (q_1.2.2.2.1 1) (q_1.2.2.2.2.1 1) (q_1.2.2.2.2.2.1 1) (q_1.2.2.2.2.2.2.1 1) (q_1.2.2.2.2.2.2.2.1 1)), (b 18, oD (b 26) (q_1.2.2.1 2) (q_1.2.2.2.1 2) (q_1.2.2.2.2.1 2) (q_1.2.2.2.2.2.1 2) (q_1.2.2.2.2.2.2.1 2) (q_1.2.2.2.2.2.2.2.1 2)), (b 19, oD (b 27) (q_1.2.2.1 3) (q_1.2.2.2.1 3) (q_1.2.2.2.2.1 3) (q_1.2.2.2.2.2.1 3) (q_1.2.2.2.2.2.2.1 3) (q_1.2.2.2.2.2.2.2.1 3)), (b 20, oD (b 28) (q_1.2.2.1 4) (q_1.2.2.2.1 4) (q_1.2.2.2.2.1 4) (q_1.2.2.2.2.2.1 4) (q_1.2.2.2.2.2.2.1 4) (q_1.2.2.2.2.2.2.2.1 4)), (b 21, oD (b 29) (q_1.2.2.1 5) (q_1.2.2.2.1 5) (q_1.2.2.2.2.1 5) (q_1.2.2.2.2.2.1 5) (q_1.2.2.2.2.2.2.1 5) (q_1.2.2.2.2.2.2.2.1 5)), (b 22, oD (b 30) (q_1.2.2.1 6) (q_1.2.2.2.1 6) (q_1.2.2.2.2.1 6) (q_1.2.2.2.2.2.1 6) (q_1.2.2.2.2.2.2.1 6) (q_1.2.2.2.2.2.2.2.1 6)), (b 23, oD (b 31) (q_1.2.2.1 7) (q_1.2.2.2.1 7) (q_1.2.2.2.2.1 7) (q_1.2.2.2.2.2.1 7) (q_1.2.2.2.2.2.2.1 7) (q_1.2.2.2.2.2.2.2.1 7)), (b 24, aI cI 56 (q_1.2.2.2.2.2.2.2.2 0)), (b 25, aI cI 56 (q_1.2.2.2.2.2.2.2.2 1)), (b 26, aI cI 56 (q_1.2.2.2.2.2.2.2.2 2)), (b 27, aI cI 56 (q_1.2.2.2.2.2.2.2.2 3)), (b 28, aI cI 56 (q_1.2.2.2.2.2.2.2.2 4)), (b 29, aI cI 56 (q_1.2.2.2.2.2.2.2.2 5)), (b 30, aI cI 56 (q_1.2.2.2.2.2.2.2.2 6)), (b 31, aI cI 56 (q_1.2.2.2.2.2.2.2.2 7)), ((b 7), oP b q_3.1 q_3.2.1 q_3.2.2.1 q_3.2.2.2.1), ((b 8), aJ cJ 49 q_3.2.2.2.2.1), ((b 9), aJ cJ 49 q_3.2.2.2.2.2.1), ((b 10), oS b q_3.2.2.2.2.2.2 S_cells S_top S_bottom S_left S_right)]) rfl 0 rfl rfl rfl rfl (Nat.le_of_ble_eq_true rfl) dX7_flipCut_22 (fun H locs h => ?_)
  refine lv_aload_n hx hb (pc := 25) dX7_flipCut_25 rfl (lv_at hl 0 rfl) ?_
  refine x_get C h (pc := 26) xf_X7_19 0 rfl (v := .ref (b 3)) rfl dX7_flipCut_26 ?_
  obtain ⟨q_4, hq_4, hf⟩ := ob_some hf
  refine x_callVi C h (pc := 29) hl (c_dr_countCuts l D cI cJ cZ cO (b 3) (b 4) D_rows D_cols q_2.1 q_2.2 D_cl D_kl N q_4 hq_4) xv_X2_countCuts lk_X7_212 ⟨(Nat.le_of_ble_eq_true rfl), (Nat.le_of_ble_eq_true rfl)⟩ rfl [1] rfl rfl rfl (ws' := [((b 0), oG b), ((b 3), oD (b 4) D_rows D_cols q_2.1 q_2.2 D_cl D_kl), ((b 4), aI cI 56 D_col), ((b 5), oH b q_1.1 q_1.2.1), ((b 6), aK cO b), (b 16, oD (b 24) (q_1.2.2.1 0) (q_1.2.2.2.1 0) (q_1.2.2.2.2.1 0) (q_1.2.2.2.2.2.1 0) (q_1.2.2.2.2.2.2.1 0) (q_1.2.2.2.2.2.2.2.1 0)), (b 17, oD (b 25) (q_1.2.2.1 1) (q_1.2.2.2.1 1) (q_1.2.2.2.2.1 1) (q_1.2.2.2.2.2.1 1) (q_1.2.2.2.2.2.2.1 1) (q_1.2.2.2.2.2.2.2.1 1)), (b 18, oD (b 26) (q_1.2.2.1 2) (q_1.2.2.2.1 2) (q_1.2.2.2.2.1 2) (q_1.2.2.2.2.2.1 2) (q_1.2.2.2.2.2.2.1 2) (q_1.2.2.2.2.2.2.2.1 2)), (b 19, oD (b 27) (q_1.2.2.1 3) (q_1.2.2.2.1 3) (q_1.2.2.2.2.1 3) (q_1.2.2.2.2.2.1 3) (q_1.2.2.2.2.2.2.1 3) (q_1.2.2.2.2.2.2.2.1 3)), (b 20, oD (b 28) (q_1.2.2.1 4) (q_1.2.2.2.1 4) (q_1.2.2.2.2.1 4) (q_1.2.2.2.2.2.1 4) (q_1.2.2.2.2.2.2.1 4) (q_1.2.2.2.2.2.2.2.1 4)), (b 21, oD (b 29) (q_1.2.2.1 5) (q_1.2.2.2.1 5) (q_1.2.2.2.2.1 5) (q_1.2.2.2.2.2.1 5) (q_1.2.2.2.2.2.2.1 5) (q_1.2.2.2.2.2.2.2.1 5)), (b 22, oD (b 30) (q_1.2.2.1 6) (q_1.2.2.2.1 6) (q_1.2.2.2.2.1 6) (q_1.2.2.2.2.2.1 6) (q_1.2.2.2.2.2.2.1 6) (q_1.2.2.2.2.2.2.2.1 6)), (b 23, oD (b 31) (q_1.2.2.1 7) (q_1.2.2.2.1 7) (q_1.2.2.2.2.1 7) (q_1.2.2.2.2.2.1 7) (q_1.2.2.2.2.2.2.1 7) (q_1.2.2.2.2.2.2.2.1 7)), (b 24, aI cI 56 (q_1.2.2.2.2.2.2.2.2 0)), (b 25, aI cI 56 (q_1.2.2.2.2.2.2.2.2 1)), (b 26, aI cI 56 (q_1.2.2.2.2.2.2.2.2 2)), (b 27, aI cI 56 (q_1.2.2.2.2.2.2.2.2 3)), (b 28, aI cI 56 (q_1.2.2.2.2.2.2.2.2 4)), (b 29, aI cI 56 (q_1.2.2.2.2.2.2.2.2 5)), (b 30, aI cI 56 (q_1.2.2.2.2.2.2.2.2 6)), (b 31, aI cI 56 (q_1.2.2.2.2.2.2.2.2 7)), ((b 7), oP b q_3.1 q_3.2.1 q_3.2.2.1 q_3.2.2.2.1), ((b 8), aJ cJ 49 q_3.2.2.2.2.1), ((b 9), aJ cJ 49 q_3.2.2.2.2.2.1), ((b 10), oS b q_3.2.2.2.2.2.2 S_cells S_top S_bottom S_left S_right)]) rfl 1 rfl rfl rfl rfl (Nat.le_of_ble_eq_true rfl) dX7_flipCut_29 (fun H locs h => ?_)
  have e9 := Option.some.inj hf
  subst e9
  exact hret _ _ _ _ dX7_flipCut_32 h
abbrev rm_gp_appendCharacter : Room := { frames := 1, cells := 0, slots := 0, locals := 21 }
set_option maxHeartbeats 4000000 in
set_option maxRecDepth 100000 in
theorem c_gp_appendCharacter (l : Launch) (D : va_G) (cI cJ cZ cO : ClassId) (b : Nat → Nat) (T_len : Int) (T_ch : Int → Int) (l1 : Int) (N : Nat) (Res : Int × Int × (Int → Int)) (hf : f_gp_appendCharacter N l1 T_len T_ch = some Res) : CoI l D (xT cI cJ cZ cO) yX7_appendCharacter cX7_appendCharacter 2 (some .int) rm_gp_appendCharacter [.ref (b 0), iv l1] [((b 0), oG b), ((b 1), oT b T_len), ((b 2), aI cI 80 T_ch)] Res.1 [((b 0), oG b), ((b 1), oT b Res.2.1), ((b 2), aI cI 80 Res.2.2)] := by
  refine co_i (by decide) ⟨rfl, rfl⟩ (Nat.le_of_ble_eq_true rfl) ?_
  intro p e s m args below meth c A Q ls C hret hl h
  have hx := C.1.1
  have hb := C.1.2.1
  have hl : lv_has ls 2 [(0, .ref (b 0)), (1, iv l1)] := hl
  unfold f_gp_appendCharacter at hf
  refine lv_iload_n hx hb (pc := 0) dX7_appendCharacter_0 rfl (lv_at hl 1 rfl) ?_
  obtain ⟨g_1, hf⟩ := og_some hf
  refine x_iflt C (pc := 1) (tgt := 11) g_1 dX7_appendCharacter_1 rfl (fun hc => ?_) (fun hc => ?_)
  · have hf := oi_t hf hc
    refine x_iconst C (pc := 11) dX7_appendCharacter_11 ?_
    have e9 := Option.some.inj hf
    subst e9
    exact hret _ _ _ _ dX7_appendCharacter_12 h
  · have hf := oi_f hf hc
    refine lv_iload_n hx hb (pc := 4) dX7_appendCharacter_4 rfl (lv_at hl 1 rfl) ?_
    refine x_sipush C (pc := 5) dX7_appendCharacter_5 (by decide) ?_
    refine x_icmple C (pc := 8) (tgt := 13) g_1 ⟨by decide, by decide⟩ dX7_appendCharacter_8 rfl (fun hc => ?_) (fun hc => ?_)
    · have hf := oi_t hf hc
      refine lv_aload_n hx hb (pc := 13) dX7_appendCharacter_13 rfl (lv_at hl 0 rfl) ?_
      refine x_get C h (pc := 14) xf_X7_10 0 rfl (v := .ref (b 1)) rfl dX7_appendCharacter_14 ?_
      refine lv_iload_n hx hb (pc := 17) dX7_appendCharacter_17 rfl (lv_at hl 1 rfl) ?_
      obtain ⟨q_2, hq_2, hf⟩ := ob_some hf
      refine x_callVi C h (pc := 18) hl (c_te_append l D cI cJ cZ cO b T_len T_ch l1 N q_2 hq_2) xv_X6_append lk_X7_58 ⟨(Nat.le_of_ble_eq_true rfl), (Nat.le_of_ble_eq_true rfl)⟩ rfl [1, 2] rfl rfl rfl (ws' := [((b 0), oG b), ((b 1), oT b q_2.2.1), ((b 2), aI cI 80 q_2.2.2)]) rfl 1 rfl rfl rfl rfl (Nat.le_of_ble_eq_true rfl) dX7_appendCharacter_18 (fun H locs h => ?_)
      obtain ⟨g_3, hf⟩ := og_some hf
      refine x_ifeq C (pc := 21) (tgt := 34) g_3 dX7_appendCharacter_21 rfl (fun hc => ?_) (fun hc => ?_)
      · have hf := oi_t hf hc
        refine x_bipush C (pc := 34) dX7_appendCharacter_34 (by decide) ?_
        have e9 := Option.some.inj hf
        subst e9
        exact hret _ _ _ _ dX7_appendCharacter_36 h
      · have hf := oi_f hf hc
        refine lv_aload_n hx hb (pc := 24) dX7_appendCharacter_24 rfl (lv_at hl 0 rfl) ?_
        refine x_get C h (pc := 25) xf_X7_10 0 rfl (v := .ref (b 1)) rfl dX7_appendCharacter_25 ?_
        refine x_get C h (pc := 28) xf_X7_62 1 rfl (v := iv q_2.2.1) rfl dX7_appendCharacter_28 ?_
        refine lv_goto hx hb (pc := 31) (tgt := 36) dX7_appendCharacter_31 rfl ?_
        have e9 := Option.some.inj hf
        subst e9
        exact hret _ _ _ _ dX7_appendCharacter_36 h
    · have hf := oi_f hf hc
      refine x_iconst C (pc := 11) dX7_appendCharacter_11 ?_
      have e9 := Option.some.inj hf
      subst e9
      exact hret _ _ _ _ dX7_appendCharacter_12 h
abbrev rm_gp_clearText : Room := { frames := 0, cells := 0, slots := 0, locals := 0 }
set_option maxHeartbeats 4000000 in
set_option maxRecDepth 100000 in
theorem c_gp_clearText (l : Launch) (D : va_G) (cI cJ cZ cO : ClassId) (b : Nat → Nat) (T_len : Int) (N : Nat) (Res : Int × Int) (hf : f_gp_clearText N T_len = some Res) : CoI l D (xT cI cJ cZ cO) yX7_clearText cX7_clearText 2 (some .int) rm_gp_clearText [.ref (b 0)] [((b 0), oG b), ((b 1), oT b T_len)] Res.1 [((b 0), oG b), ((b 1), oT b Res.2)] := by
  refine co_i (by decide) ⟨rfl, rfl⟩ (Nat.le_of_ble_eq_true rfl) ?_
  intro p e s m args below meth c A Q ls C hret hl h
  have hx := C.1.1
  have hb := C.1.2.1
  have hl : lv_has ls 2 [(0, .ref (b 0))] := hl
  unfold f_gp_clearText at hf
  refine lv_aload_n hx hb (pc := 0) dX7_clearText_0 rfl (lv_at hl 0 rfl) ?_
  refine x_get C h (pc := 1) xf_X7_10 0 rfl (v := .ref (b 1)) rfl dX7_clearText_1 ?_
  refine x_get C h (pc := 4) xf_X7_62 1 rfl (v := iv T_len) rfl dX7_clearText_4 ?_
  refine lv_istore_n hx hb (pc := 7) (lv' := [(1, iv T_len), (0, .ref (b 0))]) dX7_clearText_7 rfl hl (Nat.le_of_ble_eq_true rfl) rfl (fun ls hl => ?_)
  refine lv_aload_n hx hb (pc := 8) dX7_clearText_8 rfl (lv_at hl 1 rfl) ?_
  refine x_get C h (pc := 9) xf_X7_10 0 rfl (v := .ref (b 1)) rfl dX7_clearText_9 ?_
  refine x_iconst C (pc := 12) dX7_clearText_12 ?_
  refine x_puti C h (pc := 13) (ws' := [((b 0), oG b), ((b 1), oT b 0)]) xf_X7_62 xp_X6 rfl 1 rfl rfl (Nat.le_of_ble_eq_true rfl) rfl dX7_clearText_13 (fun H locs h => ?_)
  refine lv_iload_n hx hb (pc := 16) dX7_clearText_16 rfl (lv_at hl 0 rfl) ?_
  have e9 := Option.some.inj hf
  subst e9
  exact hret _ _ _ _ dX7_clearText_17 h
abbrev rm_gp_loadDrawing : Room := { frames := 7, cells := 0, slots := 0, locals := 159 }
set_option maxHeartbeats 4000000 in
set_option maxRecDepth 100000 in
theorem c_gp_loadDrawing (l : Launch) (D : va_G) (cI cJ cZ cO : ClassId) (b : Nat → Nat) (T_len : Int) (T_ch : Int → Int) (D_rows : Int) (D_cols : Int) (D_cr : BitVec 64) (D_cb : BitVec 64) (D_cl : Int) (D_kl : Int) (D_col : Int → Int) (H_next : Int) (H_count : Int) (K_rows : Int → Int) (K_cols : Int → Int) (K_cr : Int → BitVec 64) (K_cb : Int → BitVec 64) (K_cl : Int → Int) (K_kl : Int → Int) (K_col : Int → Int → Int) (P_all : BitVec 64) (P_jr : BitVec 64) (P_jb : BitVec 64) (P_count : Int) (P_cells : Int → BitVec 64) (P_near : Int → BitVec 64) (S_planned : Int) (S_cells : BitVec 64) (S_top : Int) (S_bottom : Int) (S_left : Int) (S_right : Int) (N : Nat) (Res : Int × Int × Int × Int × BitVec 64 × BitVec 64 × (Int → Int) × Int × Int × (Int → Int) × (Int → Int) × (Int → BitVec 64) × (Int → BitVec 64) × (Int → Int) × (Int → Int) × (Int → Int → Int) × BitVec 64 × BitVec 64 × BitVec 64 × Int × (Int → BitVec 64) × (Int → BitVec 64) × Int) (hf : f_gp_loadDrawing N T_len T_ch D_rows D_cols D_cr D_cb D_cl D_kl D_col H_next H_count K_rows K_cols K_cr K_cb K_cl K_kl K_col P_all P_jr P_jb P_count P_cells P_near S_planned = some Res) : CoI l D (xT cI cJ cZ cO) yX7_loadDrawing cX7_loadDrawing 2 (some .int) rm_gp_loadDrawing [.ref (b 0)] [((b 0), oG b), ((b 1), oT b T_len), ((b 2), aI cI 80 T_ch), ((b 3), oD (b 4) D_rows D_cols D_cr D_cb D_cl D_kl), ((b 4), aI cI 56 D_col), ((b 5), oH b H_next H_count), ((b 6), aK cO b), (b 16, oD (b 24) (K_rows 0) (K_cols 0) (K_cr 0) (K_cb 0) (K_cl 0) (K_kl 0)), (b 17, oD (b 25) (K_rows 1) (K_cols 1) (K_cr 1) (K_cb 1) (K_cl 1) (K_kl 1)), (b 18, oD (b 26) (K_rows 2) (K_cols 2) (K_cr 2) (K_cb 2) (K_cl 2) (K_kl 2)), (b 19, oD (b 27) (K_rows 3) (K_cols 3) (K_cr 3) (K_cb 3) (K_cl 3) (K_kl 3)), (b 20, oD (b 28) (K_rows 4) (K_cols 4) (K_cr 4) (K_cb 4) (K_cl 4) (K_kl 4)), (b 21, oD (b 29) (K_rows 5) (K_cols 5) (K_cr 5) (K_cb 5) (K_cl 5) (K_kl 5)), (b 22, oD (b 30) (K_rows 6) (K_cols 6) (K_cr 6) (K_cb 6) (K_cl 6) (K_kl 6)), (b 23, oD (b 31) (K_rows 7) (K_cols 7) (K_cr 7) (K_cb 7) (K_cl 7) (K_kl 7)), (b 24, aI cI 56 (K_col 0)), (b 25, aI cI 56 (K_col 1)), (b 26, aI cI 56 (K_col 2)), (b 27, aI cI 56 (K_col 3)), (b 28, aI cI 56 (K_col 4)), (b 29, aI cI 56 (K_col 5)), (b 30, aI cI 56 (K_col 6)), (b 31, aI cI 56 (K_col 7)), ((b 7), oP b P_all P_jr P_jb P_count), ((b 8), aJ cJ 49 P_cells), ((b 9), aJ cJ 49 P_near), ((b 10), oS b S_planned S_cells S_top S_bottom S_left S_right)] Res.1 [((b 0), oG b), ((b 1), oT b Res.2.1), ((b 2), aI cI 80 T_ch), ((b 3), oD (b 4) Res.2.2.1 Res.2.2.2.1 Res.2.2.2.2.1 Res.2.2.2.2.2.1 D_cl D_kl), ((b 4), aI cI 56 Res.2.2.2.2.2.2.1), ((b 5), oH b Res.2.2.2.2.2.2.2.1 Res.2.2.2.2.2.2.2.2.1), ((b 6), aK cO b), (b 16, oD (b 24) (Res.2.2.2.2.2.2.2.2.2.1 0) (Res.2.2.2.2.2.2.2.2.2.2.1 0) (Res.2.2.2.2.2.2.2.2.2.2.2.1 0) (Res.2.2.2.2.2.2.2.2.2.2.2.2.1 0) (Res.2.2.2.2.2.2.2.2.2.2.2.2.2.1 0) (Res.2.2.2.2.2.2.2.2.2.2.2.2.2.2.1 0)), (b 17, oD (b 25) (Res.2.2.2.2.2.2.2.2.2.1 1) (Res.2.2.2.2.2.2.2.2.2.2.1 1) (Res.2.2.2.2.2.2.2.2.2.2.2.1 1) (Res.2.2.2.2.2.2.2.2.2.2.2.2.1 1) (Res.2.2.2.2.2.2.2.2.2.2.2.2.2.1 1) (Res.2.2.2.2.2.2.2.2.2.2.2.2.2.2.1 1)), (b 18, oD (b 26) (Res.2.2.2.2.2.2.2.2.2.1 2) (Res.2.2.2.2.2.2.2.2.2.2.1 2) (Res.2.2.2.2.2.2.2.2.2.2.2.1 2) (Res.2.2.2.2.2.2.2.2.2.2.2.2.1 2) (Res.2.2.2.2.2.2.2.2.2.2.2.2.2.1 2) (Res.2.2.2.2.2.2.2.2.2.2.2.2.2.2.1 2)), (b 19, oD (b 27) (Res.2.2.2.2.2.2.2.2.2.1 3) (Res.2.2.2.2.2.2.2.2.2.2.1 3) (Res.2.2.2.2.2.2.2.2.2.2.2.1 3) (Res.2.2.2.2.2.2.2.2.2.2.2.2.1 3) (Res.2.2.2.2.2.2.2.2.2.2.2.2.2.1 3) (Res.2.2.2.2.2.2.2.2.2.2.2.2.2.2.1 3)), (b 20, oD (b 28) (Res.2.2.2.2.2.2.2.2.2.1 4) (Res.2.2.2.2.2.2.2.2.2.2.1 4) (Res.2.2.2.2.2.2.2.2.2.2.2.1 4) (Res.2.2.2.2.2.2.2.2.2.2.2.2.1 4) (Res.2.2.2.2.2.2.2.2.2.2.2.2.2.1 4) (Res.2.2.2.2.2.2.2.2.2.2.2.2.2.2.1 4)), (b 21, oD (b 29) (Res.2.2.2.2.2.2.2.2.2.1 5) (Res.2.2.2.2.2.2.2.2.2.2.1 5) (Res.2.2.2.2.2.2.2.2.2.2.2.1 5) (Res.2.2.2.2.2.2.2.2.2.2.2.2.1 5) (Res.2.2.2.2.2.2.2.2.2.2.2.2.2.1 5) (Res.2.2.2.2.2.2.2.2.2.2.2.2.2.2.1 5)), (b 22, oD (b 30) (Res.2.2.2.2.2.2.2.2.2.1 6) (Res.2.2.2.2.2.2.2.2.2.2.1 6) (Res.2.2.2.2.2.2.2.2.2.2.2.1 6) (Res.2.2.2.2.2.2.2.2.2.2.2.2.1 6) (Res.2.2.2.2.2.2.2.2.2.2.2.2.2.1 6) (Res.2.2.2.2.2.2.2.2.2.2.2.2.2.2.1 6)), (b 23, oD (b 31) (Res.2.2.2.2.2.2.2.2.2.1 7) (Res.2.2.2.2.2.2.2.2.2.2.1 7) (Res.2.2.2.2.2.2.2.2.2.2.2.1 7) (Res.2.2.2.2.2.2.2.2.2.2.2.2.1 7) (Res.2.2.2.2.2.2.2.2.2.2.2.2.2.1 7) (Res.2.2.2.2.2.2.2.2.2.2.2.2.2.2.1 7)), (b 24, aI cI 56 (Res.2.2.2.2.2.2.2.2.2.2.2.2.2.2.2.1 0)), (b 25, aI cI 56 (Res.2.2.2.2.2.2.2.2.2.2.2.2.2.2.2.1 1)), (b 26, aI cI 56 (Res.2.2.2.2.2.2.2.2.2.2.2.2.2.2.2.1 2)), (b 27, aI cI 56 (Res.2.2.2.2.2.2.2.2.2.2.2.2.2.2.2.1 3)), (b 28, aI cI 56 (Res.2.2.2.2.2.2.2.2.2.2.2.2.2.2.2.1 4)), (b 29, aI cI 56 (Res.2.2.2.2.2.2.2.2.2.2.2.2.2.2.2.1 5)), (b 30, aI cI 56 (Res.2.2.2.2.2.2.2.2.2.2.2.2.2.2.2.1 6)), (b 31, aI cI 56 (Res.2.2.2.2.2.2.2.2.2.2.2.2.2.2.2.1 7)), ((b 7), oP b Res.2.2.2.2.2.2.2.2.2.2.2.2.2.2.2.2.1 Res.2.2.2.2.2.2.2.2.2.2.2.2.2.2.2.2.2.1 Res.2.2.2.2.2.2.2.2.2.2.2.2.2.2.2.2.2.2.1 Res.2.2.2.2.2.2.2.2.2.2.2.2.2.2.2.2.2.2.2.1), ((b 8), aJ cJ 49 Res.2.2.2.2.2.2.2.2.2.2.2.2.2.2.2.2.2.2.2.2.1), ((b 9), aJ cJ 49 Res.2.2.2.2.2.2.2.2.2.2.2.2.2.2.2.2.2.2.2.2.2.1), ((b 10), oS b Res.2.2.2.2.2.2.2.2.2.2.2.2.2.2.2.2.2.2.2.2.2.2 S_cells S_top S_bottom S_left S_right)] := by
  refine co_i (by decide) ⟨rfl, rfl⟩ (Nat.le_of_ble_eq_true rfl) ?_
  intro p e s m args below meth c A Q ls C hret hl h
  have hx := C.1.1
  have hb := C.1.2.1
  have hl : lv_has ls 2 [(0, .ref (b 0))] := hl
  unfold f_gp_loadDrawing at hf
  refine lv_aload_n hx hb (pc := 0) dX7_loadDrawing_0 rfl (lv_at hl 0 rfl) ?_
  refine x_get C h (pc := 1) xf_X7_10 0 rfl (v := .ref (b 1)) rfl dX7_loadDrawing_1 ?_
  obtain ⟨q_1, hq_1, hf⟩ := ob_some hf
  refine x_callVi C h (pc := 4) hl (c_te_errorOffset l D cI cJ cZ cO b T_len T_ch N q_1 hq_1) xv_X6_errorOffset lk_X7_66 ⟨(Nat.le_of_ble_eq_true rfl), (Nat.le_of_ble_eq_true rfl)⟩ rfl [1, 2] rfl rfl rfl (ws' := [((b 0), oG b), ((b 1), oT b T_len), ((b 2), aI cI 80 T_ch), ((b 3), oD (b 4) D_rows D_cols D_cr D_cb D_cl D_kl), ((b 4), aI cI 56 D_col), ((b 5), oH b H_next H_count), ((b 6), aK cO b), (b 16, oD (b 24) (K_rows 0) (K_cols 0) (K_cr 0) (K_cb 0) (K_cl 0) (K_kl 0)), (b 17, oD (b 25) (K_rows 1) (K_cols 1) (K_cr 1) (K_cb 1) (K_cl 1) (K_kl 1)), (b 18, oD (b 26) (K_rows 2) (K_cols 2) (K_cr 2) (K_cb 2) (K_cl 2) (K_kl 2)), (b 19, oD (b 27) (K_rows 3) (K_cols 3) (K_cr 3) (K_cb 3) (K_cl 3) (K_kl 3)), (b 20, oD (b 28) (K_rows 4) (K_cols 4) (K_cr 4) (K_cb 4) (K_cl 4) (K_kl 4)), (b 21, oD (b 29) (K_rows 5) (K_cols 5) (K_cr 5) (K_cb 5) (K_cl 5) (K_kl 5)), (b 22, oD (b 30) (K_rows 6) (K_cols 6) (K_cr 6) (K_cb 6) (K_cl 6) (K_kl 6)), (b 23, oD (b 31) (K_rows 7) (K_cols 7) (K_cr 7) (K_cb 7) (K_cl 7) (K_kl 7)), (b 24, aI cI 56 (K_col 0)), (b 25, aI cI 56 (K_col 1)), (b 26, aI cI 56 (K_col 2)), (b 27, aI cI 56 (K_col 3)), (b 28, aI cI 56 (K_col 4)), (b 29, aI cI 56 (K_col 5)), (b 30, aI cI 56 (K_col 6)), (b 31, aI cI 56 (K_col 7)), ((b 7), oP b P_all P_jr P_jb P_count), ((b 8), aJ cJ 49 P_cells), ((b 9), aJ cJ 49 P_near), ((b 10), oS b S_planned S_cells S_top S_bottom S_left S_right)]) rfl 1 rfl rfl rfl rfl (Nat.le_of_ble_eq_true rfl) dX7_loadDrawing_4 (fun H locs h => ?_)
  refine lv_istore_n hx hb (pc := 7) (lv' := [(1, iv q_1), (0, .ref (b 0))]) dX7_loadDrawing_7 rfl hl (Nat.le_of_ble_eq_true rfl) rfl (fun ls hl => ?_)
  refine lv_iload_n hx hb (pc := 8) dX7_loadDrawing_8 rfl (lv_at hl 0 rfl) ?_
  refine x_iconst C (pc := 9) dX7_loadDrawing_9 ?_
  obtain ⟨g_2, hf⟩ := og_some hf
  refine x_icmpeq C (pc := 10) (tgt := 18) g_2 ⟨by decide, by decide⟩ dX7_loadDrawing_10 rfl (fun hc => ?_) (fun hc => ?_)
  · have hf := oi_t hf hc
    refine lv_aload_n hx hb (pc := 18) dX7_loadDrawing_18 rfl (lv_at hl 1 rfl) ?_
    refine x_get C h (pc := 19) xf_X7_26 0 rfl (v := .ref (b 5)) rfl dX7_loadDrawing_19 ?_
    refine lv_aload_n hx hb (pc := 22) dX7_loadDrawing_22 rfl (lv_at hl 1 rfl) ?_
    refine x_get C h (pc := 23) xf_X7_19 0 rfl (v := .ref (b 3)) rfl dX7_loadDrawing_23 ?_
    obtain ⟨q_3, hq_3, hf⟩ := ob_some hf
    refine x_callVv C h (pc := 26) hl (c_hi_remember l D cI cJ cZ cO b D_rows D_cols D_cr D_cb D_cl D_kl D_col H_next H_count K_rows K_cols K_cr K_cb K_cl K_kl K_col N q_3 hq_3) xv_X3_remember lk_X7_70 ⟨(Nat.le_of_ble_eq_true rfl), (Nat.le_of_ble_eq_true rfl)⟩ rfl [3, 4, 5, 6, 7, 8, 9, 10, 11, 12, 13, 14, 15, 16, 17, 18, 19, 20, 21, 22] rfl rfl rfl (ws' := [((b 0), oG b), ((b 1), oT b T_len), ((b 2), aI cI 80 T_ch), ((b 3), oD (b 4) D_rows D_cols D_cr D_cb D_cl D_kl), ((b 4), aI cI 56 D_col), ((b 5), oH b q_3.1 q_3.2.1), ((b 6), aK cO b), (b 16, oD (b 24) (q_3.2.2.1 0) (q_3.2.2.2.1 0) (q_3.2.2.2.2.1 0) (q_3.2.2.2.2.2.1 0) (q_3.2.2.2.2.2.2.1 0) (q_3.2.2.2.2.2.2.2.1 0)), (b 17, oD (b 25) (q_3.2.2.1 1) (q_3.2.2.2.1 1) (q_3.2.2.2.2.1 1) (q_3.2.2.2.2.2.1 1) (q_3.2.2.2.2.2.2.1 1) (q_3.2.2.2.2.2.2.2.1 1)), (b 18, oD (b 26) (q_3.2.2.1 2) (q_3.2.2.2.1 2) (q_3.2.2.2.2.1 2) (q_3.2.2.2.2.2.1 2) (q_3.2.2.2.2.2.2.1 2) (q_3.2.2.2.2.2.2.2.1 2)), (b 19, oD (b 27) (q_3.2.2.1 3) (q_3.2.2.2.1 3) (q_3.2.2.2.2.1 3) (q_3.2.2.2.2.2.1 3) (q_3.2.2.2.2.2.2.1 3) (q_3.2.2.2.2.2.2.2.1 3)), (b 20, oD (b 28) (q_3.2.2.1 4) (q_3.2.2.2.1 4) (q_3.2.2.2.2.1 4) (q_3.2.2.2.2.2.1 4) (q_3.2.2.2.2.2.2.1 4) (q_3.2.2.2.2.2.2.2.1 4)), (b 21, oD (b 29) (q_3.2.2.1 5) (q_3.2.2.2.1 5) (q_3.2.2.2.2.1 5) (q_3.2.2.2.2.2.1 5) (q_3.2.2.2.2.2.2.1 5) (q_3.2.2.2.2.2.2.2.1 5)), (b 22, oD (b 30) (q_3.2.2.1 6) (q_3.2.2.2.1 6) (q_3.2.2.2.2.1 6) (q_3.2.2.2.2.2.1 6) (q_3.2.2.2.2.2.2.1 6) (q_3.2.2.2.2.2.2.2.1 6)), (b 23, oD (b 31) (q_3.2.2.1 7) (q_3.2.2.2.1 7) (q_3.2.2.2.2.1 7) (q_3.2.2.2.2.2.1 7) (q_3.2.2.2.2.2.2.1 7) (q_3.2.2.2.2.2.2.2.1 7)), (b 24, aI cI 56 (q_3.2.2.2.2.2.2.2.2 0)), (b 25, aI cI 56 (q_3.2.2.2.2.2.2.2.2 1)), (b 26, aI cI 56 (q_3.2.2.2.2.2.2.2.2 2)), (b 27, aI cI 56 (q_3.2.2.2.2.2.2.2.2 3)), (b 28, aI cI 56 (q_3.2.2.2.2.2.2.2.2 4)), (b 29, aI cI 56 (q_3.2.2.2.2.2.2.2.2 5)), (b 30, aI cI 56 (q_3.2.2.2.2.2.2.2.2 6)), (b 31, aI cI 56 (q_3.2.2.2.2.2.2.2.2 7)), ((b 7), oP b P_all P_jr P_jb P_count), ((b 8), aJ cJ 49 P_cells), ((b 9), aJ cJ 49 P_near), ((b 10), oS b S_planned S_cells S_top S_bottom S_left S_right)]) rfl 5 rfl rfl rfl rfl (Nat.le_of_ble_eq_true rfl) dX7_loadDrawing_26 (fun H locs h => ?_)
    refine lv_aload_n hx hb (pc := 29) dX7_loadDrawing_29 rfl (lv_at hl 1 rfl) ?_
    refine x_get C h (pc := 30) xf_X7_10 0 rfl (v := .ref (b 1)) rfl dX7_loadDrawing_30 ?_
    refine lv_aload_n hx hb (pc := 33) dX7_loadDrawing_33 rfl (lv_at hl 1 rfl) ?_
    refine x_get C h (pc := 34) xf_X7_19 0 rfl (v := .ref (b 3)) rfl dX7_loadDrawing_34 ?_
    obtain ⟨q_4, hq_4, hf⟩ := ob_some hf
    refine x_callVv C h (pc := 37) hl (c_te_copyTo l D cI cJ cZ cO b T_len T_ch D_rows D_cols D_cr D_cb D_cl D_kl D_col N q_4 hq_4) xv_X6_copyTo lk_X7_73 ⟨(Nat.le_of_ble_eq_true rfl), (Nat.le_of_ble_eq_true rfl)⟩ rfl [1, 2, 3, 4] rfl rfl rfl (ws' := [((b 0), oG b), ((b 1), oT b T_len), ((b 2), aI cI 80 T_ch), ((b 3), oD (b 4) q_4.1 q_4.2.1 D_cr D_cb D_cl D_kl), ((b 4), aI cI 56 q_4.2.2), ((b 5), oH b q_3.1 q_3.2.1), ((b 6), aK cO b), (b 16, oD (b 24) (q_3.2.2.1 0) (q_3.2.2.2.1 0) (q_3.2.2.2.2.1 0) (q_3.2.2.2.2.2.1 0) (q_3.2.2.2.2.2.2.1 0) (q_3.2.2.2.2.2.2.2.1 0)), (b 17, oD (b 25) (q_3.2.2.1 1) (q_3.2.2.2.1 1) (q_3.2.2.2.2.1 1) (q_3.2.2.2.2.2.1 1) (q_3.2.2.2.2.2.2.1 1) (q_3.2.2.2.2.2.2.2.1 1)), (b 18, oD (b 26) (q_3.2.2.1 2) (q_3.2.2.2.1 2) (q_3.2.2.2.2.1 2) (q_3.2.2.2.2.2.1 2) (q_3.2.2.2.2.2.2.1 2) (q_3.2.2.2.2.2.2.2.1 2)), (b 19, oD (b 27) (q_3.2.2.1 3) (q_3.2.2.2.1 3) (q_3.2.2.2.2.1 3) (q_3.2.2.2.2.2.1 3) (q_3.2.2.2.2.2.2.1 3) (q_3.2.2.2.2.2.2.2.1 3)), (b 20, oD (b 28) (q_3.2.2.1 4) (q_3.2.2.2.1 4) (q_3.2.2.2.2.1 4) (q_3.2.2.2.2.2.1 4) (q_3.2.2.2.2.2.2.1 4) (q_3.2.2.2.2.2.2.2.1 4)), (b 21, oD (b 29) (q_3.2.2.1 5) (q_3.2.2.2.1 5) (q_3.2.2.2.2.1 5) (q_3.2.2.2.2.2.1 5) (q_3.2.2.2.2.2.2.1 5) (q_3.2.2.2.2.2.2.2.1 5)), (b 22, oD (b 30) (q_3.2.2.1 6) (q_3.2.2.2.1 6) (q_3.2.2.2.2.1 6) (q_3.2.2.2.2.2.1 6) (q_3.2.2.2.2.2.2.1 6) (q_3.2.2.2.2.2.2.2.1 6)), (b 23, oD (b 31) (q_3.2.2.1 7) (q_3.2.2.2.1 7) (q_3.2.2.2.2.1 7) (q_3.2.2.2.2.2.1 7) (q_3.2.2.2.2.2.2.1 7) (q_3.2.2.2.2.2.2.2.1 7)), (b 24, aI cI 56 (q_3.2.2.2.2.2.2.2.2 0)), (b 25, aI cI 56 (q_3.2.2.2.2.2.2.2.2 1)), (b 26, aI cI 56 (q_3.2.2.2.2.2.2.2.2 2)), (b 27, aI cI 56 (q_3.2.2.2.2.2.2.2.2 3)), (b 28, aI cI 56 (q_3.2.2.2.2.2.2.2.2 4)), (b 29, aI cI 56 (q_3.2.2.2.2.2.2.2.2 5)), (b 30, aI cI 56 (q_3.2.2.2.2.2.2.2.2 6)), (b 31, aI cI 56 (q_3.2.2.2.2.2.2.2.2 7)), ((b 7), oP b P_all P_jr P_jb P_count), ((b 8), aJ cJ 49 P_cells), ((b 9), aJ cJ 49 P_near), ((b 10), oS b S_planned S_cells S_top S_bottom S_left S_right)]) rfl 1 rfl rfl rfl rfl (Nat.le_of_ble_eq_true rfl) dX7_loadDrawing_37 (fun H locs h => ?_)
    refine lv_aload_n hx hb (pc := 40) dX7_loadDrawing_40 rfl (lv_at hl 1 rfl) ?_
    refine x_get C h (pc := 41) xf_X7_10 0 rfl (v := .ref (b 1)) rfl dX7_loadDrawing_41 ?_
    refine x_iconst C (pc := 44) dX7_loadDrawing_44 ?_
    refine x_puti C h (pc := 45) (ws' := [((b 0), oG b), ((b 1), oT b 0), ((b 2), aI cI 80 T_ch), ((b 3), oD (b 4) q_4.1 q_4.2.1 D_cr D_cb D_cl D_kl), ((b 4), aI cI 56 q_4.2.2), ((b 5), oH b q_3.1 q_3.2.1), ((b 6), aK cO b), (b 16, oD (b 24) (q_3.2.2.1 0) (q_3.2.2.2.1 0) (q_3.2.2.2.2.1 0) (q_3.2.2.2.2.2.1 0) (q_3.2.2.2.2.2.2.1 0) (q_3.2.2.2.2.2.2.2.1 0)), (b 17, oD (b 25) (q_3.2.2.1 1) (q_3.2.2.2.1 1) (q_3.2.2.2.2.1 1) (q_3.2.2.2.2.2.1 1) (q_3.2.2.2.2.2.2.1 1) (q_3.2.2.2.2.2.2.2.1 1)), (b 18, oD (b 26) (q_3.2.2.1 2) (q_3.2.2.2.1 2) (q_3.2.2.2.2.1 2) (q_3.2.2.2.2.2.1 2) (q_3.2.2.2.2.2.2.1 2) (q_3.2.2.2.2.2.2.2.1 2)), (b 19, oD (b 27) (q_3.2.2.1 3) (q_3.2.2.2.1 3) (q_3.2.2.2.2.1 3) (q_3.2.2.2.2.2.1 3) (q_3.2.2.2.2.2.2.1 3) (q_3.2.2.2.2.2.2.2.1 3)), (b 20, oD (b 28) (q_3.2.2.1 4) (q_3.2.2.2.1 4) (q_3.2.2.2.2.1 4) (q_3.2.2.2.2.2.1 4) (q_3.2.2.2.2.2.2.1 4) (q_3.2.2.2.2.2.2.2.1 4)), (b 21, oD (b 29) (q_3.2.2.1 5) (q_3.2.2.2.1 5) (q_3.2.2.2.2.1 5) (q_3.2.2.2.2.2.1 5) (q_3.2.2.2.2.2.2.1 5) (q_3.2.2.2.2.2.2.2.1 5)), (b 22, oD (b 30) (q_3.2.2.1 6) (q_3.2.2.2.1 6) (q_3.2.2.2.2.1 6) (q_3.2.2.2.2.2.1 6) (q_3.2.2.2.2.2.2.1 6) (q_3.2.2.2.2.2.2.2.1 6)), (b 23, oD (b 31) (q_3.2.2.1 7) (q_3.2.2.2.1 7) (q_3.2.2.2.2.1 7) (q_3.2.2.2.2.2.1 7) (q_3.2.2.2.2.2.2.1 7) (q_3.2.2.2.2.2.2.2.1 7)), (b 24, aI cI 56 (q_3.2.2.2.2.2.2.2.2 0)), (b 25, aI cI 56 (q_3.2.2.2.2.2.2.2.2 1)), (b 26, aI cI 56 (q_3.2.2.2.2.2.2.2.2 2)), (b 27, aI cI 56 (q_3.2.2.2.2.2.2.2.2 3)), (b 28, aI cI 56 (q_3.2.2.2.2.2.2.2.2 4)), (b 29, aI cI 56 (q_3.2.2.2.2.2.2.2.2 5)), (b 30, aI cI 56 (q_3.2.2.2.2.2.2.2.2 6)), (b 31, aI cI 56 (q_3.2.2.2.2.2.2.2.2 7)), ((b 7), oP b P_all P_jr P_jb P_count), ((b 8), aJ cJ 49 P_cells), ((b 9), aJ cJ 49 P_near), ((b 10), oS b S_planned S_cells S_top S_bottom S_left S_right)]) xf_X7_62 xp_X6 rfl 1 rfl rfl (Nat.le_of_ble_eq_true rfl) rfl dX7_loadDrawing_45 (fun H locs h => ?_)
    refine lv_aload_n hx hb (pc := 48) dX7_loadDrawing_48 rfl (lv_at hl 1 rfl) ?_
    refine x_get C h (pc := 49) xf_X7_19 0 rfl (v := .ref (b 3)) rfl dX7_loadDrawing_49 ?_
    refine x_lconst C (pc := 52) (x := 0#64) rfl dX7_loadDrawing_52 ?_
    refine x_putl C h (pc := 53) (ws' := [((b 0), oG b), ((b 1), oT b 0), ((b 2), aI cI 80 T_ch), ((b 3), oD (b 4) q_4.1 q_4.2.1 (0#64) D_cb D_cl D_kl), ((b 4), aI cI 56 q_4.2.2), ((b 5), oH b q_3.1 q_3.2.1), ((b 6), aK cO b), (b 16, oD (b 24) (q_3.2.2.1 0) (q_3.2.2.2.1 0) (q_3.2.2.2.2.1 0) (q_3.2.2.2.2.2.1 0) (q_3.2.2.2.2.2.2.1 0) (q_3.2.2.2.2.2.2.2.1 0)), (b 17, oD (b 25) (q_3.2.2.1 1) (q_3.2.2.2.1 1) (q_3.2.2.2.2.1 1) (q_3.2.2.2.2.2.1 1) (q_3.2.2.2.2.2.2.1 1) (q_3.2.2.2.2.2.2.2.1 1)), (b 18, oD (b 26) (q_3.2.2.1 2) (q_3.2.2.2.1 2) (q_3.2.2.2.2.1 2) (q_3.2.2.2.2.2.1 2) (q_3.2.2.2.2.2.2.1 2) (q_3.2.2.2.2.2.2.2.1 2)), (b 19, oD (b 27) (q_3.2.2.1 3) (q_3.2.2.2.1 3) (q_3.2.2.2.2.1 3) (q_3.2.2.2.2.2.1 3) (q_3.2.2.2.2.2.2.1 3) (q_3.2.2.2.2.2.2.2.1 3)), (b 20, oD (b 28) (q_3.2.2.1 4) (q_3.2.2.2.1 4) (q_3.2.2.2.2.1 4) (q_3.2.2.2.2.2.1 4) (q_3.2.2.2.2.2.2.1 4) (q_3.2.2.2.2.2.2.2.1 4)), (b 21, oD (b 29) (q_3.2.2.1 5) (q_3.2.2.2.1 5) (q_3.2.2.2.2.1 5) (q_3.2.2.2.2.2.1 5) (q_3.2.2.2.2.2.2.1 5) (q_3.2.2.2.2.2.2.2.1 5)), (b 22, oD (b 30) (q_3.2.2.1 6) (q_3.2.2.2.1 6) (q_3.2.2.2.2.1 6) (q_3.2.2.2.2.2.1 6) (q_3.2.2.2.2.2.2.1 6) (q_3.2.2.2.2.2.2.2.1 6)), (b 23, oD (b 31) (q_3.2.2.1 7) (q_3.2.2.2.1 7) (q_3.2.2.2.2.1 7) (q_3.2.2.2.2.2.1 7) (q_3.2.2.2.2.2.2.1 7) (q_3.2.2.2.2.2.2.2.1 7)), (b 24, aI cI 56 (q_3.2.2.2.2.2.2.2.2 0)), (b 25, aI cI 56 (q_3.2.2.2.2.2.2.2.2 1)), (b 26, aI cI 56 (q_3.2.2.2.2.2.2.2.2 2)), (b 27, aI cI 56 (q_3.2.2.2.2.2.2.2.2 3)), (b 28, aI cI 56 (q_3.2.2.2.2.2.2.2.2 4)), (b 29, aI cI 56 (q_3.2.2.2.2.2.2.2.2 5)), (b 30, aI cI 56 (q_3.2.2.2.2.2.2.2.2 6)), (b 31, aI cI 56 (q_3.2.2.2.2.2.2.2.2 7)), ((b 7), oP b P_all P_jr P_jb P_count), ((b 8), aJ cJ 49 P_cells), ((b 9), aJ cJ 49 P_near), ((b 10), oS b S_planned S_cells S_top S_bottom S_left S_right)]) xf_X7_76 xp_X2 rfl 3 rfl rfl (Nat.le_of_ble_eq_true rfl) rfl dX7_loadDrawing_53 (fun H locs h => ?_)
    refine lv_aload_n hx hb (pc := 56) dX7_loadDrawing_56 rfl (lv_at hl 1 rfl) ?_
    refine x_get C h (pc := 57) xf_X7_19 0 rfl (v := .ref (b 3)) rfl dX7_loadDrawing_57 ?_
    refine x_lconst C (pc := 60) (x := 0#64) rfl dX7_loadDrawing_60 ?_
    refine x_putl C h (pc := 61) (ws' := [((b 0), oG b), ((b 1), oT b 0), ((b 2), aI cI 80 T_ch), ((b 3), oD (b 4) q_4.1 q_4.2.1 (0#64) (0#64) D_cl D_kl), ((b 4), aI cI 56 q_4.2.2), ((b 5), oH b q_3.1 q_3.2.1), ((b 6), aK cO b), (b 16, oD (b 24) (q_3.2.2.1 0) (q_3.2.2.2.1 0) (q_3.2.2.2.2.1 0) (q_3.2.2.2.2.2.1 0) (q_3.2.2.2.2.2.2.1 0) (q_3.2.2.2.2.2.2.2.1 0)), (b 17, oD (b 25) (q_3.2.2.1 1) (q_3.2.2.2.1 1) (q_3.2.2.2.2.1 1) (q_3.2.2.2.2.2.1 1) (q_3.2.2.2.2.2.2.1 1) (q_3.2.2.2.2.2.2.2.1 1)), (b 18, oD (b 26) (q_3.2.2.1 2) (q_3.2.2.2.1 2) (q_3.2.2.2.2.1 2) (q_3.2.2.2.2.2.1 2) (q_3.2.2.2.2.2.2.1 2) (q_3.2.2.2.2.2.2.2.1 2)), (b 19, oD (b 27) (q_3.2.2.1 3) (q_3.2.2.2.1 3) (q_3.2.2.2.2.1 3) (q_3.2.2.2.2.2.1 3) (q_3.2.2.2.2.2.2.1 3) (q_3.2.2.2.2.2.2.2.1 3)), (b 20, oD (b 28) (q_3.2.2.1 4) (q_3.2.2.2.1 4) (q_3.2.2.2.2.1 4) (q_3.2.2.2.2.2.1 4) (q_3.2.2.2.2.2.2.1 4) (q_3.2.2.2.2.2.2.2.1 4)), (b 21, oD (b 29) (q_3.2.2.1 5) (q_3.2.2.2.1 5) (q_3.2.2.2.2.1 5) (q_3.2.2.2.2.2.1 5) (q_3.2.2.2.2.2.2.1 5) (q_3.2.2.2.2.2.2.2.1 5)), (b 22, oD (b 30) (q_3.2.2.1 6) (q_3.2.2.2.1 6) (q_3.2.2.2.2.1 6) (q_3.2.2.2.2.2.1 6) (q_3.2.2.2.2.2.2.1 6) (q_3.2.2.2.2.2.2.2.1 6)), (b 23, oD (b 31) (q_3.2.2.1 7) (q_3.2.2.2.1 7) (q_3.2.2.2.2.1 7) (q_3.2.2.2.2.2.1 7) (q_3.2.2.2.2.2.2.1 7) (q_3.2.2.2.2.2.2.2.1 7)), (b 24, aI cI 56 (q_3.2.2.2.2.2.2.2.2 0)), (b 25, aI cI 56 (q_3.2.2.2.2.2.2.2.2 1)), (b 26, aI cI 56 (q_3.2.2.2.2.2.2.2.2 2)), (b 27, aI cI 56 (q_3.2.2.2.2.2.2.2.2 3)), (b 28, aI cI 56 (q_3.2.2.2.2.2.2.2.2 4)), (b 29, aI cI 56 (q_3.2.2.2.2.2.2.2.2 5)), (b 30, aI cI 56 (q_3.2.2.2.2.2.2.2.2 6)), (b 31, aI cI 56 (q_3.2.2.2.2.2.2.2.2 7)), ((b 7), oP b P_all P_jr P_jb P_count), ((b 8), aJ cJ 49 P_cells), ((b 9), aJ cJ 49 P_near), ((b 10), oS b S_planned S_cells S_top S_bottom S_left S_right)]) xf_X7_80 xp_X2 rfl 3 rfl rfl (Nat.le_of_ble_eq_true rfl) rfl dX7_loadDrawing_61 (fun H locs h => ?_)
    refine lv_aload_n hx hb (pc := 64) dX7_loadDrawing_64 rfl (lv_at hl 1 rfl) ?_
    obtain ⟨q_5, hq_5, hf⟩ := ob_some hf
    refine x_callVv C h (pc := 65) hl (c_gp_refresh l D cI cJ cZ cO b q_4.1 q_4.2.1 (0#64) (0#64) D_cl D_kl q_4.2.2 P_all P_jr P_jb P_count P_cells P_near S_planned S_cells S_top S_bottom S_left S_right N q_5 hq_5) xv_X7_refresh lk_X7_83 ⟨(Nat.le_of_ble_eq_true rfl), (Nat.le_of_ble_eq_true rfl)⟩ rfl [0, 3, 4, 23, 24, 25, 26] rfl rfl rfl (ws' := [((b 0), oG b), ((b 1), oT b 0), ((b 2), aI cI 80 T_ch), ((b 3), oD (b 4) q_4.1 q_4.2.1 (0#64) (0#64) D_cl D_kl), ((b 4), aI cI 56 q_4.2.2), ((b 5), oH b q_3.1 q_3.2.1), ((b 6), aK cO b), (b 16, oD (b 24) (q_3.2.2.1 0) (q_3.2.2.2.1 0) (q_3.2.2.2.2.1 0) (q_3.2.2.2.2.2.1 0) (q_3.2.2.2.2.2.2.1 0) (q_3.2.2.2.2.2.2.2.1 0)), (b 17, oD (b 25) (q_3.2.2.1 1) (q_3.2.2.2.1 1) (q_3.2.2.2.2.1 1) (q_3.2.2.2.2.2.1 1) (q_3.2.2.2.2.2.2.1 1) (q_3.2.2.2.2.2.2.2.1 1)), (b 18, oD (b 26) (q_3.2.2.1 2) (q_3.2.2.2.1 2) (q_3.2.2.2.2.1 2) (q_3.2.2.2.2.2.1 2) (q_3.2.2.2.2.2.2.1 2) (q_3.2.2.2.2.2.2.2.1 2)), (b 19, oD (b 27) (q_3.2.2.1 3) (q_3.2.2.2.1 3) (q_3.2.2.2.2.1 3) (q_3.2.2.2.2.2.1 3) (q_3.2.2.2.2.2.2.1 3) (q_3.2.2.2.2.2.2.2.1 3)), (b 20, oD (b 28) (q_3.2.2.1 4) (q_3.2.2.2.1 4) (q_3.2.2.2.2.1 4) (q_3.2.2.2.2.2.1 4) (q_3.2.2.2.2.2.2.1 4) (q_3.2.2.2.2.2.2.2.1 4)), (b 21, oD (b 29) (q_3.2.2.1 5) (q_3.2.2.2.1 5) (q_3.2.2.2.2.1 5) (q_3.2.2.2.2.2.1 5) (q_3.2.2.2.2.2.2.1 5) (q_3.2.2.2.2.2.2.2.1 5)), (b 22, oD (b 30) (q_3.2.2.1 6) (q_3.2.2.2.1 6) (q_3.2.2.2.2.1 6) (q_3.2.2.2.2.2.1 6) (q_3.2.2.2.2.2.2.1 6) (q_3.2.2.2.2.2.2.2.1 6)), (b 23, oD (b 31) (q_3.2.2.1 7) (q_3.2.2.2.1 7) (q_3.2.2.2.2.1 7) (q_3.2.2.2.2.2.1 7) (q_3.2.2.2.2.2.2.1 7) (q_3.2.2.2.2.2.2.2.1 7)), (b 24, aI cI 56 (q_3.2.2.2.2.2.2.2.2 0)), (b 25, aI cI 56 (q_3.2.2.2.2.2.2.2.2 1)), (b 26, aI cI 56 (q_3.2.2.2.2.2.2.2.2 2)), (b 27, aI cI 56 (q_3.2.2.2.2.2.2.2.2 3)), (b 28, aI cI 56 (q_3.2.2.2.2.2.2.2.2 4)), (b 29, aI cI 56 (q_3.2.2.2.2.2.2.2.2 5)), (b 30, aI cI 56 (q_3.2.2.2.2.2.2.2.2 6)), (b 31, aI cI 56 (q_3.2.2.2.2.2.2.2.2 7)), ((b 7), oP b q_5.1 q_5.2.1 q_5.2.2.1 q_5.2.2.2.1), ((b 8), aJ cJ 49 q_5.2.2.2.2.1), ((b 9), aJ cJ 49 q_5.2.2.2.2.2.1), ((b 10), oS b q_5.2.2.2.2.2.2 S_cells S_top S_bottom S_left S_right)]) rfl 0 rfl rfl rfl rfl (Nat.le_of_ble_eq_true rfl) dX7_loadDrawing_65 (fun H locs h => ?_)
    refine lv_aload_n hx hb (pc := 68) dX7_loadDrawing_68 rfl (lv_at hl 1 rfl) ?_
    refine x_get C h (pc := 69) xf_X7_35 0 rfl (v := .ref (b 7)) rfl dX7_loadDrawing_69 ?_
    refine x_get C h (pc := 72) xf_X7_86 23 rfl (v := iv q_5.2.2.2.1) rfl dX7_loadDrawing_72 ?_
    have e9 := Option.some.inj hf
    subst e9
    exact hret _ _ _ _ dX7_loadDrawing_75 h
  · have hf := oi_f hf hc
    refine x_bipush C (pc := 13) dX7_loadDrawing_13 (by decide) ?_
    refine lv_iload_n hx hb (pc := 15) dX7_loadDrawing_15 rfl (lv_at hl 0 rfl) ?_
    refine x_isub C (pc := 16) dX7_loadDrawing_16 ?_
    have e9 := Option.some.inj hf
    subst e9
    exact hret _ _ _ _ dX7_loadDrawing_17 h
abbrev rm_gp_setColour : Room := { frames := 7, cells := 0, slots := 0, locals := 159 }
set_option maxHeartbeats 4000000 in
set_option maxRecDepth 100000 in
theorem c_gp_setColour (l : Launch) (D : va_G) (cI cJ cZ cO : ClassId) (b : Nat → Nat) (D_rows : Int) (D_cols : Int) (D_cr : BitVec 64) (D_cb : BitVec 64) (D_cl : Int) (D_kl : Int) (D_col : Int → Int) (H_next : Int) (H_count : Int) (K_rows : Int → Int) (K_cols : Int → Int) (K_cr : Int → BitVec 64) (K_cb : Int → BitVec 64) (K_cl : Int → Int) (K_kl : Int → Int) (K_col : Int → Int → Int) (P_all : BitVec 64) (P_jr : BitVec 64) (P_jb : BitVec 64) (P_count : Int) (P_cells : Int → BitVec 64) (P_near : Int → BitVec 64) (S_planned : Int) (S_cells : BitVec 64) (S_top : Int) (S_bottom : Int) (S_left : Int) (S_right : Int) (l1 : Int) (l2 : Int) (l3 : Int) (N : Nat) (Res : Int × (Int → Int) × Int × Int × (Int → Int) × (Int → Int) × (Int → BitVec 64) × (Int → BitVec 64) × (Int → Int) × (Int → Int) × (Int → Int → Int) × BitVec 64 × BitVec 64 × BitVec 64 × Int × (Int → BitVec 64) × (Int → BitVec 64) × Int) (hf : f_gp_setColour N l1 l2 l3 D_rows D_cols D_cr D_cb D_cl D_kl D_col H_next H_count K_rows K_cols K_cr K_cb K_cl K_kl K_col P_all P_jr P_jb P_count P_cells P_near S_planned = some Res) : CoI l D (xT cI cJ cZ cO) yX7_setColour cX7_setColour 6 (some .int) rm_gp_setColour [.ref (b 0), iv l1, iv l2, iv l3] [((b 0), oG b), ((b 3), oD (b 4) D_rows D_cols D_cr D_cb D_cl D_kl), ((b 4), aI cI 56 D_col), ((b 5), oH b H_next H_count), ((b 6), aK cO b), (b 16, oD (b 24) (K_rows 0) (K_cols 0) (K_cr 0) (K_cb 0) (K_cl 0) (K_kl 0)), (b 17, oD (b 25) (K_rows 1) (K_cols 1) (K_cr 1) (K_cb 1) (K_cl 1) (K_kl 1)), (b 18, oD (b 26) (K_rows 2) (K_cols 2) (K_cr 2) (K_cb 2) (K_cl 2) (K_kl 2)), (b 19, oD (b 27) (K_rows 3) (K_cols 3) (K_cr 3) (K_cb 3) (K_cl 3) (K_kl 3)), (b 20, oD (b 28) (K_rows 4) (K_cols 4) (K_cr 4) (K_cb 4) (K_cl 4) (K_kl 4)), (b 21, oD (b 29) (K_rows 5) (K_cols 5) (K_cr 5) (K_cb 5) (K_cl 5) (K_kl 5)), (b 22, oD (b 30) (K_rows 6) (K_cols 6) (K_cr 6) (K_cb 6) (K_cl 6) (K_kl 6)), (b 23, oD (b 31) (K_rows 7) (K_cols 7) (K_cr 7) (K_cb 7) (K_cl 7) (K_kl 7)), (b 24, aI cI 56 (K_col 0)), (b 25, aI cI 56 (K_col 1)), (b 26, aI cI 56 (K_col 2)), (b 27, aI cI 56 (K_col 3)), (b 28, aI cI 56 (K_col 4)), (b 29, aI cI 56 (K_col 5)), (b 30, aI cI 56 (K_col 6)), (b 31, aI cI 56 (K_col 7)), ((b 7), oP b P_all P_jr P_jb P_count), ((b 8), aJ cJ 49 P_cells), ((b 9), aJ cJ 49 P_near), ((b 10), oS b S_planned S_cells S_top S_bottom S_left S_right)] Res.1 [((b 0), oG b), ((b 3), oD (b 4) D_rows D_cols D_cr D_cb D_cl D_kl), ((b 4), aI cI 56 Res.2.1), ((b 5), oH b Res.2.2.1 Res.2.2.2.1), ((b 6), aK cO b), (b 16, oD (b 24) (Res.2.2.2.2.1 0) (Res.2.2.2.2.2.1 0) (Res.2.2.2.2.2.2.1 0) (Res.2.2.2.2.2.2.2.1 0) (Res.2.2.2.2.2.2.2.2.1 0) (Res.2.2.2.2.2.2.2.2.2.1 0)), (b 17, oD (b 25) (Res.2.2.2.2.1 1) (Res.2.2.2.2.2.1 1) (Res.2.2.2.2.2.2.1 1) (Res.2.2.2.2.2.2.2.1 1) (Res.2.2.2.2.2.2.2.2.1 1) (Res.2.2.2.2.2.2.2.2.2.1 1)), (b 18, oD (b 26) (Res.2.2.2.2.1 2) (Res.2.2.2.2.2.1 2) (Res.2.2.2.2.2.2.1 2) (Res.2.2.2.2.2.2.2.1 2) (Res.2.2.2.2.2.2.2.2.1 2) (Res.2.2.2.2.2.2.2.2.2.1 2)), (b 19, oD (b 27) (Res.2.2.2.2.1 3) (Res.2.2.2.2.2.1 3) (Res.2.2.2.2.2.2.1 3) (Res.2.2.2.2.2.2.2.1 3) (Res.2.2.2.2.2.2.2.2.1 3) (Res.2.2.2.2.2.2.2.2.2.1 3)), (b 20, oD (b 28) (Res.2.2.2.2.1 4) (Res.2.2.2.2.2.1 4) (Res.2.2.2.2.2.2.1 4) (Res.2.2.2.2.2.2.2.1 4) (Res.2.2.2.2.2.2.2.2.1 4) (Res.2.2.2.2.2.2.2.2.2.1 4)), (b 21, oD (b 29) (Res.2.2.2.2.1 5) (Res.2.2.2.2.2.1 5) (Res.2.2.2.2.2.2.1 5) (Res.2.2.2.2.2.2.2.1 5) (Res.2.2.2.2.2.2.2.2.1 5) (Res.2.2.2.2.2.2.2.2.2.1 5)), (b 22, oD (b 30) (Res.2.2.2.2.1 6) (Res.2.2.2.2.2.1 6) (Res.2.2.2.2.2.2.1 6) (Res.2.2.2.2.2.2.2.1 6) (Res.2.2.2.2.2.2.2.2.1 6) (Res.2.2.2.2.2.2.2.2.2.1 6)), (b 23, oD (b 31) (Res.2.2.2.2.1 7) (Res.2.2.2.2.2.1 7) (Res.2.2.2.2.2.2.1 7) (Res.2.2.2.2.2.2.2.1 7) (Res.2.2.2.2.2.2.2.2.1 7) (Res.2.2.2.2.2.2.2.2.2.1 7)), (b 24, aI cI 56 (Res.2.2.2.2.2.2.2.2.2.2.1 0)), (b 25, aI cI 56 (Res.2.2.2.2.2.2.2.2.2.2.1 1)), (b 26, aI cI 56 (Res.2.2.2.2.2.2.2.2.2.2.1 2)), (b 27, aI cI 56 (Res.2.2.2.2.2.2.2.2.2.2.1 3)), (b 28, aI cI 56 (Res.2.2.2.2.2.2.2.2.2.2.1 4)), (b 29, aI cI 56 (Res.2.2.2.2.2.2.2.2.2.2.1 5)), (b 30, aI cI 56 (Res.2.2.2.2.2.2.2.2.2.2.1 6)), (b 31, aI cI 56 (Res.2.2.2.2.2.2.2.2.2.2.1 7)), ((b 7), oP b Res.2.2.2.2.2.2.2.2.2.2.2.1 Res.2.2.2.2.2.2.2.2.2.2.2.2.1 Res.2.2.2.2.2.2.2.2.2.2.2.2.2.1 Res.2.2.2.2.2.2.2.2.2.2.2.2.2.2.1), ((b 8), aJ cJ 49 Res.2.2.2.2.2.2.2.2.2.2.2.2.2.2.2.1), ((b 9), aJ cJ 49 Res.2.2.2.2.2.2.2.2.2.2.2.2.2.2.2.2.1), ((b 10), oS b Res.2.2.2.2.2.2.2.2.2.2.2.2.2.2.2.2.2 S_cells S_top S_bottom S_left S_right)] := by
  refine co_i (by decide) ⟨rfl, rfl⟩ (Nat.le_of_ble_eq_true rfl) ?_
  intro p e s m args below meth c A Q ls C hret hl h
  have hx := C.1.1
  have hb := C.1.2.1
  have hl : lv_has ls 6 [(0, .ref (b 0)), (1, iv l1), (2, iv l2), (3, iv l3)] := hl
  unfold f_gp_setColour at hf
  refine lv_aload_n hx hb (pc := 0) dX7_setColour_0 rfl (lv_at hl 0 rfl) ?_
  refine x_get C h (pc := 1) xf_X7_19 0 rfl (v := .ref (b 3)) rfl dX7_setColour_1 ?_
  refine lv_iload_n hx hb (pc := 4) dX7_setColour_4 rfl (lv_at hl 1 rfl) ?_
  refine lv_iload_n hx hb (pc := 5) dX7_setColour_5 rfl (lv_at hl 2 rfl) ?_
  obtain ⟨q_1, hq_1, hf⟩ := ob_some hf
  refine x_callVi C h (pc := 6) hl (c_dr_hasCell l D cI cJ cZ cO (b 3) (b 4) D_rows D_cols D_cr D_cb D_cl D_kl l1 l2 N q_1 hq_1) xv_X2_hasCell lk_X7_89 ⟨(Nat.le_of_ble_eq_true rfl), (Nat.le_of_ble_eq_true rfl)⟩ rfl [1] rfl rfl rfl (ws' := [((b 0), oG b), ((b 3), oD (b 4) D_rows D_cols D_cr D_cb D_cl D_kl), ((b 4), aI cI 56 D_col), ((b 5), oH b H_next H_count), ((b 6), aK cO b), (b 16, oD (b 24) (K_rows 0) (K_cols 0) (K_cr 0) (K_cb 0) (K_cl 0) (K_kl 0)), (b 17, oD (b 25) (K_rows 1) (K_cols 1) (K_cr 1) (K_cb 1) (K_cl 1) (K_kl 1)), (b 18, oD (b 26) (K_rows 2) (K_cols 2) (K_cr 2) (K_cb 2) (K_cl 2) (K_kl 2)), (b 19, oD (b 27) (K_rows 3) (K_cols 3) (K_cr 3) (K_cb 3) (K_cl 3) (K_kl 3)), (b 20, oD (b 28) (K_rows 4) (K_cols 4) (K_cr 4) (K_cb 4) (K_cl 4) (K_kl 4)), (b 21, oD (b 29) (K_rows 5) (K_cols 5) (K_cr 5) (K_cb 5) (K_cl 5) (K_kl 5)), (b 22, oD (b 30) (K_rows 6) (K_cols 6) (K_cr 6) (K_cb 6) (K_cl 6) (K_kl 6)), (b 23, oD (b 31) (K_rows 7) (K_cols 7) (K_cr 7) (K_cb 7) (K_cl 7) (K_kl 7)), (b 24, aI cI 56 (K_col 0)), (b 25, aI cI 56 (K_col 1)), (b 26, aI cI 56 (K_col 2)), (b 27, aI cI 56 (K_col 3)), (b 28, aI cI 56 (K_col 4)), (b 29, aI cI 56 (K_col 5)), (b 30, aI cI 56 (K_col 6)), (b 31, aI cI 56 (K_col 7)), ((b 7), oP b P_all P_jr P_jb P_count), ((b 8), aJ cJ 49 P_cells), ((b 9), aJ cJ 49 P_near), ((b 10), oS b S_planned S_cells S_top S_bottom S_left S_right)]) rfl 1 rfl rfl rfl rfl (Nat.le_of_ble_eq_true rfl) dX7_setColour_6 (fun H locs h => ?_)
  obtain ⟨g_2, hf⟩ := og_some hf
  refine x_ifeq C (pc := 9) (tgt := 21) g_2 dX7_setColour_9 rfl (fun hc => ?_) (fun hc => ?_)
  · have hf := oi_t hf hc
    refine x_iconst C (pc := 21) dX7_setColour_21 ?_
    have e9 := Option.some.inj hf
    subst e9
    exact hret _ _ _ _ dX7_setColour_22 h
  · have hf := oi_f hf hc
    refine lv_iload_n hx hb (pc := 12) dX7_setColour_12 rfl (lv_at hl 3 rfl) ?_
    obtain ⟨g_3, hf⟩ := og_some hf
    refine x_iflt C (pc := 13) (tgt := 21) g_3 dX7_setColour_13 rfl (fun hc => ?_) (fun hc => ?_)
    · have hf := oi_t hf hc
      refine x_iconst C (pc := 21) dX7_setColour_21 ?_
      have e9 := Option.some.inj hf
      subst e9
      exact hret _ _ _ _ dX7_setColour_22 h
    · have hf := oi_f hf hc
      refine lv_iload_n hx hb (pc := 16) dX7_setColour_16 rfl (lv_at hl 3 rfl) ?_
      refine x_iconst C (pc := 17) dX7_setColour_17 ?_
      refine x_icmple C (pc := 18) (tgt := 23) g_3 ⟨by decide, by decide⟩ dX7_setColour_18 rfl (fun hc => ?_) (fun hc => ?_)
      · have hf := oi_t hf hc
        refine lv_iload_n hx hb (pc := 23) dX7_setColour_23 rfl (lv_at hl 1 rfl) ?_
        refine lv_iload_n hx hb (pc := 24) dX7_setColour_24 rfl (lv_at hl 2 rfl) ?_
        obtain ⟨q_4, hq_4, hf⟩ := ob_some hf
        refine x_callSi C h (pc := 25) hl (c_ce_number l D cI cJ cZ cO l1 l2 N q_4 hq_4) xs_X0_number lk_X7_93 ⟨(Nat.le_of_ble_eq_true rfl), (Nat.le_of_ble_eq_true rfl)⟩ rfl [] rfl rfl rfl (ws' := [((b 0), oG b), ((b 3), oD (b 4) D_rows D_cols D_cr D_cb D_cl D_kl), ((b 4), aI cI 56 D_col), ((b 5), oH b H_next H_count), ((b 6), aK cO b), (b 16, oD (b 24) (K_rows 0) (K_cols 0) (K_cr 0) (K_cb 0) (K_cl 0) (K_kl 0)), (b 17, oD (b 25) (K_rows 1) (K_cols 1) (K_cr 1) (K_cb 1) (K_cl 1) (K_kl 1)), (b 18, oD (b 26) (K_rows 2) (K_cols 2) (K_cr 2) (K_cb 2) (K_cl 2) (K_kl 2)), (b 19, oD (b 27) (K_rows 3) (K_cols 3) (K_cr 3) (K_cb 3) (K_cl 3) (K_kl 3)), (b 20, oD (b 28) (K_rows 4) (K_cols 4) (K_cr 4) (K_cb 4) (K_cl 4) (K_kl 4)), (b 21, oD (b 29) (K_rows 5) (K_cols 5) (K_cr 5) (K_cb 5) (K_cl 5) (K_kl 5)), (b 22, oD (b 30) (K_rows 6) (K_cols 6) (K_cr 6) (K_cb 6) (K_cl 6) (K_kl 6)), (b 23, oD (b 31) (K_rows 7) (K_cols 7) (K_cr 7) (K_cb 7) (K_cl 7) (K_kl 7)), (b 24, aI cI 56 (K_col 0)), (b 25, aI cI 56 (K_col 1)), (b 26, aI cI 56 (K_col 2)), (b 27, aI cI 56 (K_col 3)), (b 28, aI cI 56 (K_col 4)), (b 29, aI cI 56 (K_col 5)), (b 30, aI cI 56 (K_col 6)), (b 31, aI cI 56 (K_col 7)), ((b 7), oP b P_all P_jr P_jb P_count), ((b 8), aJ cJ 49 P_cells), ((b 9), aJ cJ 49 P_near), ((b 10), oS b S_planned S_cells S_top S_bottom S_left S_right)]) rfl rfl (Nat.le_of_ble_eq_true rfl) dX7_setColour_25 (fun H locs h => ?_)
        refine lv_istore hx hb (pc := 28) (lv' := [(4, iv q_4), (0, .ref (b 0)), (1, iv l1), (2, iv l2), (3, iv l3)]) dX7_setColour_28 hl (Nat.le_of_ble_eq_true rfl) rfl (fun ls hl => ?_)
        refine lv_aload_n hx hb (pc := 30) dX7_setColour_30 rfl (lv_at hl 1 rfl) ?_
        refine x_get C h (pc := 31) xf_X7_19 0 rfl (v := .ref (b 3)) rfl dX7_setColour_31 ?_
        refine x_get C h (pc := 34) xf_X7_99 1 rfl (v := .ref (b 4)) rfl dX7_setColour_34 ?_
        refine lv_iload hx hb (pc := 37) dX7_setColour_37 (lv_at hl 0 rfl) ?_
        obtain ⟨g_5, hf⟩ := og_some hf
        refine x_iald C h (pc := 39) 2 0 rfl rfl (Nat.le_of_ble_eq_true rfl) g_5 dX7_setColour_39 ?_
        obtain ⟨l5_6, el5_6, hf⟩ := ol_some hf
        refine x_topi el5_6 ?_
        refine lv_istore hx hb (pc := 40) (lv' := [(5, iv l5_6), (4, iv q_4), (0, .ref (b 0)), (1, iv l1), (2, iv l2), (3, iv l3)]) dX7_setColour_40 hl (Nat.le_of_ble_eq_true rfl) rfl (fun ls hl => ?_)
        refine lv_iload hx hb (pc := 42) dX7_setColour_42 (lv_at hl 0 rfl) ?_
        refine lv_iload_n hx hb (pc := 44) dX7_setColour_44 rfl (lv_at hl 5 rfl) ?_
        obtain ⟨g_7, hf⟩ := og_some hf
        refine x_icmpne C (pc := 45) (tgt := 51) g_7 g_3 dX7_setColour_45 rfl (fun hc => ?_) (fun hc => ?_)
        · have hf := oi_f hf hc
          refine lv_aload_n hx hb (pc := 51) dX7_setColour_51 rfl (lv_at hl 2 rfl) ?_
          refine x_get C h (pc := 52) xf_X7_26 0 rfl (v := .ref (b 5)) rfl dX7_setColour_52 ?_
          refine lv_aload_n hx hb (pc := 55) dX7_setColour_55 rfl (lv_at hl 2 rfl) ?_
          refine x_get C h (pc := 56) xf_X7_19 0 rfl (v := .ref (b 3)) rfl dX7_setColour_56 ?_
          obtain ⟨q_8, hq_8, hf⟩ := ob_some hf
          refine x_callVv C h (pc := 59) hl (c_hi_remember l D cI cJ cZ cO b D_rows D_cols D_cr D_cb D_cl D_kl D_col H_next H_count K_rows K_cols K_cr K_cb K_cl K_kl K_col N q_8 hq_8) xv_X3_remember lk_X7_70 ⟨(Nat.le_of_ble_eq_true rfl), (Nat.le_of_ble_eq_true rfl)⟩ rfl [1, 2, 3, 4, 5, 6, 7, 8, 9, 10, 11, 12, 13, 14, 15, 16, 17, 18, 19, 20] rfl rfl rfl (ws' := [((b 0), oG b), ((b 3), oD (b 4) D_rows D_cols D_cr D_cb D_cl D_kl), ((b 4), aI cI 56 D_col), ((b 5), oH b q_8.1 q_8.2.1), ((b 6), aK cO b), (b 16, oD (b 24) (q_8.2.2.1 0) (q_8.2.2.2.1 0) (q_8.2.2.2.2.1 0) (q_8.2.2.2.2.2.1 0) (q_8.2.2.2.2.2.2.1 0) (q_8.2.2.2.2.2.2.2.1 0)), (b 17, oD (b 25) (q_8.2.2.1 1) (q_8.2.2.2.1 1) (q_8.2.2.2.2.1 1) (q_8.2.2.2.2.2.1 1) (q_8.2.2.2.2.2.2.1 1) (q_8.2.2.2.2.2.2.2.1 1)), (b 18, oD (b 26) (q_8.2.2.1 2) (q_8.2.2.2.1 2) (q_8.2.2.2.2.1 2) (q_8.2.2.2.2.2.1 2) (q_8.2.2.2.2.2.2.1 2) (q_8.2.2.2.2.2.2.2.1 2)), (b 19, oD (b 27) (q_8.2.2.1 3) (q_8.2.2.2.1 3) (q_8.2.2.2.2.1 3) (q_8.2.2.2.2.2.1 3) (q_8.2.2.2.2.2.2.1 3) (q_8.2.2.2.2.2.2.2.1 3)), (b 20, oD (b 28) (q_8.2.2.1 4) (q_8.2.2.2.1 4) (q_8.2.2.2.2.1 4) (q_8.2.2.2.2.2.1 4) (q_8.2.2.2.2.2.2.1 4) (q_8.2.2.2.2.2.2.2.1 4)), (b 21, oD (b 29) (q_8.2.2.1 5) (q_8.2.2.2.1 5) (q_8.2.2.2.2.1 5) (q_8.2.2.2.2.2.1 5) (q_8.2.2.2.2.2.2.1 5) (q_8.2.2.2.2.2.2.2.1 5)), (b 22, oD (b 30) (q_8.2.2.1 6) (q_8.2.2.2.1 6) (q_8.2.2.2.2.1 6) (q_8.2.2.2.2.2.1 6) (q_8.2.2.2.2.2.2.1 6) (q_8.2.2.2.2.2.2.2.1 6)), (b 23, oD (b 31) (q_8.2.2.1 7) (q_8.2.2.2.1 7) (q_8.2.2.2.2.1 7) (q_8.2.2.2.2.2.1 7) (q_8.2.2.2.2.2.2.1 7) (q_8.2.2.2.2.2.2.2.1 7)), (b 24, aI cI 56 (q_8.2.2.2.2.2.2.2.2 0)), (b 25, aI cI 56 (q_8.2.2.2.2.2.2.2.2 1)), (b 26, aI cI 56 (q_8.2.2.2.2.2.2.2.2 2)), (b 27, aI cI 56 (q_8.2.2.2.2.2.2.2.2 3)), (b 28, aI cI 56 (q_8.2.2.2.2.2.2.2.2 4)), (b 29, aI cI 56 (q_8.2.2.2.2.2.2.2.2 5)), (b 30, aI cI 56 (q_8.2.2.2.2.2.2.2.2 6)), (b 31, aI cI 56 (q_8.2.2.2.2.2.2.2.2 7)), ((b 7), oP b P_all P_jr P_jb P_count), ((b 8), aJ cJ 49 P_cells), ((b 9), aJ cJ 49 P_near), ((b 10), oS b S_planned S_cells S_top S_bottom S_left S_right)]) rfl 3 rfl rfl rfl rfl (Nat.le_of_ble_eq_true rfl) dX7_setColour_59 (fun H locs h => ?_)
          refine lv_aload_n hx hb (pc := 62) dX7_setColour_62 rfl (lv_at hl 2 rfl) ?_
          refine x_get C h (pc := 63) xf_X7_19 0 rfl (v := .ref (b 3)) rfl dX7_setColour_63 ?_
          refine x_get C h (pc := 66) xf_X7_99 1 rfl (v := .ref (b 4)) rfl dX7_setColour_66 ?_
          refine lv_iload hx hb (pc := 69) dX7_setColour_69 (lv_at hl 1 rfl) ?_
          refine lv_iload_n hx hb (pc := 71) dX7_setColour_71 rfl (lv_at hl 5 rfl) ?_
          obtain ⟨D_col_9, eD_col_9, hf⟩ := ol_some hf
          refine x_iast C h (pc := 72) (ws' := [((b 0), oG b), ((b 3), oD (b 4) D_rows D_cols D_cr D_cb D_cl D_kl), ((b 4), aI cI 56 D_col_9), ((b 5), oH b q_8.1 q_8.2.1), ((b 6), aK cO b), (b 16, oD (b 24) (q_8.2.2.1 0) (q_8.2.2.2.1 0) (q_8.2.2.2.2.1 0) (q_8.2.2.2.2.2.1 0) (q_8.2.2.2.2.2.2.1 0) (q_8.2.2.2.2.2.2.2.1 0)), (b 17, oD (b 25) (q_8.2.2.1 1) (q_8.2.2.2.1 1) (q_8.2.2.2.2.1 1) (q_8.2.2.2.2.2.1 1) (q_8.2.2.2.2.2.2.1 1) (q_8.2.2.2.2.2.2.2.1 1)), (b 18, oD (b 26) (q_8.2.2.1 2) (q_8.2.2.2.1 2) (q_8.2.2.2.2.1 2) (q_8.2.2.2.2.2.1 2) (q_8.2.2.2.2.2.2.1 2) (q_8.2.2.2.2.2.2.2.1 2)), (b 19, oD (b 27) (q_8.2.2.1 3) (q_8.2.2.2.1 3) (q_8.2.2.2.2.1 3) (q_8.2.2.2.2.2.1 3) (q_8.2.2.2.2.2.2.1 3) (q_8.2.2.2.2.2.2.2.1 3)), (b 20, oD (b 28) (q_8.2.2.1 4) (q_8.2.2.2.1 4) (q_8.2.2.2.2.1 4) (q_8.2.2.2.2.2.1 4) (q_8.2.2.2.2.2.2.1 4) (q_8.2.2.2.2.2.2.2.1 4)), (b 21, oD (b 29) (q_8.2.2.1 5) (q_8.2.2.2.1 5) (q_8.2.2.2.2.1 5) (q_8.2.2.2.2.2.1 5) (q_8.2.2.2.2.2.2.1 5) (q_8.2.2.2.2.2.2.2.1 5)), (b 22, oD (b 30) (q_8.2.2.1 6) (q_8.2.2.2.1 6) (q_8.2.2.2.2.1 6) (q_8.2.2.2.2.2.1 6) (q_8.2.2.2.2.2.2.1 6) (q_8.2.2.2.2.2.2.2.1 6)), (b 23, oD (b 31) (q_8.2.2.1 7) (q_8.2.2.2.1 7) (q_8.2.2.2.2.1 7) (q_8.2.2.2.2.2.1 7) (q_8.2.2.2.2.2.2.1 7) (q_8.2.2.2.2.2.2.2.1 7)), (b 24, aI cI 56 (q_8.2.2.2.2.2.2.2.2 0)), (b 25, aI cI 56 (q_8.2.2.2.2.2.2.2.2 1)), (b 26, aI cI 56 (q_8.2.2.2.2.2.2.2.2 2)), (b 27, aI cI 56 (q_8.2.2.2.2.2.2.2.2 3)), (b 28, aI cI 56 (q_8.2.2.2.2.2.2.2.2 4)), (b 29, aI cI 56 (q_8.2.2.2.2.2.2.2.2 5)), (b 30, aI cI 56 (q_8.2.2.2.2.2.2.2.2 6)), (b 31, aI cI 56 (q_8.2.2.2.2.2.2.2.2 7)), ((b 7), oP b P_all P_jr P_jb P_count), ((b 8), aJ cJ 49 P_cells), ((b 9), aJ cJ 49 P_near), ((b 10), oS b S_planned S_cells S_top S_bottom S_left S_right)]) 2 0 rfl rfl (Nat.le_of_ble_eq_true rfl) g_5 eD_col_9 rfl dX7_setColour_72 (fun H locs h => ?_)
          refine lv_aload_n hx hb (pc := 73) dX7_setColour_73 rfl (lv_at hl 2 rfl) ?_
          obtain ⟨q_10, hq_10, hf⟩ := ob_some hf
          refine x_callVv C h (pc := 74) hl (c_gp_refresh l D cI cJ cZ cO b D_rows D_cols D_cr D_cb D_cl D_kl D_col_9 P_all P_jr P_jb P_count P_cells P_near S_planned S_cells S_top S_bottom S_left S_right N q_10 hq_10) xv_X7_refresh lk_X7_83 ⟨(Nat.le_of_ble_eq_true rfl), (Nat.le_of_ble_eq_true rfl)⟩ rfl [0, 1, 2, 21, 22, 23, 24] rfl rfl rfl (ws' := [((b 0), oG b), ((b 3), oD (b 4) D_rows D_cols D_cr D_cb D_cl D_kl), ((b 4), aI cI 56 D_col_9), ((b 5), oH b q_8.1 q_8.2.1), ((b 6), aK cO b), (b 16, oD (b 24) (q_8.2.2.1 0) (q_8.2.2.2.1 0) (q_8.2.2.2.2.1 0) (q_8.2.2.2.2.2.1 0) (q_8.2.2.2.2.2.2.1 0) (q_8.2.2.2.2.2.2.2.1 0)), (b 17, oD (b 25) (q_8.2.2.1 1) (q_8.2.2.2.1 1) (q_8.2.2.2.2.1 1) (q_8.2.2.2.2.2.1 1) (q_8.2.2.2.2.2.2.1 1) (q_8.2.2.2.2.2.2.2.1 1)), (b 18, oD (b 26) (q_8.2.2.1 2) (q_8.2.2.2.1 2) (q_8.2.2.2.2.1 2) (q_8.2.2.2.2.2.1 2) (q_8.2.2.2.2.2.2.1 2) (q_8.2.2.2.2.2.2.2.1 2)), (b 19, oD (b 27) (q_8.2.2.1 3) (q_8.2.2.2.1 3) (q_8.2.2.2.2.1 3) (q_8.2.2.2.2.2.1 3) (q_8.2.2.2.2.2.2.1 3) (q_8.2.2.2.2.2.2.2.1 3)), (b 20, oD (b 28) (q_8.2.2.1 4) (q_8.2.2.2.1 4) (q_8.2.2.2.2.1 4) (q_8.2.2.2.2.2.1 4) (q_8.2.2.2.2.2.2.1 4) (q_8.2.2.2.2.2.2.2.1 4)), (b 21, oD (b 29) (q_8.2.2.1 5) (q_8.2.2.2.1 5) (q_8.2.2.2.2.1 5) (q_8.2.2.2.2.2.1 5) (q_8.2.2.2.2.2.2.1 5) (q_8.2.2.2.2.2.2.2.1 5)), (b 22, oD (b 30) (q_8.2.2.1 6) (q_8.2.2.2.1 6) (q_8.2.2.2.2.1 6) (q_8.2.2.2.2.2.1 6) (q_8.2.2.2.2.2.2.1 6) (q_8.2.2.2.2.2.2.2.1 6)), (b 23, oD (b 31) (q_8.2.2.1 7) (q_8.2.2.2.1 7) (q_8.2.2.2.2.1 7) (q_8.2.2.2.2.2.1 7) (q_8.2.2.2.2.2.2.1 7) (q_8.2.2.2.2.2.2.2.1 7)), (b 24, aI cI 56 (q_8.2.2.2.2.2.2.2.2 0)), (b 25, aI cI 56 (q_8.2.2.2.2.2.2.2.2 1)), (b 26, aI cI 56 (q_8.2.2.2.2.2.2.2.2 2)), (b 27, aI cI 56 (q_8.2.2.2.2.2.2.2.2 3)), (b 28, aI cI 56 (q_8.2.2.2.2.2.2.2.2 4)), (b 29, aI cI 56 (q_8.2.2.2.2.2.2.2.2 5)), (b 30, aI cI 56 (q_8.2.2.2.2.2.2.2.2 6)), (b 31, aI cI 56 (q_8.2.2.2.2.2.2.2.2 7)), ((b 7), oP b q_10.1 q_10.2.1 q_10.2.2.1 q_10.2.2.2.1), ((b 8), aJ cJ 49 q_10.2.2.2.2.1), ((b 9), aJ cJ 49 q_10.2.2.2.2.2.1), ((b 10), oS b q_10.2.2.2.2.2.2 S_cells S_top S_bottom S_left S_right)]) rfl 0 rfl rfl rfl rfl (Nat.le_of_ble_eq_true rfl) dX7_setColour_74 (fun H locs h => ?_)
          refine lv_iload hx hb (pc := 77) dX7_setColour_77 (lv_at hl 0 rfl) ?_
          have e9 := Option.some.inj hf
          subst e9
          exact hret _ _ _ _ dX7_setColour_79 h
        · have hf := oi_t hf hc
          refine x_bipush C (pc := 48) dX7_setColour_48 (by decide) ?_
          have e9 := Option.some.inj hf
          subst e9
          exact hret _ _ _ _ dX7_setColour_50 h
      · have hf := oi_f hf hc
        refine x_iconst C (pc := 21) dX7_setColour_21 ?_
        have e9 := Option.some.inj hf
        subst e9
        exact hret _ _ _ _ dX7_setColour_22 h
abbrev rm_gp_rows : Room := { frames := 0, cells := 0, slots := 0, locals := 0 }
set_option maxHeartbeats 4000000 in
set_option maxRecDepth 100000 in
theorem c_gp_rows (l : Launch) (D : va_G) (cI cJ cZ cO : ClassId) (b : Nat → Nat) (D_rows : Int) (D_cols : Int) (D_cr : BitVec 64) (D_cb : BitVec 64) (D_cl : Int) (D_kl : Int) (N : Nat) (Res : Int) (hf : f_gp_rows N D_rows = some Res) : CoI l D (xT cI cJ cZ cO) yX7_rows cX7_rows 1 (some .int) rm_gp_rows [.ref (b 0)] [((b 0), oG b), ((b 3), oD (b 4) D_rows D_cols D_cr D_cb D_cl D_kl)] Res [((b 0), oG b), ((b 3), oD (b 4) D_rows D_cols D_cr D_cb D_cl D_kl)] := by
  refine co_i (by decide) ⟨rfl, rfl⟩ (Nat.le_of_ble_eq_true rfl) ?_
  intro p e s m args below meth c A Q ls C hret hl h
  have hx := C.1.1
  have hb := C.1.2.1
  have hl : lv_has ls 1 [(0, .ref (b 0))] := hl
  unfold f_gp_rows at hf
  refine lv_aload_n hx hb (pc := 0) dX7_rows_0 rfl (lv_at hl 0 rfl) ?_
  refine x_get C h (pc := 1) xf_X7_19 0 rfl (v := .ref (b 3)) rfl dX7_rows_1 ?_
  refine x_get C h (pc := 4) xf_X7_103 1 rfl (v := iv D_rows) rfl dX7_rows_4 ?_
  have e9 := Option.some.inj hf
  subst e9
  exact hret _ _ _ _ dX7_rows_7 h
abbrev rm_gp_columns : Room := { frames := 0, cells := 0, slots := 0, locals := 0 }
set_option maxHeartbeats 4000000 in
set_option maxRecDepth 100000 in
theorem c_gp_columns (l : Launch) (D : va_G) (cI cJ cZ cO : ClassId) (b : Nat → Nat) (D_rows : Int) (D_cols : Int) (D_cr : BitVec 64) (D_cb : BitVec 64) (D_cl : Int) (D_kl : Int) (N : Nat) (Res : Int) (hf : f_gp_columns N D_cols = some Res) : CoI l D (xT cI cJ cZ cO) yX7_columns cX7_columns 1 (some .int) rm_gp_columns [.ref (b 0)] [((b 0), oG b), ((b 3), oD (b 4) D_rows D_cols D_cr D_cb D_cl D_kl)] Res [((b 0), oG b), ((b 3), oD (b 4) D_rows D_cols D_cr D_cb D_cl D_kl)] := by
  refine co_i (by decide) ⟨rfl, rfl⟩ (Nat.le_of_ble_eq_true rfl) ?_
  intro p e s m args below meth c A Q ls C hret hl h
  have hx := C.1.1
  have hb := C.1.2.1
  have hl : lv_has ls 1 [(0, .ref (b 0))] := hl
  unfold f_gp_columns at hf
  refine lv_aload_n hx hb (pc := 0) dX7_columns_0 rfl (lv_at hl 0 rfl) ?_
  refine x_get C h (pc := 1) xf_X7_19 0 rfl (v := .ref (b 3)) rfl dX7_columns_1 ?_
  refine x_get C h (pc := 4) xf_X7_106 1 rfl (v := iv D_cols) rfl dX7_columns_4 ?_
  have e9 := Option.some.inj hf
  subst e9
  exact hret _ _ _ _ dX7_columns_7 h
abbrev rm_gp_colourAt : Room := { frames := 1, cells := 0, slots := 0, locals := 22 }
set_option maxHeartbeats 4000000 in
set_option maxRecDepth 100000 in
theorem c_gp_colourAt (l : Launch) (D : va_G) (cI cJ cZ cO : ClassId) (b : Nat → Nat) (D_rows : Int) (D_cols : Int) (D_cr : BitVec 64) (D_cb : BitVec 64) (D_cl : Int) (D_kl : Int) (D_col : Int → Int) (l1 : Int) (l2 : Int) (N : Nat) (Res : Int) (hf : f_gp_colourAt N l1 l2 D_rows D_cols D_col = some Res) : CoI l D (xT cI cJ cZ cO) yX7_colourAt cX7_colourAt 3 (some .int) rm_gp_colourAt [.ref (b 0), iv l1, iv l2] [((b 0), oG b), ((b 3), oD (b 4) D_rows D_cols D_cr D_cb D_cl D_kl), ((b 4), aI cI 56 D_col)] Res [((b 0), oG b), ((b 3), oD (b 4) D_rows D_cols D_cr D_cb D_cl D_kl), ((b 4), aI cI 56 D_col)] := by
  refine co_i (by decide) ⟨rfl, rfl⟩ (Nat.le_of_ble_eq_true rfl) ?_
  intro p e s m args below meth c A Q ls C hret hl h
  have hx := C.1.1
  have hb := C.1.2.1
  have hl : lv_has ls 3 [(0, .ref (b 0)), (1, iv l1), (2, iv l2)] := hl
  unfold f_gp_colourAt at hf
  refine lv_aload_n hx hb (pc := 0) dX7_colourAt_0 rfl (lv_at hl 0 rfl) ?_
  refine x_get C h (pc := 1) xf_X7_19 0 rfl (v := .ref (b 3)) rfl dX7_colourAt_1 ?_
  refine lv_iload_n hx hb (pc := 4) dX7_colourAt_4 rfl (lv_at hl 1 rfl) ?_
  refine lv_iload_n hx hb (pc := 5) dX7_colourAt_5 rfl (lv_at hl 2 rfl) ?_
  obtain ⟨q_1, hq_1, hf⟩ := ob_some hf
  refine x_callVi C h (pc := 6) hl (c_dr_hasCell l D cI cJ cZ cO (b 3) (b 4) D_rows D_cols D_cr D_cb D_cl D_kl l1 l2 N q_1 hq_1) xv_X2_hasCell lk_X7_89 ⟨(Nat.le_of_ble_eq_true rfl), (Nat.le_of_ble_eq_true rfl)⟩ rfl [1] rfl rfl rfl (ws' := [((b 0), oG b), ((b 3), oD (b 4) D_rows D_cols D_cr D_cb D_cl D_kl), ((b 4), aI cI 56 D_col)]) rfl 1 rfl rfl rfl rfl (Nat.le_of_ble_eq_true rfl) dX7_colourAt_6 (fun H locs h => ?_)
  obtain ⟨g_2, hf⟩ := og_some hf
  refine x_ifne C (pc := 9) (tgt := 14) g_2 dX7_colourAt_9 rfl (fun hc => ?_) (fun hc => ?_)
  · have hf := oi_f hf hc
    refine lv_aload_n hx hb (pc := 14) dX7_colourAt_14 rfl (lv_at hl 0 rfl) ?_
    refine x_get C h (pc := 15) xf_X7_19 0 rfl (v := .ref (b 3)) rfl dX7_colourAt_15 ?_
    refine x_get C h (pc := 18) xf_X7_99 1 rfl (v := .ref (b 4)) rfl dX7_colourAt_18 ?_
    refine lv_iload_n hx hb (pc := 21) dX7_colourAt_21 rfl (lv_at hl 1 rfl) ?_
    refine lv_iload_n hx hb (pc := 22) dX7_colourAt_22 rfl (lv_at hl 2 rfl) ?_
    obtain ⟨q_3, hq_3, hf⟩ := ob_some hf
    refine x_callSi C h (pc := 23) hl (c_ce_number l D cI cJ cZ cO l1 l2 N q_3 hq_3) xs_X0_number lk_X7_93 ⟨(Nat.le_of_ble_eq_true rfl), (Nat.le_of_ble_eq_true rfl)⟩ rfl [] rfl rfl rfl (ws' := [((b 0), oG b), ((b 3), oD (b 4) D_rows D_cols D_cr D_cb D_cl D_kl), ((b 4), aI cI 56 D_col)]) rfl rfl (Nat.le_of_ble_eq_true rfl) dX7_colourAt_23 (fun H locs h => ?_)
    obtain ⟨g_4, hf⟩ := og_some hf
    refine x_iald C h (pc := 26) 2 0 rfl rfl (Nat.le_of_ble_eq_true rfl) g_4 dX7_colourAt_26 ?_
    have e9 := Option.some.inj hf
    subst e9
    exact hret _ _ _ _ dX7_colourAt_27 h
  · have hf := oi_t hf hc
    refine x_iconst C (pc := 12) dX7_colourAt_12 ?_
    have e9 := Option.some.inj hf
    subst e9
    exact hret _ _ _ _ dX7_colourAt_13 h
abbrev rm_gp_addCut : Room := { frames := 8, cells := 0, slots := 0, locals := 182 }
set_option maxHeartbeats 4000000 in
set_option maxRecDepth 100000 in
theorem c_gp_addCut (l : Launch) (D : va_G) (cI cJ cZ cO : ClassId) (b : Nat → Nat) (D_rows : Int) (D_cols : Int) (D_cr : BitVec 64) (D_cb : BitVec 64) (D_cl : Int) (D_kl : Int) (D_col : Int → Int) (H_next : Int) (H_count : Int) (K_rows : Int → Int) (K_cols : Int → Int) (K_cr : Int → BitVec 64) (K_cb : Int → BitVec 64) (K_cl : Int → Int) (K_kl : Int → Int) (K_col : Int → Int → Int) (P_all : BitVec 64) (P_jr : BitVec 64) (P_jb : BitVec 64) (P_count : Int) (P_cells : Int → BitVec 64) (P_near : Int → BitVec 64) (S_planned : Int) (S_cells : BitVec 64) (S_top : Int) (S_bottom : Int) (S_left : Int) (S_right : Int) (l1 : Int) (l2 : Int) (l3 : Int) (N : Nat) (Res : Int × BitVec 64 × BitVec 64 × Int × Int × (Int → Int) × (Int → Int) × (Int → BitVec 64) × (Int → BitVec 64) × (Int → Int) × (Int → Int) × (Int → Int → Int) × BitVec 64 × BitVec 64 × BitVec 64 × Int × (Int → BitVec 64) × (Int → BitVec 64) × Int) (hf : f_gp_addCut N l1 l2 l3 D_rows D_cols D_cr D_cb D_cl D_kl D_col H_next H_count K_rows K_cols K_cr K_cb K_cl K_kl K_col P_all P_jr P_jb P_count P_cells P_near S_planned = some Res) : CoI l D (xT cI cJ cZ cO) yX7_addCut cX7_addCut 4 (some .int) rm_gp_addCut [.ref (b 0), iv l1, iv l2, iv l3] [((b 0), oG b), ((b 3), oD (b 4) D_rows D_cols D_cr D_cb D_cl D_kl), ((b 4), aI cI 56 D_col), ((b 5), oH b H_next H_count), ((b 6), aK cO b), (b 16, oD (b 24) (K_rows 0) (K_cols 0) (K_cr 0) (K_cb 0) (K_cl 0) (K_kl 0)), (b 17, oD (b 25) (K_rows 1) (K_cols 1) (K_cr 1) (K_cb 1) (K_cl 1) (K_kl 1)), (b 18, oD (b 26) (K_rows 2) (K_cols 2) (K_cr 2) (K_cb 2) (K_cl 2) (K_kl 2)), (b 19, oD (b 27) (K_rows 3) (K_cols 3) (K_cr 3) (K_cb 3) (K_cl 3) (K_kl 3)), (b 20, oD (b 28) (K_rows 4) (K_cols 4) (K_cr 4) (K_cb 4) (K_cl 4) (K_kl 4)), (b 21, oD (b 29) (K_rows 5) (K_cols 5) (K_cr 5) (K_cb 5) (K_cl 5) (K_kl 5)), (b 22, oD (b 30) (K_rows 6) (K_cols 6) (K_cr 6) (K_cb 6) (K_cl 6) (K_kl 6)), (b 23, oD (b 31) (K_rows 7) (K_cols 7) (K_cr 7) (K_cb 7) (K_cl 7) (K_kl 7)), (b 24, aI cI 56 (K_col 0)), (b 25, aI cI 56 (K_col 1)), (b 26, aI cI 56 (K_col 2)), (b 27, aI cI 56 (K_col 3)), (b 28, aI cI 56 (K_col 4)), (b 29, aI cI 56 (K_col 5)), (b 30, aI cI 56 (K_col 6)), (b 31, aI cI 56 (K_col 7)), ((b 7), oP b P_all P_jr P_jb P_count), ((b 8), aJ cJ 49 P_cells), ((b 9), aJ cJ 49 P_near), ((b 10), oS b S_planned S_cells S_top S_bottom S_left S_right)] Res.1 [((b 0), oG b), ((b 3), oD (b 4) D_rows D_cols Res.2.1 Res.2.2.1 D_cl D_kl), ((b 4), aI cI 56 D_col), ((b 5), oH b Res.2.2.2.1 Res.2.2.2.2.1), ((b 6), aK cO b), (b 16, oD (b 24) (Res.2.2.2.2.2.1 0) (Res.2.2.2.2.2.2.1 0) (Res.2.2.2.2.2.2.2.1 0) (Res.2.2.2.2.2.2.2.2.1 0) (Res.2.2.2.2.2.2.2.2.2.1 0) (Res.2.2.2.2.2.2.2.2.2.2.1 0)), (b 17, oD (b 25) (Res.2.2.2.2.2.1 1) (Res.2.2.2.2.2.2.1 1) (Res.2.2.2.2.2.2.2.1 1) (Res.2.2.2.2.2.2.2.2.1 1) (Res.2.2.2.2.2.2.2.2.2.1 1) (Res.2.2.2.2.2.2.2.2.2.2.1 1)), (b 18, oD (b 26) (Res.2.2.2.2.2.1 2) (Res.2.2.2.2.2.2.1 2) (Res.2.2.2.2.2.2.2.1 2) (Res.2.2.2.2.2.2.2.2.1 2) (Res.2.2.2.2.2.2.2.2.2.1 2) (Res.2.2.2.2.2.2.2.2.2.2.1 2)), (b 19, oD (b 27) (Res.2.2.2.2.2.1 3) (Res.2.2.2.2.2.2.1 3) (Res.2.2.2.2.2.2.2.1 3) (Res.2.2.2.2.2.2.2.2.1 3) (Res.2.2.2.2.2.2.2.2.2.1 3) (Res.2.2.2.2.2.2.2.2.2.2.1 3)), (b 20, oD (b 28) (Res.2.2.2.2.2.1 4) (Res.2.2.2.2.2.2.1 4) (Res.2.2.2.2.2.2.2.1 4) (Res.2.2.2.2.2.2.2.2.1 4) (Res.2.2.2.2.2.2.2.2.2.1 4) (Res.2.2.2.2.2.2.2.2.2.2.1 4)), (b 21, oD (b 29) (Res.2.2.2.2.2.1 5) (Res.2.2.2.2.2.2.1 5) (Res.2.2.2.2.2.2.2.1 5) (Res.2.2.2.2.2.2.2.2.1 5) (Res.2.2.2.2.2.2.2.2.2.1 5) (Res.2.2.2.2.2.2.2.2.2.2.1 5)), (b 22, oD (b 30) (Res.2.2.2.2.2.1 6) (Res.2.2.2.2.2.2.1 6) (Res.2.2.2.2.2.2.2.1 6) (Res.2.2.2.2.2.2.2.2.1 6) (Res.2.2.2.2.2.2.2.2.2.1 6) (Res.2.2.2.2.2.2.2.2.2.2.1 6)), (b 23, oD (b 31) (Res.2.2.2.2.2.1 7) (Res.2.2.2.2.2.2.1 7) (Res.2.2.2.2.2.2.2.1 7) (Res.2.2.2.2.2.2.2.2.1 7) (Res.2.2.2.2.2.2.2.2.2.1 7) (Res.2.2.2.2.2.2.2.2.2.2.1 7)), (b 24, aI cI 56 (Res.2.2.2.2.2.2.2.2.2.2.2.1 0)), (b 25, aI cI 56 (Res.2.2.2.2.2.2.2.2.2.2.2.1 1)), (b 26, aI cI 56 (Res.2.2.2.2.2.2.2.2.2.2.2.1 2)), (b 27, aI cI 56 (Res.2.2.2.2.2.2.2.2.2.2.2.1 3)), (b 28, aI cI 56 (Res.2.2.2.2.2.2.2.2.2.2.2.1 4)), (b 29, aI cI 56 (Res.2.2.2.2.2.2.2.2.2.2.2.1 5)), (b 30, aI cI 56 (Res.2.2.2.2.2.2.2.2.2.2.2.1 6)), (b 31, aI cI 56 (Res.2.2.2.2.2.2.2.2.2.2.2.1 7)), ((b 7), oP b Res.2.2.2.2.2.2.2.2.2.2.2.2.1 Res.2.2.2.2.2.2.2.2.2.2.2.2.2.1 Res.2.2.2.2.2.2.2.2.2.2.2.2.2.2.1 Res.2.2.2.2.2.2.2.2.2.2.2.2.2.2.2.1), ((b 8), aJ cJ 49 Res.2.2.2.2.2.2.2.2.2.2.2.2.2.2.2.2.1), ((b 9), aJ cJ 49 Res.2.2.2.2.2.2.2.2.2.2.2.2.2.2.2.2.2.1), ((b 10), oS b Res.2.2.2.2.2.2.2.2.2.2.2.2.2.2.2.2.2.2 S_cells S_top S_bottom S_left S_right)] := by
  refine co_i (by decide) ⟨rfl, rfl⟩ (Nat.le_of_ble_eq_true rfl) ?_
  intro p e s m args below meth c A Q ls C hret hl h
  have hx := C.1.1
  have hb := C.1.2.1
  have hl : lv_has ls 4 [(0, .ref (b 0)), (1, iv l1), (2, iv l2), (3, iv l3)] := hl
  unfold f_gp_addCut at hf
  refine lv_aload_n hx hb (pc := 0) dX7_addCut_0 rfl (lv_at hl 0 rfl) ?_
  refine x_get C h (pc := 1) xf_X7_19 0 rfl (v := .ref (b 3)) rfl dX7_addCut_1 ?_
  refine lv_iload_n hx hb (pc := 4) dX7_addCut_4 rfl (lv_at hl 1 rfl) ?_
  refine lv_iload_n hx hb (pc := 5) dX7_addCut_5 rfl (lv_at hl 2 rfl) ?_
  refine lv_iload_n hx hb (pc := 6) dX7_addCut_6 rfl (lv_at hl 3 rfl) ?_
  obtain ⟨q_1, hq_1, hf⟩ := ob_some hf
  refine x_callVi C h (pc := 7) hl (c_dr_hasPair l D cI cJ cZ cO (b 3) (b 4) D_rows D_cols D_cr D_cb D_cl D_kl l1 l2 l3 N q_1 hq_1) xv_X2_hasPair lk_X7_109 ⟨(Nat.le_of_ble_eq_true rfl), (Nat.le_of_ble_eq_true rfl)⟩ rfl [1] rfl rfl rfl (ws' := [((b 0), oG b), ((b 3), oD (b 4) D_rows D_cols D_cr D_cb D_cl D_kl), ((b 4), aI cI 56 D_col), ((b 5), oH b H_next H_count), ((b 6), aK cO b), (b 16, oD (b 24) (K_rows 0) (K_cols 0) (K_cr 0) (K_cb 0) (K_cl 0) (K_kl 0)), (b 17, oD (b 25) (K_rows 1) (K_cols 1) (K_cr 1) (K_cb 1) (K_cl 1) (K_kl 1)), (b 18, oD (b 26) (K_rows 2) (K_cols 2) (K_cr 2) (K_cb 2) (K_cl 2) (K_kl 2)), (b 19, oD (b 27) (K_rows 3) (K_cols 3) (K_cr 3) (K_cb 3) (K_cl 3) (K_kl 3)), (b 20, oD (b 28) (K_rows 4) (K_cols 4) (K_cr 4) (K_cb 4) (K_cl 4) (K_kl 4)), (b 21, oD (b 29) (K_rows 5) (K_cols 5) (K_cr 5) (K_cb 5) (K_cl 5) (K_kl 5)), (b 22, oD (b 30) (K_rows 6) (K_cols 6) (K_cr 6) (K_cb 6) (K_cl 6) (K_kl 6)), (b 23, oD (b 31) (K_rows 7) (K_cols 7) (K_cr 7) (K_cb 7) (K_cl 7) (K_kl 7)), (b 24, aI cI 56 (K_col 0)), (b 25, aI cI 56 (K_col 1)), (b 26, aI cI 56 (K_col 2)), (b 27, aI cI 56 (K_col 3)), (b 28, aI cI 56 (K_col 4)), (b 29, aI cI 56 (K_col 5)), (b 30, aI cI 56 (K_col 6)), (b 31, aI cI 56 (K_col 7)), ((b 7), oP b P_all P_jr P_jb P_count), ((b 8), aJ cJ 49 P_cells), ((b 9), aJ cJ 49 P_near), ((b 10), oS b S_planned S_cells S_top S_bottom S_left S_right)]) rfl 1 rfl rfl rfl rfl (Nat.le_of_ble_eq_true rfl) dX7_addCut_7 (fun H locs h => ?_)
  obtain ⟨g_2, hf⟩ := og_some hf
  refine x_ifne C (pc := 10) (tgt := 15) g_2 dX7_addCut_10 rfl (fun hc => ?_) (fun hc => ?_)
  · have hf := oi_f hf hc
    refine lv_aload_n hx hb (pc := 15) dX7_addCut_15 rfl (lv_at hl 0 rfl) ?_
    refine x_get C h (pc := 16) xf_X7_19 0 rfl (v := .ref (b 3)) rfl dX7_addCut_16 ?_
    refine lv_iload_n hx hb (pc := 19) dX7_addCut_19 rfl (lv_at hl 1 rfl) ?_
    refine lv_iload_n hx hb (pc := 20) dX7_addCut_20 rfl (lv_at hl 2 rfl) ?_
    refine lv_iload_n hx hb (pc := 21) dX7_addCut_21 rfl (lv_at hl 3 rfl) ?_
    obtain ⟨q_3, hq_3, hf⟩ := ob_some hf
    refine x_callVi C h (pc := 22) hl (c_dr_hasCut l D cI cJ cZ cO (b 3) (b 4) D_rows D_cols D_cr D_cb D_cl D_kl l1 l2 l3 N q_3 hq_3) xv_X2_hasCut lk_X7_113 ⟨(Nat.le_of_ble_eq_true rfl), (Nat.le_of_ble_eq_true rfl)⟩ rfl [1] rfl rfl rfl (ws' := [((b 0), oG b), ((b 3), oD (b 4) D_rows D_cols D_cr D_cb D_cl D_kl), ((b 4), aI cI 56 D_col), ((b 5), oH b H_next H_count), ((b 6), aK cO b), (b 16, oD (b 24) (K_rows 0) (K_cols 0) (K_cr 0) (K_cb 0) (K_cl 0) (K_kl 0)), (b 17, oD (b 25) (K_rows 1) (K_cols 1) (K_cr 1) (K_cb 1) (K_cl 1) (K_kl 1)), (b 18, oD (b 26) (K_rows 2) (K_cols 2) (K_cr 2) (K_cb 2) (K_cl 2) (K_kl 2)), (b 19, oD (b 27) (K_rows 3) (K_cols 3) (K_cr 3) (K_cb 3) (K_cl 3) (K_kl 3)), (b 20, oD (b 28) (K_rows 4) (K_cols 4) (K_cr 4) (K_cb 4) (K_cl 4) (K_kl 4)), (b 21, oD (b 29) (K_rows 5) (K_cols 5) (K_cr 5) (K_cb 5) (K_cl 5) (K_kl 5)), (b 22, oD (b 30) (K_rows 6) (K_cols 6) (K_cr 6) (K_cb 6) (K_cl 6) (K_kl 6)), (b 23, oD (b 31) (K_rows 7) (K_cols 7) (K_cr 7) (K_cb 7) (K_cl 7) (K_kl 7)), (b 24, aI cI 56 (K_col 0)), (b 25, aI cI 56 (K_col 1)), (b 26, aI cI 56 (K_col 2)), (b 27, aI cI 56 (K_col 3)), (b 28, aI cI 56 (K_col 4)), (b 29, aI cI 56 (K_col 5)), (b 30, aI cI 56 (K_col 6)), (b 31, aI cI 56 (K_col 7)), ((b 7), oP b P_all P_jr P_jb P_count), ((b 8), aJ cJ 49 P_cells), ((b 9), aJ cJ 49 P_near), ((b 10), oS b S_planned S_cells S_top S_bottom S_left S_right)]) rfl 1 rfl rfl rfl rfl (Nat.le_of_ble_eq_true rfl) dX7_addCut_22 (fun H locs h => ?_)
    obtain ⟨g_4, hf⟩ := og_some hf
    refine x_ifeq C (pc := 25) (tgt := 31) g_4 dX7_addCut_25 rfl (fun hc => ?_) (fun hc => ?_)
    · have hf := oi_t hf hc
      refine lv_aload_n hx hb (pc := 31) dX7_addCut_31 rfl (lv_at hl 0 rfl) ?_
      refine lv_iload_n hx hb (pc := 32) dX7_addCut_32 rfl (lv_at hl 1 rfl) ?_
      refine lv_iload_n hx hb (pc := 33) dX7_addCut_33 rfl (lv_at hl 2 rfl) ?_
      refine lv_iload_n hx hb (pc := 34) dX7_addCut_34 rfl (lv_at hl 3 rfl) ?_
      obtain ⟨q_5, hq_5, hf⟩ := ob_some hf
      refine x_callVi C h (pc := 35) hl (c_gp_flipCut l D cI cJ cZ cO b D_rows D_cols D_cr D_cb D_cl D_kl D_col H_next H_count K_rows K_cols K_cr K_cb K_cl K_kl K_col P_all P_jr P_jb P_count P_cells P_near S_planned S_cells S_top S_bottom S_left S_right l1 l2 l3 N q_5 hq_5) xv_X7_flipCut lk_X7_116 ⟨(Nat.le_of_ble_eq_true rfl), (Nat.le_of_ble_eq_true rfl)⟩ rfl [0, 1, 2, 3, 4, 5, 6, 7, 8, 9, 10, 11, 12, 13, 14, 15, 16, 17, 18, 19, 20, 21, 22, 23, 24] rfl rfl rfl (ws' := [((b 0), oG b), ((b 3), oD (b 4) D_rows D_cols q_5.2.1 q_5.2.2.1 D_cl D_kl), ((b 4), aI cI 56 D_col), ((b 5), oH b q_5.2.2.2.1 q_5.2.2.2.2.1), ((b 6), aK cO b), (b 16, oD (b 24) (q_5.2.2.2.2.2.1 0) (q_5.2.2.2.2.2.2.1 0) (q_5.2.2.2.2.2.2.2.1 0) (q_5.2.2.2.2.2.2.2.2.1 0) (q_5.2.2.2.2.2.2.2.2.2.1 0) (q_5.2.2.2.2.2.2.2.2.2.2.1 0)), (b 17, oD (b 25) (q_5.2.2.2.2.2.1 1) (q_5.2.2.2.2.2.2.1 1) (q_5.2.2.2.2.2.2.2.1 1) (q_5.2.2.2.2.2.2.2.2.1 1) (q_5.2.2.2.2.2.2.2.2.2.1 1) (q_5.2.2.2.2.2.2.2.2.2.2.1 1)), (b 18, oD (b 26) (q_5.2.2.2.2.2.1 2) (q_5.2.2.2.2.2.2.1 2) (q_5.2.2.2.2.2.2.2.1 2) (q_5.2.2.2.2.2.2.2.2.1 2) (q_5.2.2.2.2.2.2.2.2.2.1 2) (q_5.2.2.2.2.2.2.2.2.2.2.1 2)), (b 19, oD (b 27) (q_5.2.2.2.2.2.1 3) (q_5.2.2.2.2.2.2.1 3) (q_5.2.2.2.2.2.2.2.1 3) (q_5.2.2.2.2.2.2.2.2.1 3) (q_5.2.2.2.2.2.2.2.2.2.1 3) (q_5.2.2.2.2.2.2.2.2.2.2.1 3)), (b 20, oD (b 28) (q_5.2.2.2.2.2.1 4) (q_5.2.2.2.2.2.2.1 4) (q_5.2.2.2.2.2.2.2.1 4) (q_5.2.2.2.2.2.2.2.2.1 4) (q_5.2.2.2.2.2.2.2.2.2.1 4) (q_5.2.2.2.2.2.2.2.2.2.2.1 4)), (b 21, oD (b 29) (q_5.2.2.2.2.2.1 5) (q_5.2.2.2.2.2.2.1 5) (q_5.2.2.2.2.2.2.2.1 5) (q_5.2.2.2.2.2.2.2.2.1 5) (q_5.2.2.2.2.2.2.2.2.2.1 5) (q_5.2.2.2.2.2.2.2.2.2.2.1 5)), (b 22, oD (b 30) (q_5.2.2.2.2.2.1 6) (q_5.2.2.2.2.2.2.1 6) (q_5.2.2.2.2.2.2.2.1 6) (q_5.2.2.2.2.2.2.2.2.1 6) (q_5.2.2.2.2.2.2.2.2.2.1 6) (q_5.2.2.2.2.2.2.2.2.2.2.1 6)), (b 23, oD (b 31) (q_5.2.2.2.2.2.1 7) (q_5.2.2.2.2.2.2.1 7) (q_5.2.2.2.2.2.2.2.1 7) (q_5.2.2.2.2.2.2.2.2.1 7) (q_5.2.2.2.2.2.2.2.2.2.1 7) (q_5.2.2.2.2.2.2.2.2.2.2.1 7)), (b 24, aI cI 56 (q_5.2.2.2.2.2.2.2.2.2.2.2.1 0)), (b 25, aI cI 56 (q_5.2.2.2.2.2.2.2.2.2.2.2.1 1)), (b 26, aI cI 56 (q_5.2.2.2.2.2.2.2.2.2.2.2.1 2)), (b 27, aI cI 56 (q_5.2.2.2.2.2.2.2.2.2.2.2.1 3)), (b 28, aI cI 56 (q_5.2.2.2.2.2.2.2.2.2.2.2.1 4)), (b 29, aI cI 56 (q_5.2.2.2.2.2.2.2.2.2.2.2.1 5)), (b 30, aI cI 56 (q_5.2.2.2.2.2.2.2.2.2.2.2.1 6)), (b 31, aI cI 56 (q_5.2.2.2.2.2.2.2.2.2.2.2.1 7)), ((b 7), oP b q_5.2.2.2.2.2.2.2.2.2.2.2.2.1 q_5.2.2.2.2.2.2.2.2.2.2.2.2.2.1 q_5.2.2.2.2.2.2.2.2.2.2.2.2.2.2.1 q_5.2.2.2.2.2.2.2.2.2.2.2.2.2.2.2.1), ((b 8), aJ cJ 49 q_5.2.2.2.2.2.2.2.2.2.2.2.2.2.2.2.2.1), ((b 9), aJ cJ 49 q_5.2.2.2.2.2.2.2.2.2.2.2.2.2.2.2.2.2.1), ((b 10), oS b q_5.2.2.2.2.2.2.2.2.2.2.2.2.2.2.2.2.2.2 S_cells S_top S_bottom S_left S_right)]) rfl 0 rfl rfl rfl rfl (Nat.le_of_ble_eq_true rfl) dX7_addCut_35 (fun H locs h => ?_)
      have e9 := Option.some.inj hf
      subst e9
      exact hret _ _ _ _ dX7_addCut_38 h
    · have hf := oi_f hf hc
      refine x_bipush C (pc := 28) dX7_addCut_28 (by decide) ?_
      have e9 := Option.some.inj hf
      subst e9
      exact hret _ _ _ _ dX7_addCut_30 h
  · have hf := oi_t hf hc
    refine x_iconst C (pc := 13) dX7_addCut_13 ?_
    have e9 := Option.some.inj hf
    subst e9
    exact hret _ _ _ _ dX7_addCut_14 h
abbrev rm_gp_removeCut : Room := { frames := 8, cells := 0, slots := 0, locals := 182 }
set_option maxHeartbeats 4000000 in
set_option maxRecDepth 100000 in
theorem c_gp_removeCut (l : Launch) (D : va_G) (cI cJ cZ cO : ClassId) (b : Nat → Nat) (D_rows : Int) (D_cols : Int) (D_cr : BitVec 64) (D_cb : BitVec 64) (D_cl : Int) (D_kl : Int) (D_col : Int → Int) (H_next : Int) (H_count : Int) (K_rows : Int → Int) (K_cols : Int → Int) (K_cr : Int → BitVec 64) (K_cb : Int → BitVec 64) (K_cl : Int → Int) (K_kl : Int → Int) (K_col : Int → Int → Int) (P_all : BitVec 64) (P_jr : BitVec 64) (P_jb : BitVec 64) (P_count : Int) (P_cells : Int → BitVec 64) (P_near : Int → BitVec 64) (S_planned : Int) (S_cells : BitVec 64) (S_top : Int) (S_bottom : Int) (S_left : Int) (S_right : Int) (l1 : Int) (l2 : Int) (l3 : Int) (N : Nat) (Res : Int × BitVec 64 × BitVec 64 × Int × Int × (Int → Int) × (Int → Int) × (Int → BitVec 64) × (Int → BitVec 64) × (Int → Int) × (Int → Int) × (Int → Int → Int) × BitVec 64 × BitVec 64 × BitVec 64 × Int × (Int → BitVec 64) × (Int → BitVec 64) × Int) (hf : f_gp_removeCut N l1 l2 l3 D_rows D_cols D_cr D_cb D_cl D_kl D_col H_next H_count K_rows K_cols K_cr K_cb K_cl K_kl K_col P_all P_jr P_jb P_count P_cells P_near S_planned = some Res) : CoI l D (xT cI cJ cZ cO) yX7_removeCut cX7_removeCut 4 (some .int) rm_gp_removeCut [.ref (b 0), iv l1, iv l2, iv l3] [((b 0), oG b), ((b 3), oD (b 4) D_rows D_cols D_cr D_cb D_cl D_kl), ((b 4), aI cI 56 D_col), ((b 5), oH b H_next H_count), ((b 6), aK cO b), (b 16, oD (b 24) (K_rows 0) (K_cols 0) (K_cr 0) (K_cb 0) (K_cl 0) (K_kl 0)), (b 17, oD (b 25) (K_rows 1) (K_cols 1) (K_cr 1) (K_cb 1) (K_cl 1) (K_kl 1)), (b 18, oD (b 26) (K_rows 2) (K_cols 2) (K_cr 2) (K_cb 2) (K_cl 2) (K_kl 2)), (b 19, oD (b 27) (K_rows 3) (K_cols 3) (K_cr 3) (K_cb 3) (K_cl 3) (K_kl 3)), (b 20, oD (b 28) (K_rows 4) (K_cols 4) (K_cr 4) (K_cb 4) (K_cl 4) (K_kl 4)), (b 21, oD (b 29) (K_rows 5) (K_cols 5) (K_cr 5) (K_cb 5) (K_cl 5) (K_kl 5)), (b 22, oD (b 30) (K_rows 6) (K_cols 6) (K_cr 6) (K_cb 6) (K_cl 6) (K_kl 6)), (b 23, oD (b 31) (K_rows 7) (K_cols 7) (K_cr 7) (K_cb 7) (K_cl 7) (K_kl 7)), (b 24, aI cI 56 (K_col 0)), (b 25, aI cI 56 (K_col 1)), (b 26, aI cI 56 (K_col 2)), (b 27, aI cI 56 (K_col 3)), (b 28, aI cI 56 (K_col 4)), (b 29, aI cI 56 (K_col 5)), (b 30, aI cI 56 (K_col 6)), (b 31, aI cI 56 (K_col 7)), ((b 7), oP b P_all P_jr P_jb P_count), ((b 8), aJ cJ 49 P_cells), ((b 9), aJ cJ 49 P_near), ((b 10), oS b S_planned S_cells S_top S_bottom S_left S_right)] Res.1 [((b 0), oG b), ((b 3), oD (b 4) D_rows D_cols Res.2.1 Res.2.2.1 D_cl D_kl), ((b 4), aI cI 56 D_col), ((b 5), oH b Res.2.2.2.1 Res.2.2.2.2.1), ((b 6), aK cO b), (b 16, oD (b 24) (Res.2.2.2.2.2.1 0) (Res.2.2.2.2.2.2.1 0) (Res.2.2.2.2.2.2.2.1 0) (Res.2.2.2.2.2.2.2.2.1 0) (Res.2.2.2.2.2.2.2.2.2.1 0) (Res.2.2.2.2.2.2.2.2.2.2.1 0)), (b 17, oD (b 25) (Res.2.2.2.2.2.1 1) (Res.2.2.2.2.2.2.1 1) (Res.2.2.2.2.2.2.2.1 1) (Res.2.2.2.2.2.2.2.2.1 1) (Res.2.2.2.2.2.2.2.2.2.1 1) (Res.2.2.2.2.2.2.2.2.2.2.1 1)), (b 18, oD (b 26) (Res.2.2.2.2.2.1 2) (Res.2.2.2.2.2.2.1 2) (Res.2.2.2.2.2.2.2.1 2) (Res.2.2.2.2.2.2.2.2.1 2) (Res.2.2.2.2.2.2.2.2.2.1 2) (Res.2.2.2.2.2.2.2.2.2.2.1 2)), (b 19, oD (b 27) (Res.2.2.2.2.2.1 3) (Res.2.2.2.2.2.2.1 3) (Res.2.2.2.2.2.2.2.1 3) (Res.2.2.2.2.2.2.2.2.1 3) (Res.2.2.2.2.2.2.2.2.2.1 3) (Res.2.2.2.2.2.2.2.2.2.2.1 3)), (b 20, oD (b 28) (Res.2.2.2.2.2.1 4) (Res.2.2.2.2.2.2.1 4) (Res.2.2.2.2.2.2.2.1 4) (Res.2.2.2.2.2.2.2.2.1 4) (Res.2.2.2.2.2.2.2.2.2.1 4) (Res.2.2.2.2.2.2.2.2.2.2.1 4)), (b 21, oD (b 29) (Res.2.2.2.2.2.1 5) (Res.2.2.2.2.2.2.1 5) (Res.2.2.2.2.2.2.2.1 5) (Res.2.2.2.2.2.2.2.2.1 5) (Res.2.2.2.2.2.2.2.2.2.1 5) (Res.2.2.2.2.2.2.2.2.2.2.1 5)), (b 22, oD (b 30) (Res.2.2.2.2.2.1 6) (Res.2.2.2.2.2.2.1 6) (Res.2.2.2.2.2.2.2.1 6) (Res.2.2.2.2.2.2.2.2.1 6) (Res.2.2.2.2.2.2.2.2.2.1 6) (Res.2.2.2.2.2.2.2.2.2.2.1 6)), (b 23, oD (b 31) (Res.2.2.2.2.2.1 7) (Res.2.2.2.2.2.2.1 7) (Res.2.2.2.2.2.2.2.1 7) (Res.2.2.2.2.2.2.2.2.1 7) (Res.2.2.2.2.2.2.2.2.2.1 7) (Res.2.2.2.2.2.2.2.2.2.2.1 7)), (b 24, aI cI 56 (Res.2.2.2.2.2.2.2.2.2.2.2.1 0)), (b 25, aI cI 56 (Res.2.2.2.2.2.2.2.2.2.2.2.1 1)), (b 26, aI cI 56 (Res.2.2.2.2.2.2.2.2.2.2.2.1 2)), (b 27, aI cI 56 (Res.2.2.2.2.2.2.2.2.2.2.2.1 3)), (b 28, aI cI 56 (Res.2.2.2.2.2.2.2.2.2.2.2.1 4)), (b 29, aI cI 56 (Res.2.2.2.2.2.2.2.2.2.2.2.1 5)), (b 30, aI cI 56 (Res.2.2.2.2.2.2.2.2.2.2.2.1 6)), (b 31, aI cI 56 (Res.2.2.2.2.2.2.2.2.2.2.2.1 7)), ((b 7), oP b Res.2.2.2.2.2.2.2.2.2.2.2.2.1 Res.2.2.2.2.2.2.2.2.2.2.2.2.2.1 Res.2.2.2.2.2.2.2.2.2.2.2.2.2.2.1 Res.2.2.2.2.2.2.2.2.2.2.2.2.2.2.2.1), ((b 8), aJ cJ 49 Res.2.2.2.2.2.2.2.2.2.2.2.2.2.2.2.2.1), ((b 9), aJ cJ 49 Res.2.2.2.2.2.2.2.2.2.2.2.2.2.2.2.2.2.1), ((b 10), oS b Res.2.2.2.2.2.2.2.2.2.2.2.2.2.2.2.2.2.2 S_cells S_top S_bottom S_left S_right)] := by
  refine co_i (by decide) ⟨rfl, rfl⟩ (Nat.le_of_ble_eq_true rfl) ?_
  intro p e s m args below meth c A Q ls C hret hl h
  have hx := C.1.1
  have hb := C.1.2.1
  have hl : lv_has ls 4 [(0, .ref (b 0)), (1, iv l1), (2, iv l2), (3, iv l3)] := hl
  unfold f_gp_removeCut at hf
  refine lv_aload_n hx hb (pc := 0) dX7_removeCut_0 rfl (lv_at hl 0 rfl) ?_
  refine x_get C h (pc := 1) xf_X7_19 0 rfl (v := .ref (b 3)) rfl dX7_removeCut_1 ?_
  refine lv_iload_n hx hb (pc := 4) dX7_removeCut_4 rfl (lv_at hl 1 rfl) ?_
  refine lv_iload_n hx hb (pc := 5) dX7_removeCut_5 rfl (lv_at hl 2 rfl) ?_
  refine lv_iload_n hx hb (pc := 6) dX7_removeCut_6 rfl (lv_at hl 3 rfl) ?_
  obtain ⟨q_1, hq_1, hf⟩ := ob_some hf
  refine x_callVi C h (pc := 7) hl (c_dr_hasPair l D cI cJ cZ cO (b 3) (b 4) D_rows D_cols D_cr D_cb D_cl D_kl l1 l2 l3 N q_1 hq_1) xv_X2_hasPair lk_X7_109 ⟨(Nat.le_of_ble_eq_true rfl), (Nat.le_of_ble_eq_true rfl)⟩ rfl [1] rfl rfl rfl (ws' := [((b 0), oG b), ((b 3), oD (b 4) D_rows D_cols D_cr D_cb D_cl D_kl), ((b 4), aI cI 56 D_col), ((b 5), oH b H_next H_count), ((b 6), aK cO b), (b 16, oD (b 24) (K_rows 0) (K_cols 0) (K_cr 0) (K_cb 0) (K_cl 0) (K_kl 0)), (b 17, oD (b 25) (K_rows 1) (K_cols 1) (K_cr 1) (K_cb 1) (K_cl 1) (K_kl 1)), (b 18, oD (b 26) (K_rows 2) (K_cols 2) (K_cr 2) (K_cb 2) (K_cl 2) (K_kl 2)), (b 19, oD (b 27) (K_rows 3) (K_cols 3) (K_cr 3) (K_cb 3) (K_cl 3) (K_kl 3)), (b 20, oD (b 28) (K_rows 4) (K_cols 4) (K_cr 4) (K_cb 4) (K_cl 4) (K_kl 4)), (b 21, oD (b 29) (K_rows 5) (K_cols 5) (K_cr 5) (K_cb 5) (K_cl 5) (K_kl 5)), (b 22, oD (b 30) (K_rows 6) (K_cols 6) (K_cr 6) (K_cb 6) (K_cl 6) (K_kl 6)), (b 23, oD (b 31) (K_rows 7) (K_cols 7) (K_cr 7) (K_cb 7) (K_cl 7) (K_kl 7)), (b 24, aI cI 56 (K_col 0)), (b 25, aI cI 56 (K_col 1)), (b 26, aI cI 56 (K_col 2)), (b 27, aI cI 56 (K_col 3)), (b 28, aI cI 56 (K_col 4)), (b 29, aI cI 56 (K_col 5)), (b 30, aI cI 56 (K_col 6)), (b 31, aI cI 56 (K_col 7)), ((b 7), oP b P_all P_jr P_jb P_count), ((b 8), aJ cJ 49 P_cells), ((b 9), aJ cJ 49 P_near), ((b 10), oS b S_planned S_cells S_top S_bottom S_left S_right)]) rfl 1 rfl rfl rfl rfl (Nat.le_of_ble_eq_true rfl) dX7_removeCut_7 (fun H locs h => ?_)
  obtain ⟨g_2, hf⟩ := og_some hf
  refine x_ifne C (pc := 10) (tgt := 15) g_2 dX7_removeCut_10 rfl (fun hc => ?_) (fun hc => ?_)
  · have hf := oi_f hf hc
    refine lv_aload_n hx hb (pc := 15) dX7_removeCut_15 rfl (lv_at hl 0 rfl) ?_
    refine x_get C h (pc := 16) xf_X7_19 0 rfl (v := .ref (b 3)) rfl dX7_removeCut_16 ?_
    refine lv_iload_n hx hb (pc := 19) dX7_removeCut_19 rfl (lv_at hl 1 rfl) ?_
    refine lv_iload_n hx hb (pc := 20) dX7_removeCut_20 rfl (lv_at hl 2 rfl) ?_
    refine lv_iload_n hx hb (pc := 21) dX7_removeCut_21 rfl (lv_at hl 3 rfl) ?_
    obtain ⟨q_3, hq_3, hf⟩ := ob_some hf
    refine x_callVi C h (pc := 22) hl (c_dr_hasCut l D cI cJ cZ cO (b 3) (b 4) D_rows D_cols D_cr D_cb D_cl D_kl l1 l2 l3 N q_3 hq_3) xv_X2_hasCut lk_X7_113 ⟨(Nat.le_of_ble_eq_true rfl), (Nat.le_of_ble_eq_true rfl)⟩ rfl [1] rfl rfl rfl (ws' := [((b 0), oG b), ((b 3), oD (b 4) D_rows D_cols D_cr D_cb D_cl D_kl), ((b 4), aI cI 56 D_col), ((b 5), oH b H_next H_count), ((b 6), aK cO b), (b 16, oD (b 24) (K_rows 0) (K_cols 0) (K_cr 0) (K_cb 0) (K_cl 0) (K_kl 0)), (b 17, oD (b 25) (K_rows 1) (K_cols 1) (K_cr 1) (K_cb 1) (K_cl 1) (K_kl 1)), (b 18, oD (b 26) (K_rows 2) (K_cols 2) (K_cr 2) (K_cb 2) (K_cl 2) (K_kl 2)), (b 19, oD (b 27) (K_rows 3) (K_cols 3) (K_cr 3) (K_cb 3) (K_cl 3) (K_kl 3)), (b 20, oD (b 28) (K_rows 4) (K_cols 4) (K_cr 4) (K_cb 4) (K_cl 4) (K_kl 4)), (b 21, oD (b 29) (K_rows 5) (K_cols 5) (K_cr 5) (K_cb 5) (K_cl 5) (K_kl 5)), (b 22, oD (b 30) (K_rows 6) (K_cols 6) (K_cr 6) (K_cb 6) (K_cl 6) (K_kl 6)), (b 23, oD (b 31) (K_rows 7) (K_cols 7) (K_cr 7) (K_cb 7) (K_cl 7) (K_kl 7)), (b 24, aI cI 56 (K_col 0)), (b 25, aI cI 56 (K_col 1)), (b 26, aI cI 56 (K_col 2)), (b 27, aI cI 56 (K_col 3)), (b 28, aI cI 56 (K_col 4)), (b 29, aI cI 56 (K_col 5)), (b 30, aI cI 56 (K_col 6)), (b 31, aI cI 56 (K_col 7)), ((b 7), oP b P_all P_jr P_jb P_count), ((b 8), aJ cJ 49 P_cells), ((b 9), aJ cJ 49 P_near), ((b 10), oS b S_planned S_cells S_top S_bottom S_left S_right)]) rfl 1 rfl rfl rfl rfl (Nat.le_of_ble_eq_true rfl) dX7_removeCut_22 (fun H locs h => ?_)
    obtain ⟨g_4, hf⟩ := og_some hf
    refine x_ifne C (pc := 25) (tgt := 31) g_4 dX7_removeCut_25 rfl (fun hc => ?_) (fun hc => ?_)
    · have hf := oi_f hf hc
      refine lv_aload_n hx hb (pc := 31) dX7_removeCut_31 rfl (lv_at hl 0 rfl) ?_
      refine lv_iload_n hx hb (pc := 32) dX7_removeCut_32 rfl (lv_at hl 1 rfl) ?_
      refine lv_iload_n hx hb (pc := 33) dX7_removeCut_33 rfl (lv_at hl 2 rfl) ?_
      refine lv_iload_n hx hb (pc := 34) dX7_removeCut_34 rfl (lv_at hl 3 rfl) ?_
      obtain ⟨q_5, hq_5, hf⟩ := ob_some hf
      refine x_callVi C h (pc := 35) hl (c_gp_flipCut l D cI cJ cZ cO b D_rows D_cols D_cr D_cb D_cl D_kl D_col H_next H_count K_rows K_cols K_cr K_cb K_cl K_kl K_col P_all P_jr P_jb P_count P_cells P_near S_planned S_cells S_top S_bottom S_left S_right l1 l2 l3 N q_5 hq_5) xv_X7_flipCut lk_X7_116 ⟨(Nat.le_of_ble_eq_true rfl), (Nat.le_of_ble_eq_true rfl)⟩ rfl [0, 1, 2, 3, 4, 5, 6, 7, 8, 9, 10, 11, 12, 13, 14, 15, 16, 17, 18, 19, 20, 21, 22, 23, 24] rfl rfl rfl (ws' := [((b 0), oG b), ((b 3), oD (b 4) D_rows D_cols q_5.2.1 q_5.2.2.1 D_cl D_kl), ((b 4), aI cI 56 D_col), ((b 5), oH b q_5.2.2.2.1 q_5.2.2.2.2.1), ((b 6), aK cO b), (b 16, oD (b 24) (q_5.2.2.2.2.2.1 0) (q_5.2.2.2.2.2.2.1 0) (q_5.2.2.2.2.2.2.2.1 0) (q_5.2.2.2.2.2.2.2.2.1 0) (q_5.2.2.2.2.2.2.2.2.2.1 0) (q_5.2.2.2.2.2.2.2.2.2.2.1 0)), (b 17, oD (b 25) (q_5.2.2.2.2.2.1 1) (q_5.2.2.2.2.2.2.1 1) (q_5.2.2.2.2.2.2.2.1 1) (q_5.2.2.2.2.2.2.2.2.1 1) (q_5.2.2.2.2.2.2.2.2.2.1 1) (q_5.2.2.2.2.2.2.2.2.2.2.1 1)), (b 18, oD (b 26) (q_5.2.2.2.2.2.1 2) (q_5.2.2.2.2.2.2.1 2) (q_5.2.2.2.2.2.2.2.1 2) (q_5.2.2.2.2.2.2.2.2.1 2) (q_5.2.2.2.2.2.2.2.2.2.1 2) (q_5.2.2.2.2.2.2.2.2.2.2.1 2)), (b 19, oD (b 27) (q_5.2.2.2.2.2.1 3) (q_5.2.2.2.2.2.2.1 3) (q_5.2.2.2.2.2.2.2.1 3) (q_5.2.2.2.2.2.2.2.2.1 3) (q_5.2.2.2.2.2.2.2.2.2.1 3) (q_5.2.2.2.2.2.2.2.2.2.2.1 3)), (b 20, oD (b 28) (q_5.2.2.2.2.2.1 4) (q_5.2.2.2.2.2.2.1 4) (q_5.2.2.2.2.2.2.2.1 4) (q_5.2.2.2.2.2.2.2.2.1 4) (q_5.2.2.2.2.2.2.2.2.2.1 4) (q_5.2.2.2.2.2.2.2.2.2.2.1 4)), (b 21, oD (b 29) (q_5.2.2.2.2.2.1 5) (q_5.2.2.2.2.2.2.1 5) (q_5.2.2.2.2.2.2.2.1 5) (q_5.2.2.2.2.2.2.2.2.1 5) (q_5.2.2.2.2.2.2.2.2.2.1 5) (q_5.2.2.2.2.2.2.2.2.2.2.1 5)), (b 22, oD (b 30) (q_5.2.2.2.2.2.1 6) (q_5.2.2.2.2.2.2.1 6) (q_5.2.2.2.2.2.2.2.1 6) (q_5.2.2.2.2.2.2.2.2.1 6) (q_5.2.2.2.2.2.2.2.2.2.1 6) (q_5.2.2.2.2.2.2.2.2.2.2.1 6)), (b 23, oD (b 31) (q_5.2.2.2.2.2.1 7) (q_5.2.2.2.2.2.2.1 7) (q_5.2.2.2.2.2.2.2.1 7) (q_5.2.2.2.2.2.2.2.2.1 7) (q_5.2.2.2.2.2.2.2.2.2.1 7) (q_5.2.2.2.2.2.2.2.2.2.2.1 7)), (b 24, aI cI 56 (q_5.2.2.2.2.2.2.2.2.2.2.2.1 0)), (b 25, aI cI 56 (q_5.2.2.2.2.2.2.2.2.2.2.2.1 1)), (b 26, aI cI 56 (q_5.2.2.2.2.2.2.2.2.2.2.2.1 2)), (b 27, aI cI 56 (q_5.2.2.2.2.2.2.2.2.2.2.2.1 3)), (b 28, aI cI 56 (q_5.2.2.2.2.2.2.2.2.2.2.2.1 4)), (b 29, aI cI 56 (q_5.2.2.2.2.2.2.2.2.2.2.2.1 5)), (b 30, aI cI 56 (q_5.2.2.2.2.2.2.2.2.2.2.2.1 6)), (b 31, aI cI 56 (q_5.2.2.2.2.2.2.2.2.2.2.2.1 7)), ((b 7), oP b q_5.2.2.2.2.2.2.2.2.2.2.2.2.1 q_5.2.2.2.2.2.2.2.2.2.2.2.2.2.1 q_5.2.2.2.2.2.2.2.2.2.2.2.2.2.2.1 q_5.2.2.2.2.2.2.2.2.2.2.2.2.2.2.2.1), ((b 8), aJ cJ 49 q_5.2.2.2.2.2.2.2.2.2.2.2.2.2.2.2.2.1), ((b 9), aJ cJ 49 q_5.2.2.2.2.2.2.2.2.2.2.2.2.2.2.2.2.2.1), ((b 10), oS b q_5.2.2.2.2.2.2.2.2.2.2.2.2.2.2.2.2.2.2 S_cells S_top S_bottom S_left S_right)]) rfl 0 rfl rfl rfl rfl (Nat.le_of_ble_eq_true rfl) dX7_removeCut_35 (fun H locs h => ?_)
      have e9 := Option.some.inj hf
      subst e9
      exact hret _ _ _ _ dX7_removeCut_38 h
    · have hf := oi_t hf hc
      refine x_bipush C (pc := 28) dX7_removeCut_28 (by decide) ?_
      have e9 := Option.some.inj hf
      subst e9
      exact hret _ _ _ _ dX7_removeCut_30 h
  · have hf := oi_t hf hc
    refine x_iconst C (pc := 13) dX7_removeCut_13 ?_
    have e9 := Option.some.inj hf
    subst e9
    exact hret _ _ _ _ dX7_removeCut_14 h
abbrev rm_gp_looseCuts : Room := { frames := 2, cells := 0, slots := 0, locals := 44 }
set_option maxHeartbeats 4000000 in
set_option maxRecDepth 100000 in
theorem c_gp_looseCuts (l : Launch) (D : va_G) (cI cJ cZ cO : ClassId) (b : Nat → Nat) (D_rows : Int) (D_cols : Int) (D_cr : BitVec 64) (D_cb : BitVec 64) (D_cl : Int) (D_kl : Int) (P_all : BitVec 64) (P_jr : BitVec 64) (P_jb : BitVec 64) (P_count : Int) (P_cells : Int → BitVec 64) (N : Nat) (Res : Int) (hf : f_gp_looseCuts N D_cr D_cb P_count P_cells = some Res) : CoI l D (xT cI cJ cZ cO) yX7_looseCuts cX7_looseCuts 1 (some .int) rm_gp_looseCuts [.ref (b 0)] [((b 0), oG b), ((b 3), oD (b 4) D_rows D_cols D_cr D_cb D_cl D_kl), ((b 7), oP b P_all P_jr P_jb P_count), ((b 8), aJ cJ 49 P_cells)] Res [((b 0), oG b), ((b 3), oD (b 4) D_rows D_cols D_cr D_cb D_cl D_kl), ((b 7), oP b P_all P_jr P_jb P_count), ((b 8), aJ cJ 49 P_cells)] := by
  refine co_i (by decide) ⟨rfl, rfl⟩ (Nat.le_of_ble_eq_true rfl) ?_
  intro p e s m args below meth c A Q ls C hret hl h
  have hx := C.1.1
  have hb := C.1.2.1
  have hl : lv_has ls 1 [(0, .ref (b 0))] := hl
  unfold f_gp_looseCuts at hf
  refine lv_aload_n hx hb (pc := 0) dX7_looseCuts_0 rfl (lv_at hl 0 rfl) ?_
  refine x_get C h (pc := 1) xf_X7_35 0 rfl (v := .ref (b 7)) rfl dX7_looseCuts_1 ?_
  obtain ⟨q_1, hq_1, hf⟩ := ob_some hf
  refine x_callVl C h (pc := 4) hl (c_pa_looseRight l D cI cJ cZ cO b D_rows D_cols D_cr D_cb D_cl D_kl P_all P_jr P_jb P_count P_cells N q_1 hq_1) xv_X4_looseRight lk_X7_120 ⟨(Nat.le_of_ble_eq_true rfl), (Nat.le_of_ble_eq_true rfl)⟩ rfl [1, 2, 3] rfl rfl rfl (ws' := [((b 0), oG b), ((b 3), oD (b 4) D_rows D_cols D_cr D_cb D_cl D_kl), ((b 7), oP b P_all P_jr P_jb P_count), ((b 8), aJ cJ 49 P_cells)]) rfl 2 rfl rfl rfl rfl (Nat.le_of_ble_eq_true rfl) dX7_looseCuts_4 (fun H locs h => ?_)
  refine x_callSi C h (pc := 7) hl (c_popc l D (xT cI cJ cZ cO) q_1) xs_J13_bitCount_95d88 lk_X7_124 ⟨(Nat.le_of_ble_eq_true rfl), (Nat.le_of_ble_eq_true rfl)⟩ rfl [] rfl rfl rfl (ws' := [((b 0), oG b), ((b 3), oD (b 4) D_rows D_cols D_cr D_cb D_cl D_kl), ((b 7), oP b P_all P_jr P_jb P_count), ((b 8), aJ cJ 49 P_cells)]) rfl rfl (Nat.le_of_ble_eq_true rfl) dX7_looseCuts_7 (fun H locs h => ?_)
  refine lv_aload_n hx hb (pc := 10) dX7_looseCuts_10 rfl (lv_at hl 0 rfl) ?_
  refine x_get C h (pc := 11) xf_X7_35 0 rfl (v := .ref (b 7)) rfl dX7_looseCuts_11 ?_
  obtain ⟨q_2, hq_2, hf⟩ := ob_some hf
  refine x_callVl C h (pc := 14) hl (c_pa_looseBelow l D cI cJ cZ cO b D_rows D_cols D_cr D_cb D_cl D_kl P_all P_jr P_jb P_count P_cells N q_2 hq_2) xv_X4_looseBelow lk_X7_130 ⟨(Nat.le_of_ble_eq_true rfl), (Nat.le_of_ble_eq_true rfl)⟩ rfl [1, 2, 3] rfl rfl rfl (ws' := [((b 0), oG b), ((b 3), oD (b 4) D_rows D_cols D_cr D_cb D_cl D_kl), ((b 7), oP b P_all P_jr P_jb P_count), ((b 8), aJ cJ 49 P_cells)]) rfl 2 rfl rfl rfl rfl (Nat.le_of_ble_eq_true rfl) dX7_looseCuts_14 (fun H locs h => ?_)
  refine x_callSi C h (pc := 17) hl (c_popc l D (xT cI cJ cZ cO) q_2) xs_J13_bitCount_95d88 lk_X7_124 ⟨(Nat.le_of_ble_eq_true rfl), (Nat.le_of_ble_eq_true rfl)⟩ rfl [] rfl rfl rfl (ws' := [((b 0), oG b), ((b 3), oD (b 4) D_rows D_cols D_cr D_cb D_cl D_kl), ((b 7), oP b P_all P_jr P_jb P_count), ((b 8), aJ cJ 49 P_cells)]) rfl rfl (Nat.le_of_ble_eq_true rfl) dX7_looseCuts_17 (fun H locs h => ?_)
  refine x_iadd C (pc := 20) dX7_looseCuts_20 ?_
  have e9 := Option.some.inj hf
  subst e9
  exact hret _ _ _ _ dX7_looseCuts_21 h
abbrev rm_gp_removeLooseCuts : Room := { frames := 7, cells := 0, slots := 0, locals := 159 }
set_option maxHeartbeats 4000000 in
set_option maxRecDepth 100000 in
theorem w_gp_removeLooseCuts_31 {p : Program} {l : Launch} {e : Env} {s : State} {m : MethodId} {args : Array Value} {below : List Frame} {meth : Method} {c : Code} {Q : State → Prop} {D : va_G} {cI cJ cZ cO : ClassId} {A : Nat → Prop} {H0 : Heap} {w0 : Cond} (C : XC p s m args c cX7_removeLooseCuts 5 RX7 w0 D (xT cI cJ cZ cO)) (b : Nat → Nat) (D_rows : Int) (D_cols : Int) (D_cl : Int) (D_kl : Int) (D_col : Int → Int) (S_cells : BitVec 64) (S_top : Int) (S_bottom : Int) (S_left : Int) (S_right : Int) (Res : Int × BitVec 64 × BitVec 64 × Int × Int × (Int → Int) × (Int → Int) × (Int → BitVec 64) × (Int → BitVec 64) × (Int → Int) × (Int → Int) × (Int → Int → Int) × BitVec 64 × BitVec 64 × BitVec 64 × Int × (Int → BitVec 64) × (Int → BitVec 64) × Int) (hret : XRI p l e rm_gp_removeLooseCuts s m args below meth c cX7_removeLooseCuts D A H0 Q Res.1 [((b 0), oG b), ((b 3), oD (b 4) D_rows D_cols Res.2.1 Res.2.2.1 D_cl D_kl), ((b 4), aI cI 56 D_col), ((b 5), oH b Res.2.2.2.1 Res.2.2.2.2.1), ((b 6), aK cO b), (b 16, oD (b 24) (Res.2.2.2.2.2.1 0) (Res.2.2.2.2.2.2.1 0) (Res.2.2.2.2.2.2.2.1 0) (Res.2.2.2.2.2.2.2.2.1 0) (Res.2.2.2.2.2.2.2.2.2.1 0) (Res.2.2.2.2.2.2.2.2.2.2.1 0)), (b 17, oD (b 25) (Res.2.2.2.2.2.1 1) (Res.2.2.2.2.2.2.1 1) (Res.2.2.2.2.2.2.2.1 1) (Res.2.2.2.2.2.2.2.2.1 1) (Res.2.2.2.2.2.2.2.2.2.1 1) (Res.2.2.2.2.2.2.2.2.2.2.1 1)), (b 18, oD (b 26) (Res.2.2.2.2.2.1 2) (Res.2.2.2.2.2.2.1 2) (Res.2.2.2.2.2.2.2.1 2) (Res.2.2.2.2.2.2.2.2.1 2) (Res.2.2.2.2.2.2.2.2.2.1 2) (Res.2.2.2.2.2.2.2.2.2.2.1 2)), (b 19, oD (b 27) (Res.2.2.2.2.2.1 3) (Res.2.2.2.2.2.2.1 3) (Res.2.2.2.2.2.2.2.1 3) (Res.2.2.2.2.2.2.2.2.1 3) (Res.2.2.2.2.2.2.2.2.2.1 3) (Res.2.2.2.2.2.2.2.2.2.2.1 3)), (b 20, oD (b 28) (Res.2.2.2.2.2.1 4) (Res.2.2.2.2.2.2.1 4) (Res.2.2.2.2.2.2.2.1 4) (Res.2.2.2.2.2.2.2.2.1 4) (Res.2.2.2.2.2.2.2.2.2.1 4) (Res.2.2.2.2.2.2.2.2.2.2.1 4)), (b 21, oD (b 29) (Res.2.2.2.2.2.1 5) (Res.2.2.2.2.2.2.1 5) (Res.2.2.2.2.2.2.2.1 5) (Res.2.2.2.2.2.2.2.2.1 5) (Res.2.2.2.2.2.2.2.2.2.1 5) (Res.2.2.2.2.2.2.2.2.2.2.1 5)), (b 22, oD (b 30) (Res.2.2.2.2.2.1 6) (Res.2.2.2.2.2.2.1 6) (Res.2.2.2.2.2.2.2.1 6) (Res.2.2.2.2.2.2.2.2.1 6) (Res.2.2.2.2.2.2.2.2.2.1 6) (Res.2.2.2.2.2.2.2.2.2.2.1 6)), (b 23, oD (b 31) (Res.2.2.2.2.2.1 7) (Res.2.2.2.2.2.2.1 7) (Res.2.2.2.2.2.2.2.1 7) (Res.2.2.2.2.2.2.2.2.1 7) (Res.2.2.2.2.2.2.2.2.2.1 7) (Res.2.2.2.2.2.2.2.2.2.2.1 7)), (b 24, aI cI 56 (Res.2.2.2.2.2.2.2.2.2.2.2.1 0)), (b 25, aI cI 56 (Res.2.2.2.2.2.2.2.2.2.2.2.1 1)), (b 26, aI cI 56 (Res.2.2.2.2.2.2.2.2.2.2.2.1 2)), (b 27, aI cI 56 (Res.2.2.2.2.2.2.2.2.2.2.2.1 3)), (b 28, aI cI 56 (Res.2.2.2.2.2.2.2.2.2.2.2.1 4)), (b 29, aI cI 56 (Res.2.2.2.2.2.2.2.2.2.2.2.1 5)), (b 30, aI cI 56 (Res.2.2.2.2.2.2.2.2.2.2.2.1 6)), (b 31, aI cI 56 (Res.2.2.2.2.2.2.2.2.2.2.2.1 7)), ((b 7), oP b Res.2.2.2.2.2.2.2.2.2.2.2.2.1 Res.2.2.2.2.2.2.2.2.2.2.2.2.2.1 Res.2.2.2.2.2.2.2.2.2.2.2.2.2.2.1 Res.2.2.2.2.2.2.2.2.2.2.2.2.2.2.2.1), ((b 8), aJ cJ 49 Res.2.2.2.2.2.2.2.2.2.2.2.2.2.2.2.2.1), ((b 9), aJ cJ 49 Res.2.2.2.2.2.2.2.2.2.2.2.2.2.2.2.2.2.1), ((b 10), oS b Res.2.2.2.2.2.2.2.2.2.2.2.2.2.2.2.2.2.2 S_cells S_top S_bottom S_left S_right)]) (N : Nat) : ∀ (l1 : BitVec 64) (l3 : BitVec 64) (D_cr : BitVec 64) (D_cb : BitVec 64) (H_next : Int) (H_count : Int) (K_rows : Int → Int) (K_cols : Int → Int) (K_cr : Int → BitVec 64) (K_cb : Int → BitVec 64) (K_cl : Int → Int) (K_kl : Int → Int) (K_col : Int → Int → Int) (P_all : BitVec 64) (P_jr : BitVec 64) (P_jb : BitVec 64) (P_count : Int) (P_cells : Int → BitVec 64) (P_near : Int → BitVec 64) (S_planned : Int) (ls : Array Slot) (H : Heap) (locs : List Loc), lv_has ls 5 [(0, .ref (b 0)), (1, lv l1), (3, lv l3)] → XH D A H0 [((b 0), oG b), ((b 3), oD (b 4) D_rows D_cols D_cr D_cb D_cl D_kl), ((b 4), aI cI 56 D_col), ((b 5), oH b H_next H_count), ((b 6), aK cO b), (b 16, oD (b 24) (K_rows 0) (K_cols 0) (K_cr 0) (K_cb 0) (K_cl 0) (K_kl 0)), (b 17, oD (b 25) (K_rows 1) (K_cols 1) (K_cr 1) (K_cb 1) (K_cl 1) (K_kl 1)), (b 18, oD (b 26) (K_rows 2) (K_cols 2) (K_cr 2) (K_cb 2) (K_cl 2) (K_kl 2)), (b 19, oD (b 27) (K_rows 3) (K_cols 3) (K_cr 3) (K_cb 3) (K_cl 3) (K_kl 3)), (b 20, oD (b 28) (K_rows 4) (K_cols 4) (K_cr 4) (K_cb 4) (K_cl 4) (K_kl 4)), (b 21, oD (b 29) (K_rows 5) (K_cols 5) (K_cr 5) (K_cb 5) (K_cl 5) (K_kl 5)), (b 22, oD (b 30) (K_rows 6) (K_cols 6) (K_cr 6) (K_cb 6) (K_cl 6) (K_kl 6)), (b 23, oD (b 31) (K_rows 7) (K_cols 7) (K_cr 7) (K_cb 7) (K_cl 7) (K_kl 7)), (b 24, aI cI 56 (K_col 0)), (b 25, aI cI 56 (K_col 1)), (b 26, aI cI 56 (K_col 2)), (b 27, aI cI 56 (K_col 3)), (b 28, aI cI 56 (K_col 4)), (b 29, aI cI 56 (K_col 5)), (b 30, aI cI 56 (K_col 6)), (b 31, aI cI 56 (K_col 7)), ((b 7), oP b P_all P_jr P_jb P_count), ((b 8), aJ cJ 49 P_cells), ((b 9), aJ cJ 49 P_near), ((b 10), oS b S_planned S_cells S_top S_bottom S_left S_right)] H locs → f_gp_removeLooseCuts_31 N D_rows D_cols D_cl D_kl D_col l1 l3 D_cr D_cb H_next H_count K_rows K_cols K_cr K_cb K_cl K_kl K_col P_all P_jr P_jb P_count P_cells P_near S_planned = some Res → W p l e rm_gp_removeLooseCuts s m args below meth c H locs 0 0 Q (F0 m 31 ls []) := by
  have hx := C.1.1
  have hb := C.1.2.1
  intro l1 l3 D_cr D_cb H_next H_count K_rows K_cols K_cr K_cb K_cl K_kl K_col P_all P_jr P_jb P_count P_cells P_near S_planned ls H locs hl h hf
  unfold f_gp_removeLooseCuts_31 at hf
  refine lv_aload_n hx hb (pc := 31) dX7_removeLooseCuts_31 rfl (lv_at hl 0 rfl) ?_
  refine x_get C h (pc := 32) xf_X7_26 0 rfl (v := .ref (b 5)) rfl dX7_removeLooseCuts_32 ?_
  refine lv_aload_n hx hb (pc := 35) dX7_removeLooseCuts_35 rfl (lv_at hl 0 rfl) ?_
  refine x_get C h (pc := 36) xf_X7_19 0 rfl (v := .ref (b 3)) rfl dX7_removeLooseCuts_36 ?_
  obtain ⟨q_3, hq_3, hf⟩ := ob_some hf
  refine x_callVv C h (pc := 39) hl (c_hi_remember l D cI cJ cZ cO b D_rows D_cols D_cr D_cb D_cl D_kl D_col H_next H_count K_rows K_cols K_cr K_cb K_cl K_kl K_col N q_3 hq_3) xv_X3_remember lk_X7_70 ⟨(Nat.le_of_ble_eq_true rfl), (Nat.le_of_ble_eq_true rfl)⟩ rfl [1, 2, 3, 4, 5, 6, 7, 8, 9, 10, 11, 12, 13, 14, 15, 16, 17, 18, 19, 20] rfl rfl rfl (ws' := [((b 0), oG b), ((b 3), oD (b 4) D_rows D_cols D_cr D_cb D_cl D_kl), ((b 4), aI cI 56 D_col), ((b 5), oH b q_3.1 q_3.2.1), ((b 6), aK cO b), (b 16, oD (b 24) (q_3.2.2.1 0) (q_3.2.2.2.1 0) (q_3.2.2.2.2.1 0) (q_3.2.2.2.2.2.1 0) (q_3.2.2.2.2.2.2.1 0) (q_3.2.2.2.2.2.2.2.1 0)), (b 17, oD (b 25) (q_3.2.2.1 1) (q_3.2.2.2.1 1) (q_3.2.2.2.2.1 1) (q_3.2.2.2.2.2.1 1) (q_3.2.2.2.2.2.2.1 1) (q_3.2.2.2.2.2.2.2.1 1)), (b 18, oD (b 26) (q_3.2.2.1 2) (q_3.2.2.2.1 2) (q_3.2.2.2.2.1 2) (q_3.2.2.2.2.2.1 2) (q_3.2.2.2.2.2.2.1 2) (q_3.2.2.2.2.2.2.2.1 2)), (b 19, oD (b 27) (q_3.2.2.1 3) (q_3.2.2.2.1 3) (q_3.2.2.2.2.1 3) (q_3.2.2.2.2.2.1 3) (q_3.2.2.2.2.2.2.1 3) (q_3.2.2.2.2.2.2.2.1 3)), (b 20, oD (b 28) (q_3.2.2.1 4) (q_3.2.2.2.1 4) (q_3.2.2.2.2.1 4) (q_3.2.2.2.2.2.1 4) (q_3.2.2.2.2.2.2.1 4) (q_3.2.2.2.2.2.2.2.1 4)), (b 21, oD (b 29) (q_3.2.2.1 5) (q_3.2.2.2.1 5) (q_3.2.2.2.2.1 5) (q_3.2.2.2.2.2.1 5) (q_3.2.2.2.2.2.2.1 5) (q_3.2.2.2.2.2.2.2.1 5)), (b 22, oD (b 30) (q_3.2.2.1 6) (q_3.2.2.2.1 6) (q_3.2.2.2.2.1 6) (q_3.2.2.2.2.2.1 6) (q_3.2.2.2.2.2.2.1 6) (q_3.2.2.2.2.2.2.2.1 6)), (b 23, oD (b 31) (q_3.2.2.1 7) (q_3.2.2.2.1 7) (q_3.2.2.2.2.1 7) (q_3.2.2.2.2.2.1 7) (q_3.2.2.2.2.2.2.1 7) (q_3.2.2.2.2.2.2.2.1 7)), (b 24, aI cI 56 (q_3.2.2.2.2.2.2.2.2 0)), (b 25, aI cI 56 (q_3.2.2.2.2.2.2.2.2 1)), (b 26, aI cI 56 (q_3.2.2.2.2.2.2.2.2 2)), (b 27, aI cI 56 (q_3.2.2.2.2.2.2.2.2 3)), (b 28, aI cI 56 (q_3.2.2.2.2.2.2.2.2 4)), (b 29, aI cI 56 (q_3.2.2.2.2.2.2.2.2 5)), (b 30, aI cI 56 (q_3.2.2.2.2.2.2.2.2 6)), (b 31, aI cI 56 (q_3.2.2.2.2.2.2.2.2 7)), ((b 7), oP b P_all P_jr P_jb P_count), ((b 8), aJ cJ 49 P_cells), ((b 9), aJ cJ 49 P_near), ((b 10), oS b S_planned S_cells S_top S_bottom S_left S_right)]) rfl 3 rfl rfl rfl rfl (Nat.le_of_ble_eq_true rfl) dX7_removeLooseCuts_39 (fun H locs h => ?_)
  refine lv_aload_n hx hb (pc := 42) dX7_removeLooseCuts_42 rfl (lv_at hl 0 rfl) ?_
  refine x_get C h (pc := 43) xf_X7_19 0 rfl (v := .ref (b 3)) rfl dX7_removeLooseCuts_43 ?_
  refine lv_dup hx hb (pc := 46) dX7_removeLooseCuts_46 rfl ?_
  refine x_get C h (pc := 47) xf_X7_76 1 rfl (v := lv D_cr) rfl dX7_removeLooseCuts_47 ?_
  refine lv_lload_n hx hb (pc := 50) dX7_removeLooseCuts_50 rfl (lv_at hl 1 rfl) ?_
  refine x_ldc2 C (pc := 51) (x := 18446744073709551615#64) wk_X7_133 (by decide) dX7_removeLooseCuts_51 ?_
  refine x_lxor C (pc := 54) dX7_removeLooseCuts_54 ?_
  refine x_land C (pc := 55) dX7_removeLooseCuts_55 ?_
  obtain ⟨D_cr_4, eD_cr_4, hf⟩ := ol_some hf
  refine x_topl eD_cr_4 ?_
  refine x_putl C h (pc := 56) (ws' := [((b 0), oG b), ((b 3), oD (b 4) D_rows D_cols D_cr_4 D_cb D_cl D_kl), ((b 4), aI cI 56 D_col), ((b 5), oH b q_3.1 q_3.2.1), ((b 6), aK cO b), (b 16, oD (b 24) (q_3.2.2.1 0) (q_3.2.2.2.1 0) (q_3.2.2.2.2.1 0) (q_3.2.2.2.2.2.1 0) (q_3.2.2.2.2.2.2.1 0) (q_3.2.2.2.2.2.2.2.1 0)), (b 17, oD (b 25) (q_3.2.2.1 1) (q_3.2.2.2.1 1) (q_3.2.2.2.2.1 1) (q_3.2.2.2.2.2.1 1) (q_3.2.2.2.2.2.2.1 1) (q_3.2.2.2.2.2.2.2.1 1)), (b 18, oD (b 26) (q_3.2.2.1 2) (q_3.2.2.2.1 2) (q_3.2.2.2.2.1 2) (q_3.2.2.2.2.2.1 2) (q_3.2.2.2.2.2.2.1 2) (q_3.2.2.2.2.2.2.2.1 2)), (b 19, oD (b 27) (q_3.2.2.1 3) (q_3.2.2.2.1 3) (q_3.2.2.2.2.1 3) (q_3.2.2.2.2.2.1 3) (q_3.2.2.2.2.2.2.1 3) (q_3.2.2.2.2.2.2.2.1 3)), (b 20, oD (b 28) (q_3.2.2.1 4) (q_3.2.2.2.1 4) (q_3.2.2.2.2.1 4) (q_3.2.2.2.2.2.1 4) (q_3.2.2.2.2.2.2.1 4) (q_3.2.2.2.2.2.2.2.1 4)), (b 21, oD (b 29) (q_3.2.2.1 5) (q_3.2.2.2.1 5) (q_3.2.2.2.2.1 5) (q_3.2.2.2.2.2.1 5) (q_3.2.2.2.2.2.2.1 5) (q_3.2.2.2.2.2.2.2.1 5)), (b 22, oD (b 30) (q_3.2.2.1 6) (q_3.2.2.2.1 6) (q_3.2.2.2.2.1 6) (q_3.2.2.2.2.2.1 6) (q_3.2.2.2.2.2.2.1 6) (q_3.2.2.2.2.2.2.2.1 6)), (b 23, oD (b 31) (q_3.2.2.1 7) (q_3.2.2.2.1 7) (q_3.2.2.2.2.1 7) (q_3.2.2.2.2.2.1 7) (q_3.2.2.2.2.2.2.1 7) (q_3.2.2.2.2.2.2.2.1 7)), (b 24, aI cI 56 (q_3.2.2.2.2.2.2.2.2 0)), (b 25, aI cI 56 (q_3.2.2.2.2.2.2.2.2 1)), (b 26, aI cI 56 (q_3.2.2.2.2.2.2.2.2 2)), (b 27, aI cI 56 (q_3.2.2.2.2.2.2.2.2 3)), (b 28, aI cI 56 (q_3.2.2.2.2.2.2.2.2 4)), (b 29, aI cI 56 (q_3.2.2.2.2.2.2.2.2 5)), (b 30, aI cI 56 (q_3.2.2.2.2.2.2.2.2 6)), (b 31, aI cI 56 (q_3.2.2.2.2.2.2.2.2 7)), ((b 7), oP b P_all P_jr P_jb P_count), ((b 8), aJ cJ 49 P_cells), ((b 9), aJ cJ 49 P_near), ((b 10), oS b S_planned S_cells S_top S_bottom S_left S_right)]) xf_X7_76 xp_X2 rfl 1 rfl rfl (Nat.le_of_ble_eq_true rfl) rfl dX7_removeLooseCuts_56 (fun H locs h => ?_)
  refine lv_aload_n hx hb (pc := 59) dX7_removeLooseCuts_59 rfl (lv_at hl 0 rfl) ?_
  refine x_get C h (pc := 60) xf_X7_19 0 rfl (v := .ref (b 3)) rfl dX7_removeLooseCuts_60 ?_
  refine lv_dup hx hb (pc := 63) dX7_removeLooseCuts_63 rfl ?_
  refine x_get C h (pc := 64) xf_X7_80 1 rfl (v := lv D_cb) rfl dX7_removeLooseCuts_64 ?_
  refine lv_lload_n hx hb (pc := 67) dX7_removeLooseCuts_67 rfl (lv_at hl 2 rfl) ?_
  refine x_ldc2 C (pc := 68) (x := 18446744073709551615#64) wk_X7_133 (by decide) dX7_removeLooseCuts_68 ?_
  refine x_lxor C (pc := 71) dX7_removeLooseCuts_71 ?_
  refine x_land C (pc := 72) dX7_removeLooseCuts_72 ?_
  obtain ⟨D_cb_5, eD_cb_5, hf⟩ := ol_some hf
  refine x_topl eD_cb_5 ?_
  refine x_putl C h (pc := 73) (ws' := [((b 0), oG b), ((b 3), oD (b 4) D_rows D_cols D_cr_4 D_cb_5 D_cl D_kl), ((b 4), aI cI 56 D_col), ((b 5), oH b q_3.1 q_3.2.1), ((b 6), aK cO b), (b 16, oD (b 24) (q_3.2.2.1 0) (q_3.2.2.2.1 0) (q_3.2.2.2.2.1 0) (q_3.2.2.2.2.2.1 0) (q_3.2.2.2.2.2.2.1 0) (q_3.2.2.2.2.2.2.2.1 0)), (b 17, oD (b 25) (q_3.2.2.1 1) (q_3.2.2.2.1 1) (q_3.2.2.2.2.1 1) (q_3.2.2.2.2.2.1 1) (q_3.2.2.2.2.2.2.1 1) (q_3.2.2.2.2.2.2.2.1 1)), (b 18, oD (b 26) (q_3.2.2.1 2) (q_3.2.2.2.1 2) (q_3.2.2.2.2.1 2) (q_3.2.2.2.2.2.1 2) (q_3.2.2.2.2.2.2.1 2) (q_3.2.2.2.2.2.2.2.1 2)), (b 19, oD (b 27) (q_3.2.2.1 3) (q_3.2.2.2.1 3) (q_3.2.2.2.2.1 3) (q_3.2.2.2.2.2.1 3) (q_3.2.2.2.2.2.2.1 3) (q_3.2.2.2.2.2.2.2.1 3)), (b 20, oD (b 28) (q_3.2.2.1 4) (q_3.2.2.2.1 4) (q_3.2.2.2.2.1 4) (q_3.2.2.2.2.2.1 4) (q_3.2.2.2.2.2.2.1 4) (q_3.2.2.2.2.2.2.2.1 4)), (b 21, oD (b 29) (q_3.2.2.1 5) (q_3.2.2.2.1 5) (q_3.2.2.2.2.1 5) (q_3.2.2.2.2.2.1 5) (q_3.2.2.2.2.2.2.1 5) (q_3.2.2.2.2.2.2.2.1 5)), (b 22, oD (b 30) (q_3.2.2.1 6) (q_3.2.2.2.1 6) (q_3.2.2.2.2.1 6) (q_3.2.2.2.2.2.1 6) (q_3.2.2.2.2.2.2.1 6) (q_3.2.2.2.2.2.2.2.1 6)), (b 23, oD (b 31) (q_3.2.2.1 7) (q_3.2.2.2.1 7) (q_3.2.2.2.2.1 7) (q_3.2.2.2.2.2.1 7) (q_3.2.2.2.2.2.2.1 7) (q_3.2.2.2.2.2.2.2.1 7)), (b 24, aI cI 56 (q_3.2.2.2.2.2.2.2.2 0)), (b 25, aI cI 56 (q_3.2.2.2.2.2.2.2.2 1)), (b 26, aI cI 56 (q_3.2.2.2.2.2.2.2.2 2)), (b 27, aI cI 56 (q_3.2.2.2.2.2.2.2.2 3)), (b 28, aI cI 56 (q_3.2.2.2.2.2.2.2.2 4)), (b 29, aI cI 56 (q_3.2.2.2.2.2.2.2.2 5)), (b 30, aI cI 56 (q_3.2.2.2.2.2.2.2.2 6)), (b 31, aI cI 56 (q_3.2.2.2.2.2.2.2.2 7)), ((b 7), oP b P_all P_jr P_jb P_count), ((b 8), aJ cJ 49 P_cells), ((b 9), aJ cJ 49 P_near), ((b 10), oS b S_planned S_cells S_top S_bottom S_left S_right)]) xf_X7_80 xp_X2 rfl 1 rfl rfl (Nat.le_of_ble_eq_true rfl) rfl dX7_removeLooseCuts_73 (fun H locs h => ?_)
  refine lv_aload_n hx hb (pc := 76) dX7_removeLooseCuts_76 rfl (lv_at hl 0 rfl) ?_
  obtain ⟨q_6, hq_6, hf⟩ := ob_some hf
  refine x_callVv C h (pc := 77) hl (c_gp_refresh l D cI cJ cZ cO b D_rows D_cols D_cr_4 D_cb_5 D_cl D_kl D_col P_all P_jr P_jb P_count P_cells P_near S_planned S_cells S_top S_bottom S_left S_right N q_6 hq_6) xv_X7_refresh lk_X7_83 ⟨(Nat.le_of_ble_eq_true rfl), (Nat.le_of_ble_eq_true rfl)⟩ rfl [0, 1, 2, 21, 22, 23, 24] rfl rfl rfl (ws' := [((b 0), oG b), ((b 3), oD (b 4) D_rows D_cols D_cr_4 D_cb_5 D_cl D_kl), ((b 4), aI cI 56 D_col), ((b 5), oH b q_3.1 q_3.2.1), ((b 6), aK cO b), (b 16, oD (b 24) (q_3.2.2.1 0) (q_3.2.2.2.1 0) (q_3.2.2.2.2.1 0) (q_3.2.2.2.2.2.1 0) (q_3.2.2.2.2.2.2.1 0) (q_3.2.2.2.2.2.2.2.1 0)), (b 17, oD (b 25) (q_3.2.2.1 1) (q_3.2.2.2.1 1) (q_3.2.2.2.2.1 1) (q_3.2.2.2.2.2.1 1) (q_3.2.2.2.2.2.2.1 1) (q_3.2.2.2.2.2.2.2.1 1)), (b 18, oD (b 26) (q_3.2.2.1 2) (q_3.2.2.2.1 2) (q_3.2.2.2.2.1 2) (q_3.2.2.2.2.2.1 2) (q_3.2.2.2.2.2.2.1 2) (q_3.2.2.2.2.2.2.2.1 2)), (b 19, oD (b 27) (q_3.2.2.1 3) (q_3.2.2.2.1 3) (q_3.2.2.2.2.1 3) (q_3.2.2.2.2.2.1 3) (q_3.2.2.2.2.2.2.1 3) (q_3.2.2.2.2.2.2.2.1 3)), (b 20, oD (b 28) (q_3.2.2.1 4) (q_3.2.2.2.1 4) (q_3.2.2.2.2.1 4) (q_3.2.2.2.2.2.1 4) (q_3.2.2.2.2.2.2.1 4) (q_3.2.2.2.2.2.2.2.1 4)), (b 21, oD (b 29) (q_3.2.2.1 5) (q_3.2.2.2.1 5) (q_3.2.2.2.2.1 5) (q_3.2.2.2.2.2.1 5) (q_3.2.2.2.2.2.2.1 5) (q_3.2.2.2.2.2.2.2.1 5)), (b 22, oD (b 30) (q_3.2.2.1 6) (q_3.2.2.2.1 6) (q_3.2.2.2.2.1 6) (q_3.2.2.2.2.2.1 6) (q_3.2.2.2.2.2.2.1 6) (q_3.2.2.2.2.2.2.2.1 6)), (b 23, oD (b 31) (q_3.2.2.1 7) (q_3.2.2.2.1 7) (q_3.2.2.2.2.1 7) (q_3.2.2.2.2.2.1 7) (q_3.2.2.2.2.2.2.1 7) (q_3.2.2.2.2.2.2.2.1 7)), (b 24, aI cI 56 (q_3.2.2.2.2.2.2.2.2 0)), (b 25, aI cI 56 (q_3.2.2.2.2.2.2.2.2 1)), (b 26, aI cI 56 (q_3.2.2.2.2.2.2.2.2 2)), (b 27, aI cI 56 (q_3.2.2.2.2.2.2.2.2 3)), (b 28, aI cI 56 (q_3.2.2.2.2.2.2.2.2 4)), (b 29, aI cI 56 (q_3.2.2.2.2.2.2.2.2 5)), (b 30, aI cI 56 (q_3.2.2.2.2.2.2.2.2 6)), (b 31, aI cI 56 (q_3.2.2.2.2.2.2.2.2 7)), ((b 7), oP b q_6.1 q_6.2.1 q_6.2.2.1 q_6.2.2.2.1), ((b 8), aJ cJ 49 q_6.2.2.2.2.1), ((b 9), aJ cJ 49 q_6.2.2.2.2.2.1), ((b 10), oS b q_6.2.2.2.2.2.2 S_cells S_top S_bottom S_left S_right)]) rfl 0 rfl rfl rfl rfl (Nat.le_of_ble_eq_true rfl) dX7_removeLooseCuts_77 (fun H locs h => ?_)
  refine lv_lload_n hx hb (pc := 80) dX7_removeLooseCuts_80 rfl (lv_at hl 1 rfl) ?_
  refine x_callSi C h (pc := 81) hl (c_popc l D (xT cI cJ cZ cO) l1) xs_J13_bitCount_95d88 lk_X7_124 ⟨(Nat.le_of_ble_eq_true rfl), (Nat.le_of_ble_eq_true rfl)⟩ rfl [] rfl rfl rfl (ws' := [((b 0), oG b), ((b 3), oD (b 4) D_rows D_cols D_cr_4 D_cb_5 D_cl D_kl), ((b 4), aI cI 56 D_col), ((b 5), oH b q_3.1 q_3.2.1), ((b 6), aK cO b), (b 16, oD (b 24) (q_3.2.2.1 0) (q_3.2.2.2.1 0) (q_3.2.2.2.2.1 0) (q_3.2.2.2.2.2.1 0) (q_3.2.2.2.2.2.2.1 0) (q_3.2.2.2.2.2.2.2.1 0)), (b 17, oD (b 25) (q_3.2.2.1 1) (q_3.2.2.2.1 1) (q_3.2.2.2.2.1 1) (q_3.2.2.2.2.2.1 1) (q_3.2.2.2.2.2.2.1 1) (q_3.2.2.2.2.2.2.2.1 1)), (b 18, oD (b 26) (q_3.2.2.1 2) (q_3.2.2.2.1 2) (q_3.2.2.2.2.1 2) (q_3.2.2.2.2.2.1 2) (q_3.2.2.2.2.2.2.1 2) (q_3.2.2.2.2.2.2.2.1 2)), (b 19, oD (b 27) (q_3.2.2.1 3) (q_3.2.2.2.1 3) (q_3.2.2.2.2.1 3) (q_3.2.2.2.2.2.1 3) (q_3.2.2.2.2.2.2.1 3) (q_3.2.2.2.2.2.2.2.1 3)), (b 20, oD (b 28) (q_3.2.2.1 4) (q_3.2.2.2.1 4) (q_3.2.2.2.2.1 4) (q_3.2.2.2.2.2.1 4) (q_3.2.2.2.2.2.2.1 4) (q_3.2.2.2.2.2.2.2.1 4)), (b 21, oD (b 29) (q_3.2.2.1 5) (q_3.2.2.2.1 5) (q_3.2.2.2.2.1 5) (q_3.2.2.2.2.2.1 5) (q_3.2.2.2.2.2.2.1 5) (q_3.2.2.2.2.2.2.2.1 5)), (b 22, oD (b 30) (q_3.2.2.1 6) (q_3.2.2.2.1 6) (q_3.2.2.2.2.1 6) (q_3.2.2.2.2.2.1 6) (q_3.2.2.2.2.2.2.1 6) (q_3.2.2.2.2.2.2.2.1 6)), (b 23, oD (b 31) (q_3.2.2.1 7) (q_3.2.2.2.1 7) (q_3.2.2.2.2.1 7) (q_3.2.2.2.2.2.1 7) (q_3.2.2.2.2.2.2.1 7) (q_3.2.2.2.2.2.2.2.1 7)), (b 24, aI cI 56 (q_3.2.2.2.2.2.2.2.2 0)), (b 25, aI cI 56 (q_3.2.2.2.2.2.2.2.2 1)), (b 26, aI cI 56 (q_3.2.2.2.2.2.2.2.2 2)), (b 27, aI cI 56 (q_3.2.2.2.2.2.2.2.2 3)), (b 28, aI cI 56 (q_3.2.2.2.2.2.2.2.2 4)), (b 29, aI cI 56 (q_3.2.2.2.2.2.2.2.2 5)), (b 30, aI cI 56 (q_3.2.2.2.2.2.2.2.2 6)), (b 31, aI cI 56 (q_3.2.2.2.2.2.2.2.2 7)), ((b 7), oP b q_6.1 q_6.2.1 q_6.2.2.1 q_6.2.2.2.1), ((b 8), aJ cJ 49 q_6.2.2.2.2.1), ((b 9), aJ cJ 49 q_6.2.2.2.2.2.1), ((b 10), oS b q_6.2.2.2.2.2.2 S_cells S_top S_bottom S_left S_right)]) rfl rfl (Nat.le_of_ble_eq_true rfl) dX7_removeLooseCuts_81 (fun H locs h => ?_)
  refine lv_lload_n hx hb (pc := 84) dX7_removeLooseCuts_84 rfl (lv_at hl 2 rfl) ?_
  refine x_callSi C h (pc := 85) hl (c_popc l D (xT cI cJ cZ cO) l3) xs_J13_bitCount_95d88 lk_X7_124 ⟨(Nat.le_of_ble_eq_true rfl), (Nat.le_of_ble_eq_true rfl)⟩ rfl [] rfl rfl rfl (ws' := [((b 0), oG b), ((b 3), oD (b 4) D_rows D_cols D_cr_4 D_cb_5 D_cl D_kl), ((b 4), aI cI 56 D_col), ((b 5), oH b q_3.1 q_3.2.1), ((b 6), aK cO b), (b 16, oD (b 24) (q_3.2.2.1 0) (q_3.2.2.2.1 0) (q_3.2.2.2.2.1 0) (q_3.2.2.2.2.2.1 0) (q_3.2.2.2.2.2.2.1 0) (q_3.2.2.2.2.2.2.2.1 0)), (b 17, oD (b 25) (q_3.2.2.1 1) (q_3.2.2.2.1 1) (q_3.2.2.2.2.1 1) (q_3.2.2.2.2.2.1 1) (q_3.2.2.2.2.2.2.1 1) (q_3.2.2.2.2.2.2.2.1 1)), (b 18, oD (b 26) (q_3.2.2.1 2) (q_3.2.2.2.1 2) (q_3.2.2.2.2.1 2) (q_3.2.2.2.2.2.1 2) (q_3.2.2.2.2.2.2.1 2) (q_3.2.2.2.2.2.2.2.1 2)), (b 19, oD (b 27) (q_3.2.2.1 3) (q_3.2.2.2.1 3) (q_3.2.2.2.2.1 3) (q_3.2.2.2.2.2.1 3) (q_3.2.2.2.2.2.2.1 3) (q_3.2.2.2.2.2.2.2.1 3)), (b 20, oD (b 28) (q_3.2.2.1 4) (q_3.2.2.2.1 4) (q_3.2.2.2.2.1 4) (q_3.2.2.2.2.2.1 4) (q_3.2.2.2.2.2.2.1 4) (q_3.2.2.2.2.2.2.2.1 4)), (b 21, oD (b 29) (q_3.2.2.1 5) (q_3.2.2.2.1 5) (q_3.2.2.2.2.1 5) (q_3.2.2.2.2.2.1 5) (q_3.2.2.2.2.2.2.1 5) (q_3.2.2.2.2.2.2.2.1 5)), (b 22, oD (b 30) (q_3.2.2.1 6) (q_3.2.2.2.1 6) (q_3.2.2.2.2.1 6) (q_3.2.2.2.2.2.1 6) (q_3.2.2.2.2.2.2.1 6) (q_3.2.2.2.2.2.2.2.1 6)), (b 23, oD (b 31) (q_3.2.2.1 7) (q_3.2.2.2.1 7) (q_3.2.2.2.2.1 7) (q_3.2.2.2.2.2.1 7) (q_3.2.2.2.2.2.2.1 7) (q_3.2.2.2.2.2.2.2.1 7)), (b 24, aI cI 56 (q_3.2.2.2.2.2.2.2.2 0)), (b 25, aI cI 56 (q_3.2.2.2.2.2.2.2.2 1)), (b 26, aI cI 56 (q_3.2.2.2.2.2.2.2.2 2)), (b 27, aI cI 56 (q_3.2.2.2.2.2.2.2.2 3)), (b 28, aI cI 56 (q_3.2.2.2.2.2.2.2.2 4)), (b 29, aI cI 56 (q_3.2.2.2.2.2.2.2.2 5)), (b 30, aI cI 56 (q_3.2.2.2.2.2.2.2.2 6)), (b 31, aI cI 56 (q_3.2.2.2.2.2.2.2.2 7)), ((b 7), oP b q_6.1 q_6.2.1 q_6.2.2.1 q_6.2.2.2.1), ((b 8), aJ cJ 49 q_6.2.2.2.2.1), ((b 9), aJ cJ 49 q_6.2.2.2.2.2.1), ((b 10), oS b q_6.2.2.2.2.2.2 S_cells S_top S_bottom S_left S_right)]) rfl rfl (Nat.le_of_ble_eq_true rfl) dX7_removeLooseCuts_85 (fun H locs h => ?_)
  refine x_iadd C (pc := 88) dX7_removeLooseCuts_88 ?_
  have e9 := Option.some.inj hf
  subst e9
  exact hret _ _ _ _ dX7_removeLooseCuts_89 h
set_option maxHeartbeats 4000000 in
set_option maxRecDepth 100000 in
theorem c_gp_removeLooseCuts (l : Launch) (D : va_G) (cI cJ cZ cO : ClassId) (b : Nat → Nat) (D_rows : Int) (D_cols : Int) (D_cr : BitVec 64) (D_cb : BitVec 64) (D_cl : Int) (D_kl : Int) (D_col : Int → Int) (H_next : Int) (H_count : Int) (K_rows : Int → Int) (K_cols : Int → Int) (K_cr : Int → BitVec 64) (K_cb : Int → BitVec 64) (K_cl : Int → Int) (K_kl : Int → Int) (K_col : Int → Int → Int) (P_all : BitVec 64) (P_jr : BitVec 64) (P_jb : BitVec 64) (P_count : Int) (P_cells : Int → BitVec 64) (P_near : Int → BitVec 64) (S_planned : Int) (S_cells : BitVec 64) (S_top : Int) (S_bottom : Int) (S_left : Int) (S_right : Int) (N : Nat) (Res : Int × BitVec 64 × BitVec 64 × Int × Int × (Int → Int) × (Int → Int) × (Int → BitVec 64) × (Int → BitVec 64) × (Int → Int) × (Int → Int) × (Int → Int → Int) × BitVec 64 × BitVec 64 × BitVec 64 × Int × (Int → BitVec 64) × (Int → BitVec 64) × Int) (hf : f_gp_removeLooseCuts N D_rows D_cols D_cr D_cb D_cl D_kl D_col H_next H_count K_rows K_cols K_cr K_cb K_cl K_kl K_col P_all P_jr P_jb P_count P_cells P_near S_planned = some Res) : CoI l D (xT cI cJ cZ cO) yX7_removeLooseCuts cX7_removeLooseCuts 5 (some .int) rm_gp_removeLooseCuts [.ref (b 0)] [((b 0), oG b), ((b 3), oD (b 4) D_rows D_cols D_cr D_cb D_cl D_kl), ((b 4), aI cI 56 D_col), ((b 5), oH b H_next H_count), ((b 6), aK cO b), (b 16, oD (b 24) (K_rows 0) (K_cols 0) (K_cr 0) (K_cb 0) (K_cl 0) (K_kl 0)), (b 17, oD (b 25) (K_rows 1) (K_cols 1) (K_cr 1) (K_cb 1) (K_cl 1) (K_kl 1)), (b 18, oD (b 26) (K_rows 2) (K_cols 2) (K_cr 2) (K_cb 2) (K_cl 2) (K_kl 2)), (b 19, oD (b 27) (K_rows 3) (K_cols 3) (K_cr 3) (K_cb 3) (K_cl 3) (K_kl 3)), (b 20, oD (b 28) (K_rows 4) (K_cols 4) (K_cr 4) (K_cb 4) (K_cl 4) (K_kl 4)), (b 21, oD (b 29) (K_rows 5) (K_cols 5) (K_cr 5) (K_cb 5) (K_cl 5) (K_kl 5)), (b 22, oD (b 30) (K_rows 6) (K_cols 6) (K_cr 6) (K_cb 6) (K_cl 6) (K_kl 6)), (b 23, oD (b 31) (K_rows 7) (K_cols 7) (K_cr 7) (K_cb 7) (K_cl 7) (K_kl 7)), (b 24, aI cI 56 (K_col 0)), (b 25, aI cI 56 (K_col 1)), (b 26, aI cI 56 (K_col 2)), (b 27, aI cI 56 (K_col 3)), (b 28, aI cI 56 (K_col 4)), (b 29, aI cI 56 (K_col 5)), (b 30, aI cI 56 (K_col 6)), (b 31, aI cI 56 (K_col 7)), ((b 7), oP b P_all P_jr P_jb P_count), ((b 8), aJ cJ 49 P_cells), ((b 9), aJ cJ 49 P_near), ((b 10), oS b S_planned S_cells S_top S_bottom S_left S_right)] Res.1 [((b 0), oG b), ((b 3), oD (b 4) D_rows D_cols Res.2.1 Res.2.2.1 D_cl D_kl), ((b 4), aI cI 56 D_col), ((b 5), oH b Res.2.2.2.1 Res.2.2.2.2.1), ((b 6), aK cO b), (b 16, oD (b 24) (Res.2.2.2.2.2.1 0) (Res.2.2.2.2.2.2.1 0) (Res.2.2.2.2.2.2.2.1 0) (Res.2.2.2.2.2.2.2.2.1 0) (Res.2.2.2.2.2.2.2.2.2.1 0) (Res.2.2.2.2.2.2.2.2.2.2.1 0)), (b 17, oD (b 25) (Res.2.2.2.2.2.1 1) (Res.2.2.2.2.2.2.1 1) (Res.2.2.2.2.2.2.2.1 1) (Res.2.2.2.2.2.2.2.2.1 1) (Res.2.2.2.2.2.2.2.2.2.1 1) (Res.2.2.2.2.2.2.2.2.2.2.1 1)), (b 18, oD (b 26) (Res.2.2.2.2.2.1 2) (Res.2.2.2.2.2.2.1 2) (Res.2.2.2.2.2.2.2.1 2) (Res.2.2.2.2.2.2.2.2.1 2) (Res.2.2.2.2.2.2.2.2.2.1 2) (Res.2.2.2.2.2.2.2.2.2.2.1 2)), (b 19, oD (b 27) (Res.2.2.2.2.2.1 3) (Res.2.2.2.2.2.2.1 3) (Res.2.2.2.2.2.2.2.1 3) (Res.2.2.2.2.2.2.2.2.1 3) (Res.2.2.2.2.2.2.2.2.2.1 3) (Res.2.2.2.2.2.2.2.2.2.2.1 3)), (b 20, oD (b 28) (Res.2.2.2.2.2.1 4) (Res.2.2.2.2.2.2.1 4) (Res.2.2.2.2.2.2.2.1 4) (Res.2.2.2.2.2.2.2.2.1 4) (Res.2.2.2.2.2.2.2.2.2.1 4) (Res.2.2.2.2.2.2.2.2.2.2.1 4)), (b 21, oD (b 29) (Res.2.2.2.2.2.1 5) (Res.2.2.2.2.2.2.1 5) (Res.2.2.2.2.2.2.2.1 5) (Res.2.2.2.2.2.2.2.2.1 5) (Res.2.2.2.2.2.2.2.2.2.1 5) (Res.2.2.2.2.2.2.2.2.2.2.1 5)), (b 22, oD (b 30) (Res.2.2.2.2.2.1 6) (Res.2.2.2.2.2.2.1 6) (Res.2.2.2.2.2.2.2.1 6) (Res.2.2.2.2.2.2.2.2.1 6) (Res.2.2.2.2.2.2.2.2.2.1 6) (Res.2.2.2.2.2.2.2.2.2.2.1 6)), (b 23, oD (b 31) (Res.2.2.2.2.2.1 7) (Res.2.2.2.2.2.2.1 7) (Res.2.2.2.2.2.2.2.1 7) (Res.2.2.2.2.2.2.2.2.1 7) (Res.2.2.2.2.2.2.2.2.2.1 7) (Res.2.2.2.2.2.2.2.2.2.2.1 7)), (b 24, aI cI 56 (Res.2.2.2.2.2.2.2.2.2.2.2.1 0)), (b 25, aI cI 56 (Res.2.2.2.2.2.2.2.2.2.2.2.1 1)), (b 26, aI cI 56 (Res.2.2.2.2.2.2.2.2.2.2.2.1 2)), (b 27, aI cI 56 (Res.2.2.2.2.2.2.2.2.2.2.2.1 3)), (b 28, aI cI 56 (Res.2.2.2.2.2.2.2.2.2.2.2.1 4)), (b 29, aI cI 56 (Res.2.2.2.2.2.2.2.2.2.2.2.1 5)), (b 30, aI cI 56 (Res.2.2.2.2.2.2.2.2.2.2.2.1 6)), (b 31, aI cI 56 (Res.2.2.2.2.2.2.2.2.2.2.2.1 7)), ((b 7), oP b Res.2.2.2.2.2.2.2.2.2.2.2.2.1 Res.2.2.2.2.2.2.2.2.2.2.2.2.2.1 Res.2.2.2.2.2.2.2.2.2.2.2.2.2.2.1 Res.2.2.2.2.2.2.2.2.2.2.2.2.2.2.2.1), ((b 8), aJ cJ 49 Res.2.2.2.2.2.2.2.2.2.2.2.2.2.2.2.2.1), ((b 9), aJ cJ 49 Res.2.2.2.2.2.2.2.2.2.2.2.2.2.2.2.2.2.1), ((b 10), oS b Res.2.2.2.2.2.2.2.2.2.2.2.2.2.2.2.2.2.2 S_cells S_top S_bottom S_left S_right)] := by
  refine co_i (by decide) ⟨rfl, rfl⟩ (Nat.le_of_ble_eq_true rfl) ?_
  intro p e s m args below meth c A Q ls C hret hl h
  have hx := C.1.1
  have hb := C.1.2.1
  have hl : lv_has ls 5 [(0, .ref (b 0))] := hl
  unfold f_gp_removeLooseCuts at hf
  refine lv_aload_n hx hb (pc := 0) dX7_removeLooseCuts_0 rfl (lv_at hl 0 rfl) ?_
  refine x_get C h (pc := 1) xf_X7_35 0 rfl (v := .ref (b 7)) rfl dX7_removeLooseCuts_1 ?_
  obtain ⟨q_1, hq_1, hf⟩ := ob_some hf
  refine x_callVl C h (pc := 4) hl (c_pa_looseRight l D cI cJ cZ cO b D_rows D_cols D_cr D_cb D_cl D_kl P_all P_jr P_jb P_count P_cells N q_1 hq_1) xv_X4_looseRight lk_X7_120 ⟨(Nat.le_of_ble_eq_true rfl), (Nat.le_of_ble_eq_true rfl)⟩ rfl [1, 21, 22] rfl rfl rfl (ws' := [((b 0), oG b), ((b 3), oD (b 4) D_rows D_cols D_cr D_cb D_cl D_kl), ((b 4), aI cI 56 D_col), ((b 5), oH b H_next H_count), ((b 6), aK cO b), (b 16, oD (b 24) (K_rows 0) (K_cols 0) (K_cr 0) (K_cb 0) (K_cl 0) (K_kl 0)), (b 17, oD (b 25) (K_rows 1) (K_cols 1) (K_cr 1) (K_cb 1) (K_cl 1) (K_kl 1)), (b 18, oD (b 26) (K_rows 2) (K_cols 2) (K_cr 2) (K_cb 2) (K_cl 2) (K_kl 2)), (b 19, oD (b 27) (K_rows 3) (K_cols 3) (K_cr 3) (K_cb 3) (K_cl 3) (K_kl 3)), (b 20, oD (b 28) (K_rows 4) (K_cols 4) (K_cr 4) (K_cb 4) (K_cl 4) (K_kl 4)), (b 21, oD (b 29) (K_rows 5) (K_cols 5) (K_cr 5) (K_cb 5) (K_cl 5) (K_kl 5)), (b 22, oD (b 30) (K_rows 6) (K_cols 6) (K_cr 6) (K_cb 6) (K_cl 6) (K_kl 6)), (b 23, oD (b 31) (K_rows 7) (K_cols 7) (K_cr 7) (K_cb 7) (K_cl 7) (K_kl 7)), (b 24, aI cI 56 (K_col 0)), (b 25, aI cI 56 (K_col 1)), (b 26, aI cI 56 (K_col 2)), (b 27, aI cI 56 (K_col 3)), (b 28, aI cI 56 (K_col 4)), (b 29, aI cI 56 (K_col 5)), (b 30, aI cI 56 (K_col 6)), (b 31, aI cI 56 (K_col 7)), ((b 7), oP b P_all P_jr P_jb P_count), ((b 8), aJ cJ 49 P_cells), ((b 9), aJ cJ 49 P_near), ((b 10), oS b S_planned S_cells S_top S_bottom S_left S_right)]) rfl 21 rfl rfl rfl rfl (Nat.le_of_ble_eq_true rfl) dX7_removeLooseCuts_4 (fun H locs h => ?_)
  refine lv_lstore_n hx hb (pc := 7) (lv' := [(1, lv q_1), (0, .ref (b 0))]) dX7_removeLooseCuts_7 rfl hl (Nat.le_of_ble_eq_true rfl) rfl (fun ls hl => ?_)
  refine lv_aload_n hx hb (pc := 8) dX7_removeLooseCuts_8 rfl (lv_at hl 1 rfl) ?_
  refine x_get C h (pc := 9) xf_X7_35 0 rfl (v := .ref (b 7)) rfl dX7_removeLooseCuts_9 ?_
  obtain ⟨q_2, hq_2, hf⟩ := ob_some hf
  refine x_callVl C h (pc := 12) hl (c_pa_looseBelow l D cI cJ cZ cO b D_rows D_cols D_cr D_cb D_cl D_kl P_all P_jr P_jb P_count P_cells N q_2 hq_2) xv_X4_looseBelow lk_X7_130 ⟨(Nat.le_of_ble_eq_true rfl), (Nat.le_of_ble_eq_true rfl)⟩ rfl [1, 21, 22] rfl rfl rfl (ws' := [((b 0), oG b), ((b 3), oD (b 4) D_rows D_cols D_cr D_cb D_cl D_kl), ((b 4), aI cI 56 D_col), ((b 5), oH b H_next H_count), ((b 6), aK cO b), (b 16, oD (b 24) (K_rows 0) (K_cols 0) (K_cr 0) (K_cb 0) (K_cl 0) (K_kl 0)), (b 17, oD (b 25) (K_rows 1) (K_cols 1) (K_cr 1) (K_cb 1) (K_cl 1) (K_kl 1)), (b 18, oD (b 26) (K_rows 2) (K_cols 2) (K_cr 2) (K_cb 2) (K_cl 2) (K_kl 2)), (b 19, oD (b 27) (K_rows 3) (K_cols 3) (K_cr 3) (K_cb 3) (K_cl 3) (K_kl 3)), (b 20, oD (b 28) (K_rows 4) (K_cols 4) (K_cr 4) (K_cb 4) (K_cl 4) (K_kl 4)), (b 21, oD (b 29) (K_rows 5) (K_cols 5) (K_cr 5) (K_cb 5) (K_cl 5) (K_kl 5)), (b 22, oD (b 30) (K_rows 6) (K_cols 6) (K_cr 6) (K_cb 6) (K_cl 6) (K_kl 6)), (b 23, oD (b 31) (K_rows 7) (K_cols 7) (K_cr 7) (K_cb 7) (K_cl 7) (K_kl 7)), (b 24, aI cI 56 (K_col 0)), (b 25, aI cI 56 (K_col 1)), (b 26, aI cI 56 (K_col 2)), (b 27, aI cI 56 (K_col 3)), (b 28, aI cI 56 (K_col 4)), (b 29, aI cI 56 (K_col 5)), (b 30, aI cI 56 (K_col 6)), (b 31, aI cI 56 (K_col 7)), ((b 7), oP b P_all P_jr P_jb P_count), ((b 8), aJ cJ 49 P_cells), ((b 9), aJ cJ 49 P_near), ((b 10), oS b S_planned S_cells S_top S_bottom S_left S_right)]) rfl 21 rfl rfl rfl rfl (Nat.le_of_ble_eq_true rfl) dX7_removeLooseCuts_12 (fun H locs h => ?_)
  refine lv_lstore_n hx hb (pc := 15) (lv' := [(3, lv q_2), (1, lv q_1), (0, .ref (b 0))]) dX7_removeLooseCuts_15 rfl hl (Nat.le_of_ble_eq_true rfl) rfl (fun ls hl => ?_)
  refine lv_lload_n hx hb (pc := 16) dX7_removeLooseCuts_16 rfl (lv_at hl 1 rfl) ?_
  refine x_lconst C (pc := 17) (x := 0#64) rfl dX7_removeLooseCuts_17 ?_
  refine x_lcmpne C (pc := 18) (tgt := 31) dX7_removeLooseCuts_18 dX7_removeLooseCuts_19 rfl (fun hc => ?_) (fun hc => ?_)
  · have hf := oi_f hf hc
    exact w_gp_removeLooseCuts_31 C b D_rows D_cols D_cl D_kl D_col S_cells S_top S_bottom S_left S_right Res hret N q_1 q_2 D_cr D_cb H_next H_count K_rows K_cols K_cr K_cb K_cl K_kl K_col P_all P_jr P_jb P_count P_cells P_near S_planned _ _ _ (lv_sub hl [2, 1, 0] rfl) h hf
  · have hf := oi_t hf hc
    refine lv_lload_n hx hb (pc := 22) dX7_removeLooseCuts_22 rfl (lv_at hl 0 rfl) ?_
    refine x_lconst C (pc := 23) (x := 0#64) rfl dX7_removeLooseCuts_23 ?_
    refine x_lcmpne C (pc := 24) (tgt := 31) dX7_removeLooseCuts_24 dX7_removeLooseCuts_25 rfl (fun hc => ?_) (fun hc => ?_)
    · have hf := oi_f hf hc
      exact w_gp_removeLooseCuts_31 C b D_rows D_cols D_cl D_kl D_col S_cells S_top S_bottom S_left S_right Res hret N q_1 q_2 D_cr D_cb H_next H_count K_rows K_cols K_cr K_cb K_cl K_kl K_col P_all P_jr P_jb P_count P_cells P_near S_planned _ _ _ (lv_sub hl [2, 1, 0] rfl) h hf
    · have hf := oi_t hf hc
      refine x_bipush C (pc := 28) dX7_removeLooseCuts_28 (by decide) ?_
      have e9 := Option.some.inj hf
      subst e9
      exact hret _ _ _ _ dX7_removeLooseCuts_30 h
abbrev rm_gp_paneCount : Room := { frames := 0, cells := 0, slots := 0, locals := 0 }
set_option maxHeartbeats 4000000 in
set_option maxRecDepth 100000 in
theorem c_gp_paneCount (l : Launch) (D : va_G) (cI cJ cZ cO : ClassId) (b : Nat → Nat) (P_all : BitVec 64) (P_jr : BitVec 64) (P_jb : BitVec 64) (P_count : Int) (N : Nat) (Res : Int) (hf : f_gp_paneCount N P_count = some Res) : CoI l D (xT cI cJ cZ cO) yX7_paneCount cX7_paneCount 1 (some .int) rm_gp_paneCount [.ref (b 0)] [((b 0), oG b), ((b 7), oP b P_all P_jr P_jb P_count)] Res [((b 0), oG b), ((b 7), oP b P_all P_jr P_jb P_count)] := by
  refine co_i (by decide) ⟨rfl, rfl⟩ (Nat.le_of_ble_eq_true rfl) ?_
  intro p e s m args below meth c A Q ls C hret hl h
  have hx := C.1.1
  have hb := C.1.2.1
  have hl : lv_has ls 1 [(0, .ref (b 0))] := hl
  unfold f_gp_paneCount at hf
  refine lv_aload_n hx hb (pc := 0) dX7_paneCount_0 rfl (lv_at hl 0 rfl) ?_
  refine x_get C h (pc := 1) xf_X7_35 0 rfl (v := .ref (b 7)) rfl dX7_paneCount_1 ?_
  refine x_get C h (pc := 4) xf_X7_86 1 rfl (v := iv P_count) rfl dX7_paneCount_4 ?_
  have e9 := Option.some.inj hf
  subst e9
  exact hret _ _ _ _ dX7_paneCount_7 h
abbrev rm_gp_paneAt : Room := { frames := 2, cells := 0, slots := 0, locals := 42 }
set_option maxHeartbeats 4000000 in
set_option maxRecDepth 100000 in
theorem c_gp_paneAt (l : Launch) (D : va_G) (cI cJ cZ cO : ClassId) (b : Nat → Nat) (D_rows : Int) (D_cols : Int) (D_cr : BitVec 64) (D_cb : BitVec 64) (D_cl : Int) (D_kl : Int) (P_all : BitVec 64) (P_jr : BitVec 64) (P_jb : BitVec 64) (P_count : Int) (P_cells : Int → BitVec 64) (l1 : Int) (l2 : Int) (N : Nat) (Res : Int) (hf : f_gp_paneAt N l1 l2 D_rows D_cols P_count P_cells = some Res) : CoI l D (xT cI cJ cZ cO) yX7_paneAt cX7_paneAt 3 (some .int) rm_gp_paneAt [.ref (b 0), iv l1, iv l2] [((b 0), oG b), ((b 3), oD (b 4) D_rows D_cols D_cr D_cb D_cl D_kl), ((b 7), oP b P_all P_jr P_jb P_count), ((b 8), aJ cJ 49 P_cells)] Res [((b 0), oG b), ((b 3), oD (b 4) D_rows D_cols D_cr D_cb D_cl D_kl), ((b 7), oP b P_all P_jr P_jb P_count), ((b 8), aJ cJ 49 P_cells)] := by
  refine co_i (by decide) ⟨rfl, rfl⟩ (Nat.le_of_ble_eq_true rfl) ?_
  intro p e s m args below meth c A Q ls C hret hl h
  have hx := C.1.1
  have hb := C.1.2.1
  have hl : lv_has ls 3 [(0, .ref (b 0)), (1, iv l1), (2, iv l2)] := hl
  unfold f_gp_paneAt at hf
  refine lv_aload_n hx hb (pc := 0) dX7_paneAt_0 rfl (lv_at hl 0 rfl) ?_
  refine x_get C h (pc := 1) xf_X7_19 0 rfl (v := .ref (b 3)) rfl dX7_paneAt_1 ?_
  refine lv_iload_n hx hb (pc := 4) dX7_paneAt_4 rfl (lv_at hl 1 rfl) ?_
  refine lv_iload_n hx hb (pc := 5) dX7_paneAt_5 rfl (lv_at hl 2 rfl) ?_
  obtain ⟨q_1, hq_1, hf⟩ := ob_some hf
  refine x_callVi C h (pc := 6) hl (c_dr_hasCell l D cI cJ cZ cO (b 3) (b 4) D_rows D_cols D_cr D_cb D_cl D_kl l1 l2 N q_1 hq_1) xv_X2_hasCell lk_X7_89 ⟨(Nat.le_of_ble_eq_true rfl), (Nat.le_of_ble_eq_true rfl)⟩ rfl [1] rfl rfl rfl (ws' := [((b 0), oG b), ((b 3), oD (b 4) D_rows D_cols D_cr D_cb D_cl D_kl), ((b 7), oP b P_all P_jr P_jb P_count), ((b 8), aJ cJ 49 P_cells)]) rfl 1 rfl rfl rfl rfl (Nat.le_of_ble_eq_true rfl) dX7_paneAt_6 (fun H locs h => ?_)
  obtain ⟨g_2, hf⟩ := og_some hf
  refine x_ifne C (pc := 9) (tgt := 14) g_2 dX7_paneAt_9 rfl (fun hc => ?_) (fun hc => ?_)
  · have hf := oi_f hf hc
    refine lv_aload_n hx hb (pc := 14) dX7_paneAt_14 rfl (lv_at hl 0 rfl) ?_
    refine x_get C h (pc := 15) xf_X7_35 0 rfl (v := .ref (b 7)) rfl dX7_paneAt_15 ?_
    refine lv_iload_n hx hb (pc := 18) dX7_paneAt_18 rfl (lv_at hl 1 rfl) ?_
    refine lv_iload_n hx hb (pc := 19) dX7_paneAt_19 rfl (lv_at hl 2 rfl) ?_
    obtain ⟨q_3, hq_3, hf⟩ := ob_some hf
    refine x_callSl C h (pc := 20) hl (c_ce_only l D cI cJ cZ cO l1 l2 N q_3 hq_3) xs_X0_only lk_X7_135 ⟨(Nat.le_of_ble_eq_true rfl), (Nat.le_of_ble_eq_true rfl)⟩ rfl [] rfl rfl rfl (ws' := [((b 0), oG b), ((b 3), oD (b 4) D_rows D_cols D_cr D_cb D_cl D_kl), ((b 7), oP b P_all P_jr P_jb P_count), ((b 8), aJ cJ 49 P_cells)]) rfl rfl (Nat.le_of_ble_eq_true rfl) dX7_paneAt_20 (fun H locs h => ?_)
    obtain ⟨q_4, hq_4, hf⟩ := ob_some hf
    refine x_callVi C h (pc := 23) hl (c_pa_numberOf l D cI cJ cZ cO b P_all P_jr P_jb P_count P_cells q_3 N q_4 hq_4) xv_X4_numberOf lk_X7_139 ⟨(Nat.le_of_ble_eq_true rfl), (Nat.le_of_ble_eq_true rfl)⟩ rfl [2, 3] rfl rfl rfl (ws' := [((b 0), oG b), ((b 3), oD (b 4) D_rows D_cols D_cr D_cb D_cl D_kl), ((b 7), oP b P_all P_jr P_jb P_count), ((b 8), aJ cJ 49 P_cells)]) rfl 2 rfl rfl rfl rfl (Nat.le_of_ble_eq_true rfl) dX7_paneAt_23 (fun H locs h => ?_)
    have e9 := Option.some.inj hf
    subst e9
    exact hret _ _ _ _ dX7_paneAt_26 h
  · have hf := oi_t hf hc
    refine x_iconst C (pc := 12) dX7_paneAt_12 ?_
    have e9 := Option.some.inj hf
    subst e9
    exact hret _ _ _ _ dX7_paneAt_13 h
abbrev rm_gp_paneSize : Room := { frames := 1, cells := 0, slots := 0, locals := 21 }
set_option maxHeartbeats 4000000 in
set_option maxRecDepth 100000 in
theorem c_gp_paneSize (l : Launch) (D : va_G) (cI cJ cZ cO : ClassId) (b : Nat → Nat) (P_all : BitVec 64) (P_jr : BitVec 64) (P_jb : BitVec 64) (P_count : Int) (P_cells : Int → BitVec 64) (l1 : Int) (N : Nat) (Res : Int) (hf : f_gp_paneSize N l1 P_count P_cells = some Res) : CoI l D (xT cI cJ cZ cO) yX7_paneSize cX7_paneSize 2 (some .int) rm_gp_paneSize [.ref (b 0), iv l1] [((b 0), oG b), ((b 7), oP b P_all P_jr P_jb P_count), ((b 8), aJ cJ 49 P_cells)] Res [((b 0), oG b), ((b 7), oP b P_all P_jr P_jb P_count), ((b 8), aJ cJ 49 P_cells)] := by
  refine co_i (by decide) ⟨rfl, rfl⟩ (Nat.le_of_ble_eq_true rfl) ?_
  intro p e s m args below meth c A Q ls C hret hl h
  have hx := C.1.1
  have hb := C.1.2.1
  have hl : lv_has ls 2 [(0, .ref (b 0)), (1, iv l1)] := hl
  unfold f_gp_paneSize at hf
  refine lv_aload_n hx hb (pc := 0) dX7_paneSize_0 rfl (lv_at hl 0 rfl) ?_
  refine x_get C h (pc := 1) xf_X7_35 0 rfl (v := .ref (b 7)) rfl dX7_paneSize_1 ?_
  refine lv_iload_n hx hb (pc := 4) dX7_paneSize_4 rfl (lv_at hl 1 rfl) ?_
  obtain ⟨q_1, hq_1, hf⟩ := ob_some hf
  refine x_callVi C h (pc := 5) hl (c_pa_hasPane l D cI cJ cZ cO b P_all P_jr P_jb P_count l1 N q_1 hq_1) xv_X4_hasPane lk_X7_142 ⟨(Nat.le_of_ble_eq_true rfl), (Nat.le_of_ble_eq_true rfl)⟩ rfl [1] rfl rfl rfl (ws' := [((b 0), oG b), ((b 7), oP b P_all P_jr P_jb P_count), ((b 8), aJ cJ 49 P_cells)]) rfl 1 rfl rfl rfl rfl (Nat.le_of_ble_eq_true rfl) dX7_paneSize_5 (fun H locs h => ?_)
  obtain ⟨g_2, hf⟩ := og_some hf
  refine x_ifne C (pc := 8) (tgt := 13) g_2 dX7_paneSize_8 rfl (fun hc => ?_) (fun hc => ?_)
  · have hf := oi_f hf hc
    refine lv_aload_n hx hb (pc := 13) dX7_paneSize_13 rfl (lv_at hl 0 rfl) ?_
    refine x_get C h (pc := 14) xf_X7_35 0 rfl (v := .ref (b 7)) rfl dX7_paneSize_14 ?_
    refine x_get C h (pc := 17) xf_X7_145 1 rfl (v := .ref (b 8)) rfl dX7_paneSize_17 ?_
    refine lv_iload_n hx hb (pc := 20) dX7_paneSize_20 rfl (lv_at hl 1 rfl) ?_
    obtain ⟨g_3, hf⟩ := og_some hf
    refine x_lald C h (pc := 21) 2 1 rfl rfl (Nat.le_of_ble_eq_true rfl) g_3 dX7_paneSize_21 ?_
    refine x_callSi C h (pc := 22) hl (c_popc l D (xT cI cJ cZ cO) (P_cells l1)) xs_J13_bitCount_95d88 lk_X7_124 ⟨(Nat.le_of_ble_eq_true rfl), (Nat.le_of_ble_eq_true rfl)⟩ rfl [] rfl rfl rfl (ws' := [((b 0), oG b), ((b 7), oP b P_all P_jr P_jb P_count), ((b 8), aJ cJ 49 P_cells)]) rfl rfl (Nat.le_of_ble_eq_true rfl) dX7_paneSize_22 (fun H locs h => ?_)
    have e9 := Option.some.inj hf
    subst e9
    exact hret _ _ _ _ dX7_paneSize_25 h
  · have hf := oi_t hf hc
    refine x_iconst C (pc := 11) dX7_paneSize_11 ?_
    have e9 := Option.some.inj hf
    subst e9
    exact hret _ _ _ _ dX7_paneSize_12 h
abbrev rm_gp_innerCorners : Room := { frames := 2, cells := 0, slots := 0, locals := 52 }
set_option maxHeartbeats 4000000 in
set_option maxRecDepth 100000 in
theorem c_gp_innerCorners (l : Launch) (D : va_G) (cI cJ cZ cO : ClassId) (b : Nat → Nat) (P_all : BitVec 64) (P_jr : BitVec 64) (P_jb : BitVec 64) (P_count : Int) (P_cells : Int → BitVec 64) (l1 : Int) (N : Nat) (Res : Int) (hf : f_gp_innerCorners N l1 P_count P_cells = some Res) : CoI l D (xT cI cJ cZ cO) yX7_innerCorners cX7_innerCorners 2 (some .int) rm_gp_innerCorners [.ref (b 0), iv l1] [((b 0), oG b), ((b 7), oP b P_all P_jr P_jb P_count), ((b 8), aJ cJ 49 P_cells)] Res [((b 0), oG b), ((b 7), oP b P_all P_jr P_jb P_count), ((b 8), aJ cJ 49 P_cells)] := by
  refine co_i (by decide) ⟨rfl, rfl⟩ (Nat.le_of_ble_eq_true rfl) ?_
  intro p e s m args below meth c A Q ls C hret hl h
  have hx := C.1.1
  have hb := C.1.2.1
  have hl : lv_has ls 2 [(0, .ref (b 0)), (1, iv l1)] := hl
  unfold f_gp_innerCorners at hf
  refine lv_aload_n hx hb (pc := 0) dX7_innerCorners_0 rfl (lv_at hl 0 rfl) ?_
  refine x_get C h (pc := 1) xf_X7_35 0 rfl (v := .ref (b 7)) rfl dX7_innerCorners_1 ?_
  refine lv_iload_n hx hb (pc := 4) dX7_innerCorners_4 rfl (lv_at hl 1 rfl) ?_
  obtain ⟨q_1, hq_1, hf⟩ := ob_some hf
  refine x_callVi C h (pc := 5) hl (c_pa_hasPane l D cI cJ cZ cO b P_all P_jr P_jb P_count l1 N q_1 hq_1) xv_X4_hasPane lk_X7_142 ⟨(Nat.le_of_ble_eq_true rfl), (Nat.le_of_ble_eq_true rfl)⟩ rfl [1] rfl rfl rfl (ws' := [((b 0), oG b), ((b 7), oP b P_all P_jr P_jb P_count), ((b 8), aJ cJ 49 P_cells)]) rfl 1 rfl rfl rfl rfl (Nat.le_of_ble_eq_true rfl) dX7_innerCorners_5 (fun H locs h => ?_)
  obtain ⟨g_2, hf⟩ := og_some hf
  refine x_ifne C (pc := 8) (tgt := 13) g_2 dX7_innerCorners_8 rfl (fun hc => ?_) (fun hc => ?_)
  · have hf := oi_f hf hc
    refine lv_aload_n hx hb (pc := 13) dX7_innerCorners_13 rfl (lv_at hl 0 rfl) ?_
    refine x_get C h (pc := 14) xf_X7_35 0 rfl (v := .ref (b 7)) rfl dX7_innerCorners_14 ?_
    refine x_get C h (pc := 17) xf_X7_145 1 rfl (v := .ref (b 8)) rfl dX7_innerCorners_17 ?_
    refine lv_iload_n hx hb (pc := 20) dX7_innerCorners_20 rfl (lv_at hl 1 rfl) ?_
    obtain ⟨g_3, hf⟩ := og_some hf
    refine x_lald C h (pc := 21) 2 1 rfl rfl (Nat.le_of_ble_eq_true rfl) g_3 dX7_innerCorners_21 ?_
    obtain ⟨q_4, hq_4, hf⟩ := ob_some hf
    refine x_callSi C h (pc := 22) hl (c_ce_countInnerCorners l D cI cJ cZ cO (P_cells l1) N q_4 hq_4) xs_X0_countInnerCorners lk_X7_149 ⟨(Nat.le_of_ble_eq_true rfl), (Nat.le_of_ble_eq_true rfl)⟩ rfl [] rfl rfl rfl (ws' := [((b 0), oG b), ((b 7), oP b P_all P_jr P_jb P_count), ((b 8), aJ cJ 49 P_cells)]) rfl rfl (Nat.le_of_ble_eq_true rfl) dX7_innerCorners_22 (fun H locs h => ?_)
    have e9 := Option.some.inj hf
    subst e9
    exact hret _ _ _ _ dX7_innerCorners_25 h
  · have hf := oi_t hf hc
    refine x_iconst C (pc := 11) dX7_innerCorners_11 ?_
    have e9 := Option.some.inj hf
    subst e9
    exact hret _ _ _ _ dX7_innerCorners_12 h
abbrev rm_gp_holes : Room := { frames := 2, cells := 0, slots := 0, locals := 61 }
set_option maxHeartbeats 4000000 in
set_option maxRecDepth 100000 in
theorem c_gp_holes (l : Launch) (D : va_G) (cI cJ cZ cO : ClassId) (b : Nat → Nat) (P_all : BitVec 64) (P_jr : BitVec 64) (P_jb : BitVec 64) (P_count : Int) (P_cells : Int → BitVec 64) (l1 : Int) (N : Nat) (Res : Int) (hf : f_gp_holes N l1 P_all P_count P_cells = some Res) : CoI l D (xT cI cJ cZ cO) yX7_holes cX7_holes 2 (some .int) rm_gp_holes [.ref (b 0), iv l1] [((b 0), oG b), ((b 7), oP b P_all P_jr P_jb P_count), ((b 8), aJ cJ 49 P_cells)] Res [((b 0), oG b), ((b 7), oP b P_all P_jr P_jb P_count), ((b 8), aJ cJ 49 P_cells)] := by
  refine co_i (by decide) ⟨rfl, rfl⟩ (Nat.le_of_ble_eq_true rfl) ?_
  intro p e s m args below meth c A Q ls C hret hl h
  have hx := C.1.1
  have hb := C.1.2.1
  have hl : lv_has ls 2 [(0, .ref (b 0)), (1, iv l1)] := hl
  unfold f_gp_holes at hf
  refine lv_aload_n hx hb (pc := 0) dX7_holes_0 rfl (lv_at hl 0 rfl) ?_
  refine x_get C h (pc := 1) xf_X7_35 0 rfl (v := .ref (b 7)) rfl dX7_holes_1 ?_
  refine lv_iload_n hx hb (pc := 4) dX7_holes_4 rfl (lv_at hl 1 rfl) ?_
  obtain ⟨q_1, hq_1, hf⟩ := ob_some hf
  refine x_callVi C h (pc := 5) hl (c_pa_hasPane l D cI cJ cZ cO b P_all P_jr P_jb P_count l1 N q_1 hq_1) xv_X4_hasPane lk_X7_142 ⟨(Nat.le_of_ble_eq_true rfl), (Nat.le_of_ble_eq_true rfl)⟩ rfl [1] rfl rfl rfl (ws' := [((b 0), oG b), ((b 7), oP b P_all P_jr P_jb P_count), ((b 8), aJ cJ 49 P_cells)]) rfl 1 rfl rfl rfl rfl (Nat.le_of_ble_eq_true rfl) dX7_holes_5 (fun H locs h => ?_)
  obtain ⟨g_2, hf⟩ := og_some hf
  refine x_ifne C (pc := 8) (tgt := 13) g_2 dX7_holes_8 rfl (fun hc => ?_) (fun hc => ?_)
  · have hf := oi_f hf hc
    refine lv_aload_n hx hb (pc := 13) dX7_holes_13 rfl (lv_at hl 0 rfl) ?_
    refine x_get C h (pc := 14) xf_X7_35 0 rfl (v := .ref (b 7)) rfl dX7_holes_14 ?_
    refine x_get C h (pc := 17) xf_X7_145 1 rfl (v := .ref (b 8)) rfl dX7_holes_17 ?_
    refine lv_iload_n hx hb (pc := 20) dX7_holes_20 rfl (lv_at hl 1 rfl) ?_
    obtain ⟨g_3, hf⟩ := og_some hf
    refine x_lald C h (pc := 21) 2 1 rfl rfl (Nat.le_of_ble_eq_true rfl) g_3 dX7_holes_21 ?_
    refine lv_aload_n hx hb (pc := 22) dX7_holes_22 rfl (lv_at hl 0 rfl) ?_
    refine x_get C h (pc := 23) xf_X7_35 0 rfl (v := .ref (b 7)) rfl dX7_holes_23 ?_
    refine x_get C h (pc := 26) xf_X7_152 1 rfl (v := lv P_all) rfl dX7_holes_26 ?_
    obtain ⟨q_4, hq_4, hf⟩ := ob_some hf
    refine x_callSi C h (pc := 29) hl (c_ce_countHoles l D cI cJ cZ cO (P_cells l1) P_all N q_4 hq_4) xs_X0_countHoles lk_X7_155 ⟨(Nat.le_of_ble_eq_true rfl), (Nat.le_of_ble_eq_true rfl)⟩ rfl [] rfl rfl rfl (ws' := [((b 0), oG b), ((b 7), oP b P_all P_jr P_jb P_count), ((b 8), aJ cJ 49 P_cells)]) rfl rfl (Nat.le_of_ble_eq_true rfl) dX7_holes_29 (fun H locs h => ?_)
    have e9 := Option.some.inj hf
    subst e9
    exact hret _ _ _ _ dX7_holes_32 h
  · have hf := oi_t hf hc
    refine x_iconst C (pc := 11) dX7_holes_11 ?_
    have e9 := Option.some.inj hf
    subst e9
    exact hret _ _ _ _ dX7_holes_12 h
abbrev rm_gp_canBeCut : Room := { frames := 3, cells := 0, slots := 0, locals := 83 }
set_option maxHeartbeats 4000000 in
set_option maxRecDepth 100000 in
theorem c_gp_canBeCut (l : Launch) (D : va_G) (cI cJ cZ cO : ClassId) (b : Nat → Nat) (D_rows : Int) (D_cols : Int) (D_cr : BitVec 64) (D_cb : BitVec 64) (D_cl : Int) (D_kl : Int) (P_all : BitVec 64) (P_jr : BitVec 64) (P_jb : BitVec 64) (P_count : Int) (P_cells : Int → BitVec 64) (l1 : Int) (N : Nat) (Res : Int) (hf : f_gp_canBeCut N l1 D_cl D_kl P_all P_count P_cells = some Res) : CoI l D (xT cI cJ cZ cO) yX7_canBeCut cX7_canBeCut 2 (some .int) rm_gp_canBeCut [.ref (b 0), iv l1] [((b 0), oG b), ((b 3), oD (b 4) D_rows D_cols D_cr D_cb D_cl D_kl), ((b 7), oP b P_all P_jr P_jb P_count), ((b 8), aJ cJ 49 P_cells)] Res [((b 0), oG b), ((b 3), oD (b 4) D_rows D_cols D_cr D_cb D_cl D_kl), ((b 7), oP b P_all P_jr P_jb P_count), ((b 8), aJ cJ 49 P_cells)] := by
  refine co_i (by decide) ⟨rfl, rfl⟩ (Nat.le_of_ble_eq_true rfl) ?_
  intro p e s m args below meth c A Q ls C hret hl h
  have hx := C.1.1
  have hb := C.1.2.1
  have hl : lv_has ls 2 [(0, .ref (b 0)), (1, iv l1)] := hl
  unfold f_gp_canBeCut at hf
  refine lv_aload_n hx hb (pc := 0) dX7_canBeCut_0 rfl (lv_at hl 0 rfl) ?_
  refine x_get C h (pc := 1) xf_X7_35 0 rfl (v := .ref (b 7)) rfl dX7_canBeCut_1 ?_
  refine lv_iload_n hx hb (pc := 4) dX7_canBeCut_4 rfl (lv_at hl 1 rfl) ?_
  obtain ⟨q_1, hq_1, hf⟩ := ob_some hf
  refine x_callVi C h (pc := 5) hl (c_pa_hasPane l D cI cJ cZ cO b P_all P_jr P_jb P_count l1 N q_1 hq_1) xv_X4_hasPane lk_X7_142 ⟨(Nat.le_of_ble_eq_true rfl), (Nat.le_of_ble_eq_true rfl)⟩ rfl [2] rfl rfl rfl (ws' := [((b 0), oG b), ((b 3), oD (b 4) D_rows D_cols D_cr D_cb D_cl D_kl), ((b 7), oP b P_all P_jr P_jb P_count), ((b 8), aJ cJ 49 P_cells)]) rfl 2 rfl rfl rfl rfl (Nat.le_of_ble_eq_true rfl) dX7_canBeCut_5 (fun H locs h => ?_)
  obtain ⟨g_2, hf⟩ := og_some hf
  refine x_ifne C (pc := 8) (tgt := 13) g_2 dX7_canBeCut_8 rfl (fun hc => ?_) (fun hc => ?_)
  · have hf := oi_f hf hc
    refine lv_aload_n hx hb (pc := 13) dX7_canBeCut_13 rfl (lv_at hl 0 rfl) ?_
    refine x_get C h (pc := 14) xf_X7_35 0 rfl (v := .ref (b 7)) rfl dX7_canBeCut_14 ?_
    refine lv_aload_n hx hb (pc := 17) dX7_canBeCut_17 rfl (lv_at hl 0 rfl) ?_
    refine x_get C h (pc := 18) xf_X7_35 0 rfl (v := .ref (b 7)) rfl dX7_canBeCut_18 ?_
    refine x_get C h (pc := 21) xf_X7_145 2 rfl (v := .ref (b 8)) rfl dX7_canBeCut_21 ?_
    refine lv_iload_n hx hb (pc := 24) dX7_canBeCut_24 rfl (lv_at hl 1 rfl) ?_
    obtain ⟨g_3, hf⟩ := og_some hf
    refine x_lald C h (pc := 25) 3 1 rfl rfl (Nat.le_of_ble_eq_true rfl) g_3 dX7_canBeCut_25 ?_
    obtain ⟨q_4, hq_4, hf⟩ := ob_some hf
    refine x_callVi C h (pc := 26) hl (c_pa_isEasy l D cI cJ cZ cO b D_rows D_cols D_cr D_cb D_cl D_kl P_all P_jr P_jb P_count (P_cells l1) N q_4 hq_4) xv_X4_isEasy lk_X7_159 ⟨(Nat.le_of_ble_eq_true rfl), (Nat.le_of_ble_eq_true rfl)⟩ rfl [1, 2] rfl rfl rfl (ws' := [((b 0), oG b), ((b 3), oD (b 4) D_rows D_cols D_cr D_cb D_cl D_kl), ((b 7), oP b P_all P_jr P_jb P_count), ((b 8), aJ cJ 49 P_cells)]) rfl 2 rfl rfl rfl rfl (Nat.le_of_ble_eq_true rfl) dX7_canBeCut_26 (fun H locs h => ?_)
    obtain ⟨g_5, hf⟩ := og_some hf
    refine x_ifeq C (pc := 29) (tgt := 36) g_5 dX7_canBeCut_29 rfl (fun hc => ?_) (fun hc => ?_)
    · have hf := oi_t hf hc
      refine x_iconst C (pc := 36) dX7_canBeCut_36 ?_
      have e9 := Option.some.inj hf
      subst e9
      exact hret _ _ _ _ dX7_canBeCut_37 h
    · have hf := oi_f hf hc
      refine x_iconst C (pc := 32) dX7_canBeCut_32 ?_
      refine lv_goto hx hb (pc := 33) (tgt := 37) dX7_canBeCut_33 rfl ?_
      have e9 := Option.some.inj hf
      subst e9
      exact hret _ _ _ _ dX7_canBeCut_37 h
  · have hf := oi_t hf hc
    refine x_iconst C (pc := 11) dX7_canBeCut_11 ?_
    have e9 := Option.some.inj hf
    subst e9
    exact hret _ _ _ _ dX7_canBeCut_12 h
abbrev rm_gp_cuttableCount : Room := { frames := 3, cells := 0, slots := 0, locals := 83 }
set_option maxHeartbeats 4000000 in
set_option maxRecDepth 100000 in
theorem w_gp_cuttableCount_4 {p : Program} {l : Launch} {e : Env} {s : State} {m : MethodId} {args : Array Value} {below : List Frame} {meth : Method} {c : Code} {Q : State → Prop} {D : va_G} {cI cJ cZ cO : ClassId} {A : Nat → Prop} {H0 : Heap} {w0 : Cond} (C : XC p s m args c cX7_cuttableCount 3 RX7 w0 D (xT cI cJ cZ cO)) (b : Nat → Nat) (D_rows : Int) (D_cols : Int) (D_cr : BitVec 64) (D_cb : BitVec 64) (D_cl : Int) (D_kl : Int) (P_all : BitVec 64) (P_jr : BitVec 64) (P_jb : BitVec 64) (P_count : Int) (P_cells : Int → BitVec 64) (Res : Int) (hret : XRI p l e rm_gp_cuttableCount s m args below meth c cX7_cuttableCount D A H0 Q Res [((b 0), oG b), ((b 3), oD (b 4) D_rows D_cols D_cr D_cb D_cl D_kl), ((b 7), oP b P_all P_jr P_jb P_count), ((b 8), aJ cJ 49 P_cells)]) (N : Nat) : ∀ (n : Nat) (l1 : Int) (l2 : Int) (ls : Array Slot) (H : Heap) (locs : List Loc), lv_has ls 3 [(0, .ref (b 0)), (1, iv l1), (2, iv l2)] → XH D A H0 [((b 0), oG b), ((b 3), oD (b 4) D_rows D_cols D_cr D_cb D_cl D_kl), ((b 7), oP b P_all P_jr P_jb P_count), ((b 8), aJ cJ 49 P_cells)] H locs → f_gp_cuttableCount_4 N D_cl D_kl P_all P_count P_cells n l1 l2 = some Res → W p l e rm_gp_cuttableCount s m args below meth c H locs 0 0 Q (F0 m 4 ls []) := by
  have hx := C.1.1
  have hb := C.1.2.1
  intro n
  induction n with
  | zero => intro l1 l2 ls H locs hl h hf; cases hf
  | succ n ih =>
    intro l1 l2 ls H locs hl h hf
    rw [f_gp_cuttableCount_4.eq_2] at hf
    refine lv_iload_n hx hb (pc := 4) dX7_cuttableCount_4 rfl (lv_at hl 2 rfl) ?_
    refine lv_aload_n hx hb (pc := 5) dX7_cuttableCount_5 rfl (lv_at hl 0 rfl) ?_
    refine x_get C h (pc := 6) xf_X7_35 0 rfl (v := .ref (b 7)) rfl dX7_cuttableCount_6 ?_
    refine x_get C h (pc := 9) xf_X7_86 2 rfl (v := iv P_count) rfl dX7_cuttableCount_9 ?_
    obtain ⟨g_1, hf⟩ := og_some hf
    obtain ⟨g_2, hf⟩ := og_some hf
    refine x_icmpge C (pc := 12) (tgt := 43) g_1 g_2 dX7_cuttableCount_12 rfl (fun hc => ?_) (fun hc => ?_)
    · have hf := oi_t hf hc
      refine lv_iload_n hx hb (pc := 43) dX7_cuttableCount_43 rfl (lv_at hl 1 rfl) ?_
      have e9 := Option.some.inj hf
      subst e9
      exact hret _ _ _ _ dX7_cuttableCount_44 h
    · have hf := oi_f hf hc
      refine lv_aload_n hx hb (pc := 15) dX7_cuttableCount_15 rfl (lv_at hl 0 rfl) ?_
      refine x_get C h (pc := 16) xf_X7_35 0 rfl (v := .ref (b 7)) rfl dX7_cuttableCount_16 ?_
      refine lv_aload_n hx hb (pc := 19) dX7_cuttableCount_19 rfl (lv_at hl 0 rfl) ?_
      refine x_get C h (pc := 20) xf_X7_35 0 rfl (v := .ref (b 7)) rfl dX7_cuttableCount_20 ?_
      refine x_get C h (pc := 23) xf_X7_145 2 rfl (v := .ref (b 8)) rfl dX7_cuttableCount_23 ?_
      refine lv_iload_n hx hb (pc := 26) dX7_cuttableCount_26 rfl (lv_at hl 2 rfl) ?_
      obtain ⟨g_3, hf⟩ := og_some hf
      refine x_lald C h (pc := 27) 3 1 rfl rfl (Nat.le_of_ble_eq_true rfl) g_3 dX7_cuttableCount_27 ?_
      obtain ⟨q_4, hq_4, hf⟩ := ob_some hf
      refine x_callVi C h (pc := 28) hl (c_pa_isEasy l D cI cJ cZ cO b D_rows D_cols D_cr D_cb D_cl D_kl P_all P_jr P_jb P_count (P_cells l2) N q_4 hq_4) xv_X4_isEasy lk_X7_159 ⟨(Nat.le_of_ble_eq_true rfl), (Nat.le_of_ble_eq_true rfl)⟩ rfl [1, 2] rfl rfl rfl (ws' := [((b 0), oG b), ((b 3), oD (b 4) D_rows D_cols D_cr D_cb D_cl D_kl), ((b 7), oP b P_all P_jr P_jb P_count), ((b 8), aJ cJ 49 P_cells)]) rfl 2 rfl rfl rfl rfl (Nat.le_of_ble_eq_true rfl) dX7_cuttableCount_28 (fun H locs h => ?_)
      obtain ⟨g_5, hf⟩ := og_some hf
      obtain ⟨r_9, hrr_9, hf⟩ := ob_some hf
      have Jr_9 : ∀ (ls : Array Slot) (H : Heap) (locs : List Loc), lv_has ls 3 [(0, .ref (b 0)), (1, iv r_9.1), (2, iv r_9.2)] → XH D A H0 [((b 0), oG b), ((b 3), oD (b 4) D_rows D_cols D_cr D_cb D_cl D_kl), ((b 7), oP b P_all P_jr P_jb P_count), ((b 8), aJ cJ 49 P_cells)] H locs → W p l e rm_gp_cuttableCount s m args below meth c H locs 0 0 Q (F0 m 4 ls []) := by
        intro ls H locs hl h
        exact ih r_9.1 r_9.2 _ _ _ (lv_sub hl [0, 1, 2] rfl) h hf
      clear hf
      have hf := hrr_9
      refine x_ifeq C (pc := 31) (tgt := 37) g_5 dX7_cuttableCount_31 rfl (fun hc => ?_) (fun hc => ?_)
      · have hf := oi_t hf hc
        obtain ⟨l2_6, el2_6, hf⟩ := ol_some hf
        refine x_iinc C (pc := 37) (k := 2) (lw' := [(2, iv l2_6), (0, .ref (b 0)), (1, iv l1)]) dX7_cuttableCount_37 hl rfl el2_6 (Nat.le_of_ble_eq_true rfl) rfl (fun ls hl => ?_)
        refine lv_goto hx hb (pc := 40) (tgt := 4) dX7_cuttableCount_40 rfl ?_
        have e9 := Option.some.inj hf
        subst e9
        exact Jr_9 _ _ _ (lv_sub hl [1, 2, 0] rfl) h
      · have hf := oi_f hf hc
        obtain ⟨l1_7, el1_7, hf⟩ := ol_some hf
        refine x_iinc C (pc := 34) (k := 1) (lw' := [(1, iv l1_7), (0, .ref (b 0)), (2, iv l2)]) dX7_cuttableCount_34 hl rfl el1_7 (Nat.le_of_ble_eq_true rfl) rfl (fun ls hl => ?_)
        obtain ⟨l2_8, el2_8, hf⟩ := ol_some hf
        refine x_iinc C (pc := 37) (k := 2) (lw' := [(2, iv l2_8), (1, iv l1_7), (0, .ref (b 0))]) dX7_cuttableCount_37 hl rfl el2_8 (Nat.le_of_ble_eq_true rfl) rfl (fun ls hl => ?_)
        refine lv_goto hx hb (pc := 40) (tgt := 4) dX7_cuttableCount_40 rfl ?_
        have e9 := Option.some.inj hf
        subst e9
        exact Jr_9 _ _ _ (lv_sub hl [2, 1, 0] rfl) h
set_option maxHeartbeats 4000000 in
set_option maxRecDepth 100000 in
theorem c_gp_cuttableCount (l : Launch) (D : va_G) (cI cJ cZ cO : ClassId) (b : Nat → Nat) (D_rows : Int) (D_cols : Int) (D_cr : BitVec 64) (D_cb : BitVec 64) (D_cl : Int) (D_kl : Int) (P_all : BitVec 64) (P_jr : BitVec 64) (P_jb : BitVec 64) (P_count : Int) (P_cells : Int → BitVec 64) (N : Nat) (Res : Int) (hf : f_gp_cuttableCount N D_cl D_kl P_all P_count P_cells = some Res) : CoI l D (xT cI cJ cZ cO) yX7_cuttableCount cX7_cuttableCount 3 (some .int) rm_gp_cuttableCount [.ref (b 0)] [((b 0), oG b), ((b 3), oD (b 4) D_rows D_cols D_cr D_cb D_cl D_kl), ((b 7), oP b P_all P_jr P_jb P_count), ((b 8), aJ cJ 49 P_cells)] Res [((b 0), oG b), ((b 3), oD (b 4) D_rows D_cols D_cr D_cb D_cl D_kl), ((b 7), oP b P_all P_jr P_jb P_count), ((b 8), aJ cJ 49 P_cells)] := by
  refine co_i (by decide) ⟨rfl, rfl⟩ (Nat.le_of_ble_eq_true rfl) ?_
  intro p e s m args below meth c A Q ls C hret hl h
  have hx := C.1.1
  have hb := C.1.2.1
  have hl : lv_has ls 3 [(0, .ref (b 0))] := hl
  unfold f_gp_cuttableCount at hf
  refine x_iconst C (pc := 0) dX7_cuttableCount_0 ?_
  refine lv_istore_n hx hb (pc := 1) (lv' := [(1, iv 0), (0, .ref (b 0))]) dX7_cuttableCount_1 rfl hl (Nat.le_of_ble_eq_true rfl) rfl (fun ls hl => ?_)
  refine x_iconst C (pc := 2) dX7_cuttableCount_2 ?_
  refine lv_istore_n hx hb (pc := 3) (lv' := [(2, iv 0), (1, iv 0), (0, .ref (b 0))]) dX7_cuttableCount_3 rfl hl (Nat.le_of_ble_eq_true rfl) rfl (fun ls hl => ?_)
  exact w_gp_cuttableCount_4 C b D_rows D_cols D_cr D_cb D_cl D_kl P_all P_jr P_jb P_count P_cells Res hret N N 0 0 _ _ _ (lv_sub hl [2, 1, 0] rfl) h hf
abbrev rm_gp_neighbourCount : Room := { frames := 1, cells := 0, slots := 0, locals := 21 }
set_option maxHeartbeats 4000000 in
set_option maxRecDepth 100000 in
theorem c_gp_neighbourCount (l : Launch) (D : va_G) (cI cJ cZ cO : ClassId) (b : Nat → Nat) (P_all : BitVec 64) (P_jr : BitVec 64) (P_jb : BitVec 64) (P_count : Int) (P_near : Int → BitVec 64) (l1 : Int) (N : Nat) (Res : Int) (hf : f_gp_neighbourCount N l1 P_count P_near = some Res) : CoI l D (xT cI cJ cZ cO) yX7_neighbourCount cX7_neighbourCount 2 (some .int) rm_gp_neighbourCount [.ref (b 0), iv l1] [((b 0), oG b), ((b 7), oP b P_all P_jr P_jb P_count), ((b 9), aJ cJ 49 P_near)] Res [((b 0), oG b), ((b 7), oP b P_all P_jr P_jb P_count), ((b 9), aJ cJ 49 P_near)] := by
  refine co_i (by decide) ⟨rfl, rfl⟩ (Nat.le_of_ble_eq_true rfl) ?_
  intro p e s m args below meth c A Q ls C hret hl h
  have hx := C.1.1
  have hb := C.1.2.1
  have hl : lv_has ls 2 [(0, .ref (b 0)), (1, iv l1)] := hl
  unfold f_gp_neighbourCount at hf
  refine lv_aload_n hx hb (pc := 0) dX7_neighbourCount_0 rfl (lv_at hl 0 rfl) ?_
  refine x_get C h (pc := 1) xf_X7_35 0 rfl (v := .ref (b 7)) rfl dX7_neighbourCount_1 ?_
  refine lv_iload_n hx hb (pc := 4) dX7_neighbourCount_4 rfl (lv_at hl 1 rfl) ?_
  obtain ⟨q_1, hq_1, hf⟩ := ob_some hf
  refine x_callVi C h (pc := 5) hl (c_pa_hasPane l D cI cJ cZ cO b P_all P_jr P_jb P_count l1 N q_1 hq_1) xv_X4_hasPane lk_X7_142 ⟨(Nat.le_of_ble_eq_true rfl), (Nat.le_of_ble_eq_true rfl)⟩ rfl [1] rfl rfl rfl (ws' := [((b 0), oG b), ((b 7), oP b P_all P_jr P_jb P_count), ((b 9), aJ cJ 49 P_near)]) rfl 1 rfl rfl rfl rfl (Nat.le_of_ble_eq_true rfl) dX7_neighbourCount_5 (fun H locs h => ?_)
  obtain ⟨g_2, hf⟩ := og_some hf
  refine x_ifne C (pc := 8) (tgt := 13) g_2 dX7_neighbourCount_8 rfl (fun hc => ?_) (fun hc => ?_)
  · have hf := oi_f hf hc
    refine lv_aload_n hx hb (pc := 13) dX7_neighbourCount_13 rfl (lv_at hl 0 rfl) ?_
    refine x_get C h (pc := 14) xf_X7_35 0 rfl (v := .ref (b 7)) rfl dX7_neighbourCount_14 ?_
    refine x_get C h (pc := 17) xf_X7_163 1 rfl (v := .ref (b 9)) rfl dX7_neighbourCount_17 ?_
    refine lv_iload_n hx hb (pc := 20) dX7_neighbourCount_20 rfl (lv_at hl 1 rfl) ?_
    obtain ⟨g_3, hf⟩ := og_some hf
    refine x_lald C h (pc := 21) 2 1 rfl rfl (Nat.le_of_ble_eq_true rfl) g_3 dX7_neighbourCount_21 ?_
    refine x_callSi C h (pc := 22) hl (c_popc l D (xT cI cJ cZ cO) (P_near l1)) xs_J13_bitCount_95d88 lk_X7_124 ⟨(Nat.le_of_ble_eq_true rfl), (Nat.le_of_ble_eq_true rfl)⟩ rfl [] rfl rfl rfl (ws' := [((b 0), oG b), ((b 7), oP b P_all P_jr P_jb P_count), ((b 9), aJ cJ 49 P_near)]) rfl rfl (Nat.le_of_ble_eq_true rfl) dX7_neighbourCount_22 (fun H locs h => ?_)
    have e9 := Option.some.inj hf
    subst e9
    exact hret _ _ _ _ dX7_neighbourCount_25 h
  · have hf := oi_t hf hc
    refine x_iconst C (pc := 11) dX7_neighbourCount_11 ?_
    have e9 := Option.some.inj hf
    subst e9
    exact hret _ _ _ _ dX7_neighbourCount_12 h
abbrev rm_gp_leadLength : Room := { frames := 3, cells := 0, slots := 0, locals := 64 }
set_option maxHeartbeats 4000000 in
set_option maxRecDepth 100000 in
theorem c_gp_leadLength (l : Launch) (D : va_G) (cI cJ cZ cO : ClassId) (b : Nat → Nat) (P_all : BitVec 64) (P_jr : BitVec 64) (P_jb : BitVec 64) (P_count : Int) (P_cells : Int → BitVec 64) (N : Nat) (Res : Int) (hf : f_gp_leadLength N P_all P_count P_cells = some Res) : CoI l D (xT cI cJ cZ cO) yX7_leadLength cX7_leadLength 1 (some .int) rm_gp_leadLength [.ref (b 0)] [((b 0), oG b), ((b 7), oP b P_all P_jr P_jb P_count), ((b 8), aJ cJ 49 P_cells)] Res [((b 0), oG b), ((b 7), oP b P_all P_jr P_jb P_count), ((b 8), aJ cJ 49 P_cells)] := by
  refine co_i (by decide) ⟨rfl, rfl⟩ (Nat.le_of_ble_eq_true rfl) ?_
  intro p e s m args below meth c A Q ls C hret hl h
  have hx := C.1.1
  have hb := C.1.2.1
  have hl : lv_has ls 1 [(0, .ref (b 0))] := hl
  unfold f_gp_leadLength at hf
  refine lv_aload_n hx hb (pc := 0) dX7_leadLength_0 rfl (lv_at hl 0 rfl) ?_
  refine x_get C h (pc := 1) xf_X7_35 0 rfl (v := .ref (b 7)) rfl dX7_leadLength_1 ?_
  obtain ⟨q_1, hq_1, hf⟩ := ob_some hf
  refine x_callVi C h (pc := 4) hl (c_pa_measureLead l D cI cJ cZ cO b P_all P_jr P_jb P_count P_cells N q_1 hq_1) xv_X4_measureLead lk_X7_166 ⟨(Nat.le_of_ble_eq_true rfl), (Nat.le_of_ble_eq_true rfl)⟩ rfl [1, 2] rfl rfl rfl (ws' := [((b 0), oG b), ((b 7), oP b P_all P_jr P_jb P_count), ((b 8), aJ cJ 49 P_cells)]) rfl 1 rfl rfl rfl rfl (Nat.le_of_ble_eq_true rfl) dX7_leadLength_4 (fun H locs h => ?_)
  have e9 := Option.some.inj hf
  subst e9
  exact hret _ _ _ _ dX7_leadLength_7 h
abbrev rm_gp_setCellLimit : Room := { frames := 7, cells := 0, slots := 0, locals := 159 }
set_option maxHeartbeats 4000000 in
set_option maxRecDepth 100000 in
theorem c_gp_setCellLimit (l : Launch) (D : va_G) (cI cJ cZ cO : ClassId) (b : Nat → Nat) (D_rows : Int) (D_cols : Int) (D_cr : BitVec 64) (D_cb : BitVec 64) (D_cl : Int) (D_kl : Int) (D_col : Int → Int) (H_next : Int) (H_count : Int) (K_rows : Int → Int) (K_cols : Int → Int) (K_cr : Int → BitVec 64) (K_cb : Int → BitVec 64) (K_cl : Int → Int) (K_kl : Int → Int) (K_col : Int → Int → Int) (P_all : BitVec 64) (P_jr : BitVec 64) (P_jb : BitVec 64) (P_count : Int) (P_cells : Int → BitVec 64) (P_near : Int → BitVec 64) (S_planned : Int) (S_cells : BitVec 64) (S_top : Int) (S_bottom : Int) (S_left : Int) (S_right : Int) (l1 : Int) (N : Nat) (Res : Int × Int × Int × Int × (Int → Int) × (Int → Int) × (Int → BitVec 64) × (Int → BitVec 64) × (Int → Int) × (Int → Int) × (Int → Int → Int) × BitVec 64 × BitVec 64 × BitVec 64 × Int × (Int → BitVec 64) × (Int → BitVec 64) × Int) (hf : f_gp_setCellLimit N l1 D_rows D_cols D_cr D_cb D_cl D_kl D_col H_next H_count K_rows K_cols K_cr K_cb K_cl K_kl K_col P_all P_jr P_jb P_count P_cells P_near S_planned = some Res) : CoI l D (xT cI cJ cZ cO) yX7_setCellLimit cX7_setCellLimit 3 (some .int) rm_gp_setCellLimit [.ref (b 0), iv l1] [((b 0), oG b), ((b 3), oD (b 4) D_rows D_cols D_cr D_cb D_cl D_kl), ((b 4), aI cI 56 D_col), ((b 5), oH b H_next H_count), ((b 6), aK cO b), (b 16, oD (b 24) (K_rows 0) (K_cols 0) (K_cr 0) (K_cb 0) (K_cl 0) (K_kl 0)), (b 17, oD (b 25) (K_rows 1) (K_cols 1) (K_cr 1) (K_cb 1) (K_cl 1) (K_kl 1)), (b 18, oD (b 26) (K_rows 2) (K_cols 2) (K_cr 2) (K_cb 2) (K_cl 2) (K_kl 2)), (b 19, oD (b 27) (K_rows 3) (K_cols 3) (K_cr 3) (K_cb 3) (K_cl 3) (K_kl 3)), (b 20, oD (b 28) (K_rows 4) (K_cols 4) (K_cr 4) (K_cb 4) (K_cl 4) (K_kl 4)), (b 21, oD (b 29) (K_rows 5) (K_cols 5) (K_cr 5) (K_cb 5) (K_cl 5) (K_kl 5)), (b 22, oD (b 30) (K_rows 6) (K_cols 6) (K_cr 6) (K_cb 6) (K_cl 6) (K_kl 6)), (b 23, oD (b 31) (K_rows 7) (K_cols 7) (K_cr 7) (K_cb 7) (K_cl 7) (K_kl 7)), (b 24, aI cI 56 (K_col 0)), (b 25, aI cI 56 (K_col 1)), (b 26, aI cI 56 (K_col 2)), (b 27, aI cI 56 (K_col 3)), (b 28, aI cI 56 (K_col 4)), (b 29, aI cI 56 (K_col 5)), (b 30, aI cI 56 (K_col 6)), (b 31, aI cI 56 (K_col 7)), ((b 7), oP b P_all P_jr P_jb P_count), ((b 8), aJ cJ 49 P_cells), ((b 9), aJ cJ 49 P_near), ((b 10), oS b S_planned S_cells S_top S_bottom S_left S_right)] Res.1 [((b 0), oG b), ((b 3), oD (b 4) D_rows D_cols D_cr D_cb Res.2.1 D_kl), ((b 4), aI cI 56 D_col), ((b 5), oH b Res.2.2.1 Res.2.2.2.1), ((b 6), aK cO b), (b 16, oD (b 24) (Res.2.2.2.2.1 0) (Res.2.2.2.2.2.1 0) (Res.2.2.2.2.2.2.1 0) (Res.2.2.2.2.2.2.2.1 0) (Res.2.2.2.2.2.2.2.2.1 0) (Res.2.2.2.2.2.2.2.2.2.1 0)), (b 17, oD (b 25) (Res.2.2.2.2.1 1) (Res.2.2.2.2.2.1 1) (Res.2.2.2.2.2.2.1 1) (Res.2.2.2.2.2.2.2.1 1) (Res.2.2.2.2.2.2.2.2.1 1) (Res.2.2.2.2.2.2.2.2.2.1 1)), (b 18, oD (b 26) (Res.2.2.2.2.1 2) (Res.2.2.2.2.2.1 2) (Res.2.2.2.2.2.2.1 2) (Res.2.2.2.2.2.2.2.1 2) (Res.2.2.2.2.2.2.2.2.1 2) (Res.2.2.2.2.2.2.2.2.2.1 2)), (b 19, oD (b 27) (Res.2.2.2.2.1 3) (Res.2.2.2.2.2.1 3) (Res.2.2.2.2.2.2.1 3) (Res.2.2.2.2.2.2.2.1 3) (Res.2.2.2.2.2.2.2.2.1 3) (Res.2.2.2.2.2.2.2.2.2.1 3)), (b 20, oD (b 28) (Res.2.2.2.2.1 4) (Res.2.2.2.2.2.1 4) (Res.2.2.2.2.2.2.1 4) (Res.2.2.2.2.2.2.2.1 4) (Res.2.2.2.2.2.2.2.2.1 4) (Res.2.2.2.2.2.2.2.2.2.1 4)), (b 21, oD (b 29) (Res.2.2.2.2.1 5) (Res.2.2.2.2.2.1 5) (Res.2.2.2.2.2.2.1 5) (Res.2.2.2.2.2.2.2.1 5) (Res.2.2.2.2.2.2.2.2.1 5) (Res.2.2.2.2.2.2.2.2.2.1 5)), (b 22, oD (b 30) (Res.2.2.2.2.1 6) (Res.2.2.2.2.2.1 6) (Res.2.2.2.2.2.2.1 6) (Res.2.2.2.2.2.2.2.1 6) (Res.2.2.2.2.2.2.2.2.1 6) (Res.2.2.2.2.2.2.2.2.2.1 6)), (b 23, oD (b 31) (Res.2.2.2.2.1 7) (Res.2.2.2.2.2.1 7) (Res.2.2.2.2.2.2.1 7) (Res.2.2.2.2.2.2.2.1 7) (Res.2.2.2.2.2.2.2.2.1 7) (Res.2.2.2.2.2.2.2.2.2.1 7)), (b 24, aI cI 56 (Res.2.2.2.2.2.2.2.2.2.2.1 0)), (b 25, aI cI 56 (Res.2.2.2.2.2.2.2.2.2.2.1 1)), (b 26, aI cI 56 (Res.2.2.2.2.2.2.2.2.2.2.1 2)), (b 27, aI cI 56 (Res.2.2.2.2.2.2.2.2.2.2.1 3)), (b 28, aI cI 56 (Res.2.2.2.2.2.2.2.2.2.2.1 4)), (b 29, aI cI 56 (Res.2.2.2.2.2.2.2.2.2.2.1 5)), (b 30, aI cI 56 (Res.2.2.2.2.2.2.2.2.2.2.1 6)), (b 31, aI cI 56 (Res.2.2.2.2.2.2.2.2.2.2.1 7)), ((b 7), oP b Res.2.2.2.2.2.2.2.2.2.2.2.1 Res.2.2.2.2.2.2.2.2.2.2.2.2.1 Res.2.2.2.2.2.2.2.2.2.2.2.2.2.1 Res.2.2.2.2.2.2.2.2.2.2.2.2.2.2.1), ((b 8), aJ cJ 49 Res.2.2.2.2.2.2.2.2.2.2.2.2.2.2.2.1), ((b 9), aJ cJ 49 Res.2.2.2.2.2.2.2.2.2.2.2.2.2.2.2.2.1), ((b 10), oS b Res.2.2.2.2.2.2.2.2.2.2.2.2.2.2.2.2.2 S_cells S_top S_bottom S_left S_right)] := by
  refine co_i (by decide) ⟨rfl, rfl⟩ (Nat.le_of_ble_eq_true rfl) ?_
  intro p e s m args below meth c A Q ls C hret hl h
  have hx := C.1.1
  have hb := C.1.2.1
  have hl : lv_has ls 3 [(0, .ref (b 0)), (1, iv l1)] := hl
  unfold f_gp_setCellLimit at hf
  refine lv_iload_n hx hb (pc := 0) dX7_setCellLimit_0 rfl (lv_at hl 1 rfl) ?_
  refine x_iconst C (pc := 1) dX7_setCellLimit_1 ?_
  obtain ⟨g_1, hf⟩ := og_some hf
  refine x_icmplt C (pc := 2) (tgt := 11) g_1 ⟨by decide, by decide⟩ dX7_setCellLimit_2 rfl (fun hc => ?_) (fun hc => ?_)
  · have hf := oi_t hf hc
    refine x_iconst C (pc := 11) dX7_setCellLimit_11 ?_
    have e9 := Option.some.inj hf
    subst e9
    exact hret _ _ _ _ dX7_setCellLimit_12 h
  · have hf := oi_f hf hc
    refine lv_iload_n hx hb (pc := 5) dX7_setCellLimit_5 rfl (lv_at hl 1 rfl) ?_
    refine x_bipush C (pc := 6) dX7_setCellLimit_6 (by decide) ?_
    refine x_icmple C (pc := 8) (tgt := 13) g_1 ⟨by decide, by decide⟩ dX7_setCellLimit_8 rfl (fun hc => ?_) (fun hc => ?_)
    · have hf := oi_t hf hc
      refine lv_aload_n hx hb (pc := 13) dX7_setCellLimit_13 rfl (lv_at hl 0 rfl) ?_
      refine x_get C h (pc := 14) xf_X7_19 0 rfl (v := .ref (b 3)) rfl dX7_setCellLimit_14 ?_
      refine x_get C h (pc := 17) xf_X7_169 1 rfl (v := iv D_cl) rfl dX7_setCellLimit_17 ?_
      refine lv_istore_n hx hb (pc := 20) (lv' := [(2, iv D_cl), (0, .ref (b 0)), (1, iv l1)]) dX7_setCellLimit_20 rfl hl (Nat.le_of_ble_eq_true rfl) rfl (fun ls hl => ?_)
      refine lv_aload_n hx hb (pc := 21) dX7_setCellLimit_21 rfl (lv_at hl 1 rfl) ?_
      refine x_get C h (pc := 22) xf_X7_26 0 rfl (v := .ref (b 5)) rfl dX7_setCellLimit_22 ?_
      refine lv_aload_n hx hb (pc := 25) dX7_setCellLimit_25 rfl (lv_at hl 1 rfl) ?_
      refine x_get C h (pc := 26) xf_X7_19 0 rfl (v := .ref (b 3)) rfl dX7_setCellLimit_26 ?_
      obtain ⟨q_2, hq_2, hf⟩ := ob_some hf
      refine x_callVv C h (pc := 29) hl (c_hi_remember l D cI cJ cZ cO b D_rows D_cols D_cr D_cb D_cl D_kl D_col H_next H_count K_rows K_cols K_cr K_cb K_cl K_kl K_col N q_2 hq_2) xv_X3_remember lk_X7_70 ⟨(Nat.le_of_ble_eq_true rfl), (Nat.le_of_ble_eq_true rfl)⟩ rfl [1, 2, 3, 4, 5, 6, 7, 8, 9, 10, 11, 12, 13, 14, 15, 16, 17, 18, 19, 20] rfl rfl rfl (ws' := [((b 0), oG b), ((b 3), oD (b 4) D_rows D_cols D_cr D_cb D_cl D_kl), ((b 4), aI cI 56 D_col), ((b 5), oH b q_2.1 q_2.2.1), ((b 6), aK cO b), (b 16, oD (b 24) (q_2.2.2.1 0) (q_2.2.2.2.1 0) (q_2.2.2.2.2.1 0) (q_2.2.2.2.2.2.1 0) (q_2.2.2.2.2.2.2.1 0) (q_2.2.2.2.2.2.2.2.1 0)), (b 17, oD (b 25) (q_2.2.2.1 1) (q_2.2.2.2.1 1) (q_2.2.2.2.2.1 1) (q_2.2.2.2.2.2.1 1) (q_2.2.2.2.2.2.2.1 1) (q_2.2.2.2.2.2.2.2.1 1)), (b 18, oD (b 26) (q_2.2.2.1 2) (q_2.2.2.2.1 2) (q_2.2.2.2.2.1 2) (q_2.2.2.2.2.2.1 2) (q_2.2.2.2.2.2.2.1 2) (q_2.2.2.2.2.2.2.2.1 2)), (b 19, oD (b 27) (q_2.2.2.1 3) (q_2.2.2.2.1 3) (q_2.2.2.2.2.1 3) (q_2.2.2.2.2.2.1 3) (q_2.2.2.2.2.2.2.1 3) (q_2.2.2.2.2.2.2.2.1 3)), (b 20, oD (b 28) (q_2.2.2.1 4) (q_2.2.2.2.1 4) (q_2.2.2.2.2.1 4) (q_2.2.2.2.2.2.1 4) (q_2.2.2.2.2.2.2.1 4) (q_2.2.2.2.2.2.2.2.1 4)), (b 21, oD (b 29) (q_2.2.2.1 5) (q_2.2.2.2.1 5) (q_2.2.2.2.2.1 5) (q_2.2.2.2.2.2.1 5) (q_2.2.2.2.2.2.2.1 5) (q_2.2.2.2.2.2.2.2.1 5)), (b 22, oD (b 30) (q_2.2.2.1 6) (q_2.2.2.2.1 6) (q_2.2.2.2.2.1 6) (q_2.2.2.2.2.2.1 6) (q_2.2.2.2.2.2.2.1 6) (q_2.2.2.2.2.2.2.2.1 6)), (b 23, oD (b 31) (q_2.2.2.1 7) (q_2.2.2.2.1 7) (q_2.2.2.2.2.1 7) (q_2.2.2.2.2.2.1 7) (q_2.2.2.2.2.2.2.1 7) (q_2.2.2.2.2.2.2.2.1 7)), (b 24, aI cI 56 (q_2.2.2.2.2.2.2.2.2 0)), (b 25, aI cI 56 (q_2.2.2.2.2.2.2.2.2 1)), (b 26, aI cI 56 (q_2.2.2.2.2.2.2.2.2 2)), (b 27, aI cI 56 (q_2.2.2.2.2.2.2.2.2 3)), (b 28, aI cI 56 (q_2.2.2.2.2.2.2.2.2 4)), (b 29, aI cI 56 (q_2.2.2.2.2.2.2.2.2 5)), (b 30, aI cI 56 (q_2.2.2.2.2.2.2.2.2 6)), (b 31, aI cI 56 (q_2.2.2.2.2.2.2.2.2 7)), ((b 7), oP b P_all P_jr P_jb P_count), ((b 8), aJ cJ 49 P_cells), ((b 9), aJ cJ 49 P_near), ((b 10), oS b S_planned S_cells S_top S_bottom S_left S_right)]) rfl 3 rfl rfl rfl rfl (Nat.le_of_ble_eq_true rfl) dX7_setCellLimit_29 (fun H locs h => ?_)
      refine lv_aload_n hx hb (pc := 32) dX7_setCellLimit_32 rfl (lv_at hl 1 rfl) ?_
      refine x_get C h (pc := 33) xf_X7_19 0 rfl (v := .ref (b 3)) rfl dX7_setCellLimit_33 ?_
      refine lv_iload_n hx hb (pc := 36) dX7_setCellLimit_36 rfl (lv_at hl 2 rfl) ?_
      refine x_puti C h (pc := 37) (ws' := [((b 0), oG b), ((b 3), oD (b 4) D_rows D_cols D_cr D_cb l1 D_kl), ((b 4), aI cI 56 D_col), ((b 5), oH b q_2.1 q_2.2.1), ((b 6), aK cO b), (b 16, oD (b 24) (q_2.2.2.1 0) (q_2.2.2.2.1 0) (q_2.2.2.2.2.1 0) (q_2.2.2.2.2.2.1 0) (q_2.2.2.2.2.2.2.1 0) (q_2.2.2.2.2.2.2.2.1 0)), (b 17, oD (b 25) (q_2.2.2.1 1) (q_2.2.2.2.1 1) (q_2.2.2.2.2.1 1) (q_2.2.2.2.2.2.1 1) (q_2.2.2.2.2.2.2.1 1) (q_2.2.2.2.2.2.2.2.1 1)), (b 18, oD (b 26) (q_2.2.2.1 2) (q_2.2.2.2.1 2) (q_2.2.2.2.2.1 2) (q_2.2.2.2.2.2.1 2) (q_2.2.2.2.2.2.2.1 2) (q_2.2.2.2.2.2.2.2.1 2)), (b 19, oD (b 27) (q_2.2.2.1 3) (q_2.2.2.2.1 3) (q_2.2.2.2.2.1 3) (q_2.2.2.2.2.2.1 3) (q_2.2.2.2.2.2.2.1 3) (q_2.2.2.2.2.2.2.2.1 3)), (b 20, oD (b 28) (q_2.2.2.1 4) (q_2.2.2.2.1 4) (q_2.2.2.2.2.1 4) (q_2.2.2.2.2.2.1 4) (q_2.2.2.2.2.2.2.1 4) (q_2.2.2.2.2.2.2.2.1 4)), (b 21, oD (b 29) (q_2.2.2.1 5) (q_2.2.2.2.1 5) (q_2.2.2.2.2.1 5) (q_2.2.2.2.2.2.1 5) (q_2.2.2.2.2.2.2.1 5) (q_2.2.2.2.2.2.2.2.1 5)), (b 22, oD (b 30) (q_2.2.2.1 6) (q_2.2.2.2.1 6) (q_2.2.2.2.2.1 6) (q_2.2.2.2.2.2.1 6) (q_2.2.2.2.2.2.2.1 6) (q_2.2.2.2.2.2.2.2.1 6)), (b 23, oD (b 31) (q_2.2.2.1 7) (q_2.2.2.2.1 7) (q_2.2.2.2.2.1 7) (q_2.2.2.2.2.2.1 7) (q_2.2.2.2.2.2.2.1 7) (q_2.2.2.2.2.2.2.2.1 7)), (b 24, aI cI 56 (q_2.2.2.2.2.2.2.2.2 0)), (b 25, aI cI 56 (q_2.2.2.2.2.2.2.2.2 1)), (b 26, aI cI 56 (q_2.2.2.2.2.2.2.2.2 2)), (b 27, aI cI 56 (q_2.2.2.2.2.2.2.2.2 3)), (b 28, aI cI 56 (q_2.2.2.2.2.2.2.2.2 4)), (b 29, aI cI 56 (q_2.2.2.2.2.2.2.2.2 5)), (b 30, aI cI 56 (q_2.2.2.2.2.2.2.2.2 6)), (b 31, aI cI 56 (q_2.2.2.2.2.2.2.2.2 7)), ((b 7), oP b P_all P_jr P_jb P_count), ((b 8), aJ cJ 49 P_cells), ((b 9), aJ cJ 49 P_near), ((b 10), oS b S_planned S_cells S_top S_bottom S_left S_right)]) xf_X7_169 xp_X2 rfl 1 rfl rfl (Nat.le_of_ble_eq_true rfl) rfl dX7_setCellLimit_37 (fun H locs h => ?_)
      refine lv_aload_n hx hb (pc := 40) dX7_setCellLimit_40 rfl (lv_at hl 1 rfl) ?_
      obtain ⟨q_3, hq_3, hf⟩ := ob_some hf
      refine x_callVv C h (pc := 41) hl (c_gp_refresh l D cI cJ cZ cO b D_rows D_cols D_cr D_cb l1 D_kl D_col P_all P_jr P_jb P_count P_cells P_near S_planned S_cells S_top S_bottom S_left S_right N q_3 hq_3) xv_X7_refresh lk_X7_83 ⟨(Nat.le_of_ble_eq_true rfl), (Nat.le_of_ble_eq_true rfl)⟩ rfl [0, 1, 2, 21, 22, 23, 24] rfl rfl rfl (ws' := [((b 0), oG b), ((b 3), oD (b 4) D_rows D_cols D_cr D_cb l1 D_kl), ((b 4), aI cI 56 D_col), ((b 5), oH b q_2.1 q_2.2.1), ((b 6), aK cO b), (b 16, oD (b 24) (q_2.2.2.1 0) (q_2.2.2.2.1 0) (q_2.2.2.2.2.1 0) (q_2.2.2.2.2.2.1 0) (q_2.2.2.2.2.2.2.1 0) (q_2.2.2.2.2.2.2.2.1 0)), (b 17, oD (b 25) (q_2.2.2.1 1) (q_2.2.2.2.1 1) (q_2.2.2.2.2.1 1) (q_2.2.2.2.2.2.1 1) (q_2.2.2.2.2.2.2.1 1) (q_2.2.2.2.2.2.2.2.1 1)), (b 18, oD (b 26) (q_2.2.2.1 2) (q_2.2.2.2.1 2) (q_2.2.2.2.2.1 2) (q_2.2.2.2.2.2.1 2) (q_2.2.2.2.2.2.2.1 2) (q_2.2.2.2.2.2.2.2.1 2)), (b 19, oD (b 27) (q_2.2.2.1 3) (q_2.2.2.2.1 3) (q_2.2.2.2.2.1 3) (q_2.2.2.2.2.2.1 3) (q_2.2.2.2.2.2.2.1 3) (q_2.2.2.2.2.2.2.2.1 3)), (b 20, oD (b 28) (q_2.2.2.1 4) (q_2.2.2.2.1 4) (q_2.2.2.2.2.1 4) (q_2.2.2.2.2.2.1 4) (q_2.2.2.2.2.2.2.1 4) (q_2.2.2.2.2.2.2.2.1 4)), (b 21, oD (b 29) (q_2.2.2.1 5) (q_2.2.2.2.1 5) (q_2.2.2.2.2.1 5) (q_2.2.2.2.2.2.1 5) (q_2.2.2.2.2.2.2.1 5) (q_2.2.2.2.2.2.2.2.1 5)), (b 22, oD (b 30) (q_2.2.2.1 6) (q_2.2.2.2.1 6) (q_2.2.2.2.2.1 6) (q_2.2.2.2.2.2.1 6) (q_2.2.2.2.2.2.2.1 6) (q_2.2.2.2.2.2.2.2.1 6)), (b 23, oD (b 31) (q_2.2.2.1 7) (q_2.2.2.2.1 7) (q_2.2.2.2.2.1 7) (q_2.2.2.2.2.2.1 7) (q_2.2.2.2.2.2.2.1 7) (q_2.2.2.2.2.2.2.2.1 7)), (b 24, aI cI 56 (q_2.2.2.2.2.2.2.2.2 0)), (b 25, aI cI 56 (q_2.2.2.2.2.2.2.2.2 1)), (b 26, aI cI 56 (q_2.2.2.2.2.2.2.2.2 2)), (b 27, aI cI 56 (q_2.2.2.2.2.2.2.2.2 3)), (b 28, aI cI 56 (q_2.2.2.2.2.2.2.2.2 4)), (b 29, aI cI 56 (q_2.2.2.2.2.2.2.2.2 5)), (b 30, aI cI 56 (q_2.2.2.2.2.2.2.2.2 6)), (b 31, aI cI 56 (q_2.2.2.2.2.2.2.2.2 7)), ((b 7), oP b q_3.1 q_3.2.1 q_3.2.2.1 q_3.2.2.2.1), ((b 8), aJ cJ 49 q_3.2.2.2.2.1), ((b 9), aJ cJ 49 q_3.2.2.2.2.2.1), ((b 10), oS b q_3.2.2.2.2.2.2 S_cells S_top S_bottom S_left S_right)]) rfl 0 rfl rfl rfl rfl (Nat.le_of_ble_eq_true rfl) dX7_setCellLimit_41 (fun H locs h => ?_)
      refine lv_iload_n hx hb (pc := 44) dX7_setCellLimit_44 rfl (lv_at hl 0 rfl) ?_
      have e9 := Option.some.inj hf
      subst e9
      exact hret _ _ _ _ dX7_setCellLimit_45 h
    · have hf := oi_f hf hc
      refine x_iconst C (pc := 11) dX7_setCellLimit_11 ?_
      have e9 := Option.some.inj hf
      subst e9
      exact hret _ _ _ _ dX7_setCellLimit_12 h
abbrev rm_gp_setCornerLimit : Room := { frames := 7, cells := 0, slots := 0, locals := 159 }
set_option maxHeartbeats 4000000 in
set_option maxRecDepth 100000 in
theorem c_gp_setCornerLimit (l : Launch) (D : va_G) (cI cJ cZ cO : ClassId) (b : Nat → Nat) (D_rows : Int) (D_cols : Int) (D_cr : BitVec 64) (D_cb : BitVec 64) (D_cl : Int) (D_kl : Int) (D_col : Int → Int) (H_next : Int) (H_count : Int) (K_rows : Int → Int) (K_cols : Int → Int) (K_cr : Int → BitVec 64) (K_cb : Int → BitVec 64) (K_cl : Int → Int) (K_kl : Int → Int) (K_col : Int → Int → Int) (P_all : BitVec 64) (P_jr : BitVec 64) (P_jb : BitVec 64) (P_count : Int) (P_cells : Int → BitVec 64) (P_near : Int → BitVec 64) (S_planned : Int) (S_cells : BitVec 64) (S_top : Int) (S_bottom : Int) (S_left : Int) (S_right : Int) (l1 : Int) (N : Nat) (Res : Int × Int × Int × Int × (Int → Int) × (Int → Int) × (Int → BitVec 64) × (Int → BitVec 64) × (Int → Int) × (Int → Int) × (Int → Int → Int) × BitVec 64 × BitVec 64 × BitVec 64 × Int × (Int → BitVec 64) × (Int → BitVec 64) × Int) (hf : f_gp_setCornerLimit N l1 D_rows D_cols D_cr D_cb D_cl D_kl D_col H_next H_count K_rows K_cols K_cr K_cb K_cl K_kl K_col P_all P_jr P_jb P_count P_cells P_near S_planned = some Res) : CoI l D (xT cI cJ cZ cO) yX7_setCornerLimit cX7_setCornerLimit 3 (some .int) rm_gp_setCornerLimit [.ref (b 0), iv l1] [((b 0), oG b), ((b 3), oD (b 4) D_rows D_cols D_cr D_cb D_cl D_kl), ((b 4), aI cI 56 D_col), ((b 5), oH b H_next H_count), ((b 6), aK cO b), (b 16, oD (b 24) (K_rows 0) (K_cols 0) (K_cr 0) (K_cb 0) (K_cl 0) (K_kl 0)), (b 17, oD (b 25) (K_rows 1) (K_cols 1) (K_cr 1) (K_cb 1) (K_cl 1) (K_kl 1)), (b 18, oD (b 26) (K_rows 2) (K_cols 2) (K_cr 2) (K_cb 2) (K_cl 2) (K_kl 2)), (b 19, oD (b 27) (K_rows 3) (K_cols 3) (K_cr 3) (K_cb 3) (K_cl 3) (K_kl 3)), (b 20, oD (b 28) (K_rows 4) (K_cols 4) (K_cr 4) (K_cb 4) (K_cl 4) (K_kl 4)), (b 21, oD (b 29) (K_rows 5) (K_cols 5) (K_cr 5) (K_cb 5) (K_cl 5) (K_kl 5)), (b 22, oD (b 30) (K_rows 6) (K_cols 6) (K_cr 6) (K_cb 6) (K_cl 6) (K_kl 6)), (b 23, oD (b 31) (K_rows 7) (K_cols 7) (K_cr 7) (K_cb 7) (K_cl 7) (K_kl 7)), (b 24, aI cI 56 (K_col 0)), (b 25, aI cI 56 (K_col 1)), (b 26, aI cI 56 (K_col 2)), (b 27, aI cI 56 (K_col 3)), (b 28, aI cI 56 (K_col 4)), (b 29, aI cI 56 (K_col 5)), (b 30, aI cI 56 (K_col 6)), (b 31, aI cI 56 (K_col 7)), ((b 7), oP b P_all P_jr P_jb P_count), ((b 8), aJ cJ 49 P_cells), ((b 9), aJ cJ 49 P_near), ((b 10), oS b S_planned S_cells S_top S_bottom S_left S_right)] Res.1 [((b 0), oG b), ((b 3), oD (b 4) D_rows D_cols D_cr D_cb D_cl Res.2.1), ((b 4), aI cI 56 D_col), ((b 5), oH b Res.2.2.1 Res.2.2.2.1), ((b 6), aK cO b), (b 16, oD (b 24) (Res.2.2.2.2.1 0) (Res.2.2.2.2.2.1 0) (Res.2.2.2.2.2.2.1 0) (Res.2.2.2.2.2.2.2.1 0) (Res.2.2.2.2.2.2.2.2.1 0) (Res.2.2.2.2.2.2.2.2.2.1 0)), (b 17, oD (b 25) (Res.2.2.2.2.1 1) (Res.2.2.2.2.2.1 1) (Res.2.2.2.2.2.2.1 1) (Res.2.2.2.2.2.2.2.1 1) (Res.2.2.2.2.2.2.2.2.1 1) (Res.2.2.2.2.2.2.2.2.2.1 1)), (b 18, oD (b 26) (Res.2.2.2.2.1 2) (Res.2.2.2.2.2.1 2) (Res.2.2.2.2.2.2.1 2) (Res.2.2.2.2.2.2.2.1 2) (Res.2.2.2.2.2.2.2.2.1 2) (Res.2.2.2.2.2.2.2.2.2.1 2)), (b 19, oD (b 27) (Res.2.2.2.2.1 3) (Res.2.2.2.2.2.1 3) (Res.2.2.2.2.2.2.1 3) (Res.2.2.2.2.2.2.2.1 3) (Res.2.2.2.2.2.2.2.2.1 3) (Res.2.2.2.2.2.2.2.2.2.1 3)), (b 20, oD (b 28) (Res.2.2.2.2.1 4) (Res.2.2.2.2.2.1 4) (Res.2.2.2.2.2.2.1 4) (Res.2.2.2.2.2.2.2.1 4) (Res.2.2.2.2.2.2.2.2.1 4) (Res.2.2.2.2.2.2.2.2.2.1 4)), (b 21, oD (b 29) (Res.2.2.2.2.1 5) (Res.2.2.2.2.2.1 5) (Res.2.2.2.2.2.2.1 5) (Res.2.2.2.2.2.2.2.1 5) (Res.2.2.2.2.2.2.2.2.1 5) (Res.2.2.2.2.2.2.2.2.2.1 5)), (b 22, oD (b 30) (Res.2.2.2.2.1 6) (Res.2.2.2.2.2.1 6) (Res.2.2.2.2.2.2.1 6) (Res.2.2.2.2.2.2.2.1 6) (Res.2.2.2.2.2.2.2.2.1 6) (Res.2.2.2.2.2.2.2.2.2.1 6)), (b 23, oD (b 31) (Res.2.2.2.2.1 7) (Res.2.2.2.2.2.1 7) (Res.2.2.2.2.2.2.1 7) (Res.2.2.2.2.2.2.2.1 7) (Res.2.2.2.2.2.2.2.2.1 7) (Res.2.2.2.2.2.2.2.2.2.1 7)), (b 24, aI cI 56 (Res.2.2.2.2.2.2.2.2.2.2.1 0)), (b 25, aI cI 56 (Res.2.2.2.2.2.2.2.2.2.2.1 1)), (b 26, aI cI 56 (Res.2.2.2.2.2.2.2.2.2.2.1 2)), (b 27, aI cI 56 (Res.2.2.2.2.2.2.2.2.2.2.1 3)), (b 28, aI cI 56 (Res.2.2.2.2.2.2.2.2.2.2.1 4)), (b 29, aI cI 56 (Res.2.2.2.2.2.2.2.2.2.2.1 5)), (b 30, aI cI 56 (Res.2.2.2.2.2.2.2.2.2.2.1 6)), (b 31, aI cI 56 (Res.2.2.2.2.2.2.2.2.2.2.1 7)), ((b 7), oP b Res.2.2.2.2.2.2.2.2.2.2.2.1 Res.2.2.2.2.2.2.2.2.2.2.2.2.1 Res.2.2.2.2.2.2.2.2.2.2.2.2.2.1 Res.2.2.2.2.2.2.2.2.2.2.2.2.2.2.1), ((b 8), aJ cJ 49 Res.2.2.2.2.2.2.2.2.2.2.2.2.2.2.2.1), ((b 9), aJ cJ 49 Res.2.2.2.2.2.2.2.2.2.2.2.2.2.2.2.2.1), ((b 10), oS b Res.2.2.2.2.2.2.2.2.2.2.2.2.2.2.2.2.2 S_cells S_top S_bottom S_left S_right)] := by
  refine co_i (by decide) ⟨rfl, rfl⟩ (Nat.le_of_ble_eq_true rfl) ?_
  intro p e s m args below meth c A Q ls C hret hl h
  have hx := C.1.1
  have hb := C.1.2.1
  have hl : lv_has ls 3 [(0, .ref (b 0)), (1, iv l1)] := hl
  unfold f_gp_setCornerLimit at hf
  refine lv_iload_n hx hb (pc := 0) dX7_setCornerLimit_0 rfl (lv_at hl 1 rfl) ?_
  obtain ⟨g_1, hf⟩ := og_some hf
  refine x_iflt C (pc := 1) (tgt := 10) g_1 dX7_setCornerLimit_1 rfl (fun hc => ?_) (fun hc => ?_)
  · have hf := oi_t hf hc
    refine x_iconst C (pc := 10) dX7_setCornerLimit_10 ?_
    have e9 := Option.some.inj hf
    subst e9
    exact hret _ _ _ _ dX7_setCornerLimit_11 h
  · have hf := oi_f hf hc
    refine lv_iload_n hx hb (pc := 4) dX7_setCornerLimit_4 rfl (lv_at hl 1 rfl) ?_
    refine x_bipush C (pc := 5) dX7_setCornerLimit_5 (by decide) ?_
    refine x_icmple C (pc := 7) (tgt := 12) g_1 ⟨by decide, by decide⟩ dX7_setCornerLimit_7 rfl (fun hc => ?_) (fun hc => ?_)
    · have hf := oi_t hf hc
      refine lv_aload_n hx hb (pc := 12) dX7_setCornerLimit_12 rfl (lv_at hl 0 rfl) ?_
      refine x_get C h (pc := 13) xf_X7_19 0 rfl (v := .ref (b 3)) rfl dX7_setCornerLimit_13 ?_
      refine x_get C h (pc := 16) xf_X7_172 1 rfl (v := iv D_kl) rfl dX7_setCornerLimit_16 ?_
      refine lv_istore_n hx hb (pc := 19) (lv' := [(2, iv D_kl), (0, .ref (b 0)), (1, iv l1)]) dX7_setCornerLimit_19 rfl hl (Nat.le_of_ble_eq_true rfl) rfl (fun ls hl => ?_)
      refine lv_aload_n hx hb (pc := 20) dX7_setCornerLimit_20 rfl (lv_at hl 1 rfl) ?_
      refine x_get C h (pc := 21) xf_X7_26 0 rfl (v := .ref (b 5)) rfl dX7_setCornerLimit_21 ?_
      refine lv_aload_n hx hb (pc := 24) dX7_setCornerLimit_24 rfl (lv_at hl 1 rfl) ?_
      refine x_get C h (pc := 25) xf_X7_19 0 rfl (v := .ref (b 3)) rfl dX7_setCornerLimit_25 ?_
      obtain ⟨q_2, hq_2, hf⟩ := ob_some hf
      refine x_callVv C h (pc := 28) hl (c_hi_remember l D cI cJ cZ cO b D_rows D_cols D_cr D_cb D_cl D_kl D_col H_next H_count K_rows K_cols K_cr K_cb K_cl K_kl K_col N q_2 hq_2) xv_X3_remember lk_X7_70 ⟨(Nat.le_of_ble_eq_true rfl), (Nat.le_of_ble_eq_true rfl)⟩ rfl [1, 2, 3, 4, 5, 6, 7, 8, 9, 10, 11, 12, 13, 14, 15, 16, 17, 18, 19, 20] rfl rfl rfl (ws' := [((b 0), oG b), ((b 3), oD (b 4) D_rows D_cols D_cr D_cb D_cl D_kl), ((b 4), aI cI 56 D_col), ((b 5), oH b q_2.1 q_2.2.1), ((b 6), aK cO b), (b 16, oD (b 24) (q_2.2.2.1 0) (q_2.2.2.2.1 0) (q_2.2.2.2.2.1 0) (q_2.2.2.2.2.2.1 0) (q_2.2.2.2.2.2.2.1 0) (q_2.2.2.2.2.2.2.2.1 0)), (b 17, oD (b 25) (q_2.2.2.1 1) (q_2.2.2.2.1 1) (q_2.2.2.2.2.1 1) (q_2.2.2.2.2.2.1 1) (q_2.2.2.2.2.2.2.1 1) (q_2.2.2.2.2.2.2.2.1 1)), (b 18, oD (b 26) (q_2.2.2.1 2) (q_2.2.2.2.1 2) (q_2.2.2.2.2.1 2) (q_2.2.2.2.2.2.1 2) (q_2.2.2.2.2.2.2.1 2) (q_2.2.2.2.2.2.2.2.1 2)), (b 19, oD (b 27) (q_2.2.2.1 3) (q_2.2.2.2.1 3) (q_2.2.2.2.2.1 3) (q_2.2.2.2.2.2.1 3) (q_2.2.2.2.2.2.2.1 3) (q_2.2.2.2.2.2.2.2.1 3)), (b 20, oD (b 28) (q_2.2.2.1 4) (q_2.2.2.2.1 4) (q_2.2.2.2.2.1 4) (q_2.2.2.2.2.2.1 4) (q_2.2.2.2.2.2.2.1 4) (q_2.2.2.2.2.2.2.2.1 4)), (b 21, oD (b 29) (q_2.2.2.1 5) (q_2.2.2.2.1 5) (q_2.2.2.2.2.1 5) (q_2.2.2.2.2.2.1 5) (q_2.2.2.2.2.2.2.1 5) (q_2.2.2.2.2.2.2.2.1 5)), (b 22, oD (b 30) (q_2.2.2.1 6) (q_2.2.2.2.1 6) (q_2.2.2.2.2.1 6) (q_2.2.2.2.2.2.1 6) (q_2.2.2.2.2.2.2.1 6) (q_2.2.2.2.2.2.2.2.1 6)), (b 23, oD (b 31) (q_2.2.2.1 7) (q_2.2.2.2.1 7) (q_2.2.2.2.2.1 7) (q_2.2.2.2.2.2.1 7) (q_2.2.2.2.2.2.2.1 7) (q_2.2.2.2.2.2.2.2.1 7)), (b 24, aI cI 56 (q_2.2.2.2.2.2.2.2.2 0)), (b 25, aI cI 56 (q_2.2.2.2.2.2.2.2.2 1)), (b 26, aI cI 56 (q_2.2.2.2.2.2.2.2.2 2)), (b 27, aI cI 56 (q_2.2.2.2.2.2.2.2.2 3)), (b 28, aI cI 56 (q_2.2.2.2.2.2.2.2.2 4)), (b 29, aI cI 56 (q_2.2.2.2.2.2.2.2.2 5)), (b 30, aI cI 56 (q_2.2.2.2.2.2.2.2.2 6)), (b 31, aI cI 56 (q_2.2.2.2.2.2.2.2.2 7)), ((b 7), oP b P_all P_jr P_jb P_count), ((b 8), aJ cJ 49 P_cells), ((b 9), aJ cJ 49 P_near), ((b 10), oS b S_planned S_cells S_top S_bottom S_left S_right)]) rfl 3 rfl rfl rfl rfl (Nat.le_of_ble_eq_true rfl) dX7_setCornerLimit_28 (fun H locs h => ?_)
      refine lv_aload_n hx hb (pc := 31) dX7_setCornerLimit_31 rfl (lv_at hl 1 rfl) ?_
      refine x_get C h (pc := 32) xf_X7_19 0 rfl (v := .ref (b 3)) rfl dX7_setCornerLimit_32 ?_
      refine lv_iload_n hx hb (pc := 35) dX7_setCornerLimit_35 rfl (lv_at hl 2 rfl) ?_
      refine x_puti C h (pc := 36) (ws' := [((b 0), oG b), ((b 3), oD (b 4) D_rows D_cols D_cr D_cb D_cl l1), ((b 4), aI cI 56 D_col), ((b 5), oH b q_2.1 q_2.2.1), ((b 6), aK cO b), (b 16, oD (b 24) (q_2.2.2.1 0) (q_2.2.2.2.1 0) (q_2.2.2.2.2.1 0) (q_2.2.2.2.2.2.1 0) (q_2.2.2.2.2.2.2.1 0) (q_2.2.2.2.2.2.2.2.1 0)), (b 17, oD (b 25) (q_2.2.2.1 1) (q_2.2.2.2.1 1) (q_2.2.2.2.2.1 1) (q_2.2.2.2.2.2.1 1) (q_2.2.2.2.2.2.2.1 1) (q_2.2.2.2.2.2.2.2.1 1)), (b 18, oD (b 26) (q_2.2.2.1 2) (q_2.2.2.2.1 2) (q_2.2.2.2.2.1 2) (q_2.2.2.2.2.2.1 2) (q_2.2.2.2.2.2.2.1 2) (q_2.2.2.2.2.2.2.2.1 2)), (b 19, oD (b 27) (q_2.2.2.1 3) (q_2.2.2.2.1 3) (q_2.2.2.2.2.1 3) (q_2.2.2.2.2.2.1 3) (q_2.2.2.2.2.2.2.1 3) (q_2.2.2.2.2.2.2.2.1 3)), (b 20, oD (b 28) (q_2.2.2.1 4) (q_2.2.2.2.1 4) (q_2.2.2.2.2.1 4) (q_2.2.2.2.2.2.1 4) (q_2.2.2.2.2.2.2.1 4) (q_2.2.2.2.2.2.2.2.1 4)), (b 21, oD (b 29) (q_2.2.2.1 5) (q_2.2.2.2.1 5) (q_2.2.2.2.2.1 5) (q_2.2.2.2.2.2.1 5) (q_2.2.2.2.2.2.2.1 5) (q_2.2.2.2.2.2.2.2.1 5)), (b 22, oD (b 30) (q_2.2.2.1 6) (q_2.2.2.2.1 6) (q_2.2.2.2.2.1 6) (q_2.2.2.2.2.2.1 6) (q_2.2.2.2.2.2.2.1 6) (q_2.2.2.2.2.2.2.2.1 6)), (b 23, oD (b 31) (q_2.2.2.1 7) (q_2.2.2.2.1 7) (q_2.2.2.2.2.1 7) (q_2.2.2.2.2.2.1 7) (q_2.2.2.2.2.2.2.1 7) (q_2.2.2.2.2.2.2.2.1 7)), (b 24, aI cI 56 (q_2.2.2.2.2.2.2.2.2 0)), (b 25, aI cI 56 (q_2.2.2.2.2.2.2.2.2 1)), (b 26, aI cI 56 (q_2.2.2.2.2.2.2.2.2 2)), (b 27, aI cI 56 (q_2.2.2.2.2.2.2.2.2 3)), (b 28, aI cI 56 (q_2.2.2.2.2.2.2.2.2 4)), (b 29, aI cI 56 (q_2.2.2.2.2.2.2.2.2 5)), (b 30, aI cI 56 (q_2.2.2.2.2.2.2.2.2 6)), (b 31, aI cI 56 (q_2.2.2.2.2.2.2.2.2 7)), ((b 7), oP b P_all P_jr P_jb P_count), ((b 8), aJ cJ 49 P_cells), ((b 9), aJ cJ 49 P_near), ((b 10), oS b S_planned S_cells S_top S_bottom S_left S_right)]) xf_X7_172 xp_X2 rfl 1 rfl rfl (Nat.le_of_ble_eq_true rfl) rfl dX7_setCornerLimit_36 (fun H locs h => ?_)
      refine lv_aload_n hx hb (pc := 39) dX7_setCornerLimit_39 rfl (lv_at hl 1 rfl) ?_
      obtain ⟨q_3, hq_3, hf⟩ := ob_some hf
      refine x_callVv C h (pc := 40) hl (c_gp_refresh l D cI cJ cZ cO b D_rows D_cols D_cr D_cb D_cl l1 D_col P_all P_jr P_jb P_count P_cells P_near S_planned S_cells S_top S_bottom S_left S_right N q_3 hq_3) xv_X7_refresh lk_X7_83 ⟨(Nat.le_of_ble_eq_true rfl), (Nat.le_of_ble_eq_true rfl)⟩ rfl [0, 1, 2, 21, 22, 23, 24] rfl rfl rfl (ws' := [((b 0), oG b), ((b 3), oD (b 4) D_rows D_cols D_cr D_cb D_cl l1), ((b 4), aI cI 56 D_col), ((b 5), oH b q_2.1 q_2.2.1), ((b 6), aK cO b), (b 16, oD (b 24) (q_2.2.2.1 0) (q_2.2.2.2.1 0) (q_2.2.2.2.2.1 0) (q_2.2.2.2.2.2.1 0) (q_2.2.2.2.2.2.2.1 0) (q_2.2.2.2.2.2.2.2.1 0)), (b 17, oD (b 25) (q_2.2.2.1 1) (q_2.2.2.2.1 1) (q_2.2.2.2.2.1 1) (q_2.2.2.2.2.2.1 1) (q_2.2.2.2.2.2.2.1 1) (q_2.2.2.2.2.2.2.2.1 1)), (b 18, oD (b 26) (q_2.2.2.1 2) (q_2.2.2.2.1 2) (q_2.2.2.2.2.1 2) (q_2.2.2.2.2.2.1 2) (q_2.2.2.2.2.2.2.1 2) (q_2.2.2.2.2.2.2.2.1 2)), (b 19, oD (b 27) (q_2.2.2.1 3) (q_2.2.2.2.1 3) (q_2.2.2.2.2.1 3) (q_2.2.2.2.2.2.1 3) (q_2.2.2.2.2.2.2.1 3) (q_2.2.2.2.2.2.2.2.1 3)), (b 20, oD (b 28) (q_2.2.2.1 4) (q_2.2.2.2.1 4) (q_2.2.2.2.2.1 4) (q_2.2.2.2.2.2.1 4) (q_2.2.2.2.2.2.2.1 4) (q_2.2.2.2.2.2.2.2.1 4)), (b 21, oD (b 29) (q_2.2.2.1 5) (q_2.2.2.2.1 5) (q_2.2.2.2.2.1 5) (q_2.2.2.2.2.2.1 5) (q_2.2.2.2.2.2.2.1 5) (q_2.2.2.2.2.2.2.2.1 5)), (b 22, oD (b 30) (q_2.2.2.1 6) (q_2.2.2.2.1 6) (q_2.2.2.2.2.1 6) (q_2.2.2.2.2.2.1 6) (q_2.2.2.2.2.2.2.1 6) (q_2.2.2.2.2.2.2.2.1 6)), (b 23, oD (b 31) (q_2.2.2.1 7) (q_2.2.2.2.1 7) (q_2.2.2.2.2.1 7) (q_2.2.2.2.2.2.1 7) (q_2.2.2.2.2.2.2.1 7) (q_2.2.2.2.2.2.2.2.1 7)), (b 24, aI cI 56 (q_2.2.2.2.2.2.2.2.2 0)), (b 25, aI cI 56 (q_2.2.2.2.2.2.2.2.2 1)), (b 26, aI cI 56 (q_2.2.2.2.2.2.2.2.2 2)), (b 27, aI cI 56 (q_2.2.2.2.2.2.2.2.2 3)), (b 28, aI cI 56 (q_2.2.2.2.2.2.2.2.2 4)), (b 29, aI cI 56 (q_2.2.2.2.2.2.2.2.2 5)), (b 30, aI cI 56 (q_2.2.2.2.2.2.2.2.2 6)), (b 31, aI cI 56 (q_2.2.2.2.2.2.2.2.2 7)), ((b 7), oP b q_3.1 q_3.2.1 q_3.2.2.1 q_3.2.2.2.1), ((b 8), aJ cJ 49 q_3.2.2.2.2.1), ((b 9), aJ cJ 49 q_3.2.2.2.2.2.1), ((b 10), oS b q_3.2.2.2.2.2.2 S_cells S_top S_bottom S_left S_right)]) rfl 0 rfl rfl rfl rfl (Nat.le_of_ble_eq_true rfl) dX7_setCornerLimit_40 (fun H locs h => ?_)
      refine lv_iload_n hx hb (pc := 43) dX7_setCornerLimit_43 rfl (lv_at hl 0 rfl) ?_
      have e9 := Option.some.inj hf
      subst e9
      exact hret _ _ _ _ dX7_setCornerLimit_44 h
    · have hf := oi_f hf hc
      refine x_iconst C (pc := 10) dX7_setCornerLimit_10 ?_
      have e9 := Option.some.inj hf
      subst e9
      exact hret _ _ _ _ dX7_setCornerLimit_11 h
abbrev rm_gp_splitPieces : Room := { frames := 6, cells := 0, slots := 0, locals := 166 }
set_option maxHeartbeats 4000000 in
set_option maxRecDepth 100000 in
theorem c_gp_splitPieces (l : Launch) (D : va_G) (cI cJ cZ cO : ClassId) (b : Nat → Nat) (D_rows : Int) (D_cols : Int) (D_cr : BitVec 64) (D_cb : BitVec 64) (D_cl : Int) (D_kl : Int) (P_all : BitVec 64) (P_jr : BitVec 64) (P_jb : BitVec 64) (P_count : Int) (P_cells : Int → BitVec 64) (S_planned : Int) (S_cells : BitVec 64) (S_top : Int) (S_bottom : Int) (S_left : Int) (S_right : Int) (S_w : Int → Int) (S_l : Int → Int) (l1 : Int) (N : Nat) (Res : Int × Int × BitVec 64 × Int × Int × Int × Int × (Int → Int) × (Int → Int)) (hf : f_gp_splitPieces N l1 D_cl D_kl P_all P_jr P_jb P_count P_cells S_planned S_cells S_top S_bottom S_left S_right S_w S_l = some Res) : CoI l D (xT cI cJ cZ cO) yX7_splitPieces cX7_splitPieces 2 (some .int) rm_gp_splitPieces [.ref (b 0), iv l1] [((b 0), oG b), ((b 3), oD (b 4) D_rows D_cols D_cr D_cb D_cl D_kl), ((b 7), oP b P_all P_jr P_jb P_count), ((b 8), aJ cJ 49 P_cells), ((b 10), oS b S_planned S_cells S_top S_bottom S_left S_right), ((b 11), aI cI 784 S_w), ((b 12), aI cI 784 S_l)] Res.1 [((b 0), oG b), ((b 3), oD (b 4) D_rows D_cols D_cr D_cb D_cl D_kl), ((b 7), oP b P_all P_jr P_jb P_count), ((b 8), aJ cJ 49 P_cells), ((b 10), oS b Res.2.1 Res.2.2.1 Res.2.2.2.1 Res.2.2.2.2.1 Res.2.2.2.2.2.1 Res.2.2.2.2.2.2.1), ((b 11), aI cI 784 Res.2.2.2.2.2.2.2.1), ((b 12), aI cI 784 Res.2.2.2.2.2.2.2.2)] := by
  refine co_i (by decide) ⟨rfl, rfl⟩ (Nat.le_of_ble_eq_true rfl) ?_
  intro p e s m args below meth c A Q ls C hret hl h
  have hx := C.1.1
  have hb := C.1.2.1
  have hl : lv_has ls 2 [(0, .ref (b 0)), (1, iv l1)] := hl
  unfold f_gp_splitPieces at hf
  refine lv_aload_n hx hb (pc := 0) dX7_splitPieces_0 rfl (lv_at hl 0 rfl) ?_
  refine x_get C h (pc := 1) xf_X7_35 0 rfl (v := .ref (b 7)) rfl dX7_splitPieces_1 ?_
  refine lv_iload_n hx hb (pc := 4) dX7_splitPieces_4 rfl (lv_at hl 1 rfl) ?_
  obtain ⟨q_1, hq_1, hf⟩ := ob_some hf
  refine x_callVi C h (pc := 5) hl (c_pa_hasPane l D cI cJ cZ cO b P_all P_jr P_jb P_count l1 N q_1 hq_1) xv_X4_hasPane lk_X7_142 ⟨(Nat.le_of_ble_eq_true rfl), (Nat.le_of_ble_eq_true rfl)⟩ rfl [2] rfl rfl rfl (ws' := [((b 0), oG b), ((b 3), oD (b 4) D_rows D_cols D_cr D_cb D_cl D_kl), ((b 7), oP b P_all P_jr P_jb P_count), ((b 8), aJ cJ 49 P_cells), ((b 10), oS b S_planned S_cells S_top S_bottom S_left S_right), ((b 11), aI cI 784 S_w), ((b 12), aI cI 784 S_l)]) rfl 2 rfl rfl rfl rfl (Nat.le_of_ble_eq_true rfl) dX7_splitPieces_5 (fun H locs h => ?_)
  obtain ⟨g_2, hf⟩ := og_some hf
  refine x_ifne C (pc := 8) (tgt := 13) g_2 dX7_splitPieces_8 rfl (fun hc => ?_) (fun hc => ?_)
  · have hf := oi_f hf hc
    refine lv_aload_n hx hb (pc := 13) dX7_splitPieces_13 rfl (lv_at hl 0 rfl) ?_
    refine x_get C h (pc := 14) xf_X7_44 0 rfl (v := .ref (b 10)) rfl dX7_splitPieces_14 ?_
    refine lv_iload_n hx hb (pc := 17) dX7_splitPieces_17 rfl (lv_at hl 1 rfl) ?_
    obtain ⟨q_3, hq_3, hf⟩ := ob_some hf
    refine x_callVv C h (pc := 18) hl (c_sp_plan l D cI cJ cZ cO b D_rows D_cols D_cr D_cb D_cl D_kl P_all P_jr P_jb P_count P_cells S_planned S_cells S_top S_bottom S_left S_right S_w S_l l1 N q_3 hq_3) xv_X5_plan lk_X7_175 ⟨(Nat.le_of_ble_eq_true rfl), (Nat.le_of_ble_eq_true rfl)⟩ rfl [1, 2, 3, 4, 5, 6] rfl rfl rfl (ws' := [((b 0), oG b), ((b 3), oD (b 4) D_rows D_cols D_cr D_cb D_cl D_kl), ((b 7), oP b P_all P_jr P_jb P_count), ((b 8), aJ cJ 49 P_cells), ((b 10), oS b q_3.1 q_3.2.1 q_3.2.2.1 q_3.2.2.2.1 q_3.2.2.2.2.1 q_3.2.2.2.2.2.1), ((b 11), aI cI 784 q_3.2.2.2.2.2.2.1), ((b 12), aI cI 784 q_3.2.2.2.2.2.2.2)]) rfl 4 rfl rfl rfl rfl (Nat.le_of_ble_eq_true rfl) dX7_splitPieces_18 (fun H locs h => ?_)
    refine lv_aload_n hx hb (pc := 21) dX7_splitPieces_21 rfl (lv_at hl 0 rfl) ?_
    refine x_get C h (pc := 22) xf_X7_44 0 rfl (v := .ref (b 10)) rfl dX7_splitPieces_22 ?_
    obtain ⟨q_4, hq_4, hf⟩ := ob_some hf
    refine x_callVi C h (pc := 25) hl (c_sp_pieces l D cI cJ cZ cO b q_3.1 q_3.2.1 q_3.2.2.1 q_3.2.2.2.1 q_3.2.2.2.2.1 q_3.2.2.2.2.2.1 q_3.2.2.2.2.2.2.1 N q_4 hq_4) xv_X5_pieces lk_X7_179 ⟨(Nat.le_of_ble_eq_true rfl), (Nat.le_of_ble_eq_true rfl)⟩ rfl [4, 5] rfl rfl rfl (ws' := [((b 0), oG b), ((b 3), oD (b 4) D_rows D_cols D_cr D_cb D_cl D_kl), ((b 7), oP b P_all P_jr P_jb P_count), ((b 8), aJ cJ 49 P_cells), ((b 10), oS b q_3.1 q_3.2.1 q_3.2.2.1 q_3.2.2.2.1 q_3.2.2.2.2.1 q_3.2.2.2.2.2.1), ((b 11), aI cI 784 q_3.2.2.2.2.2.2.1), ((b 12), aI cI 784 q_3.2.2.2.2.2.2.2)]) rfl 4 rfl rfl rfl rfl (Nat.le_of_ble_eq_true rfl) dX7_splitPieces_25 (fun H locs h => ?_)
    have e9 := Option.some.inj hf
    subst e9
    exact hret _ _ _ _ dX7_splitPieces_28 h
  · have hf := oi_t hf hc
    refine x_iconst C (pc := 11) dX7_splitPieces_11 ?_
    have e9 := Option.some.inj hf
    subst e9
    exact hret _ _ _ _ dX7_splitPieces_12 h
abbrev rm_gp_splitLead : Room := { frames := 6, cells := 0, slots := 0, locals := 166 }
set_option maxHeartbeats 4000000 in
set_option maxRecDepth 100000 in
theorem c_gp_splitLead (l : Launch) (D : va_G) (cI cJ cZ cO : ClassId) (b : Nat → Nat) (D_rows : Int) (D_cols : Int) (D_cr : BitVec 64) (D_cb : BitVec 64) (D_cl : Int) (D_kl : Int) (P_all : BitVec 64) (P_jr : BitVec 64) (P_jb : BitVec 64) (P_count : Int) (P_cells : Int → BitVec 64) (S_planned : Int) (S_cells : BitVec 64) (S_top : Int) (S_bottom : Int) (S_left : Int) (S_right : Int) (S_w : Int → Int) (S_l : Int → Int) (l1 : Int) (N : Nat) (Res : Int × Int × BitVec 64 × Int × Int × Int × Int × (Int → Int) × (Int → Int)) (hf : f_gp_splitLead N l1 D_cl D_kl P_all P_jr P_jb P_count P_cells S_planned S_cells S_top S_bottom S_left S_right S_w S_l = some Res) : CoI l D (xT cI cJ cZ cO) yX7_splitLead cX7_splitLead 2 (some .int) rm_gp_splitLead [.ref (b 0), iv l1] [((b 0), oG b), ((b 3), oD (b 4) D_rows D_cols D_cr D_cb D_cl D_kl), ((b 7), oP b P_all P_jr P_jb P_count), ((b 8), aJ cJ 49 P_cells), ((b 10), oS b S_planned S_cells S_top S_bottom S_left S_right), ((b 11), aI cI 784 S_w), ((b 12), aI cI 784 S_l)] Res.1 [((b 0), oG b), ((b 3), oD (b 4) D_rows D_cols D_cr D_cb D_cl D_kl), ((b 7), oP b P_all P_jr P_jb P_count), ((b 8), aJ cJ 49 P_cells), ((b 10), oS b Res.2.1 Res.2.2.1 Res.2.2.2.1 Res.2.2.2.2.1 Res.2.2.2.2.2.1 Res.2.2.2.2.2.2.1), ((b 11), aI cI 784 Res.2.2.2.2.2.2.2.1), ((b 12), aI cI 784 Res.2.2.2.2.2.2.2.2)] := by
  refine co_i (by decide) ⟨rfl, rfl⟩ (Nat.le_of_ble_eq_true rfl) ?_
  intro p e s m args below meth c A Q ls C hret hl h
  have hx := C.1.1
  have hb := C.1.2.1
  have hl : lv_has ls 2 [(0, .ref (b 0)), (1, iv l1)] := hl
  unfold f_gp_splitLead at hf
  refine lv_aload_n hx hb (pc := 0) dX7_splitLead_0 rfl (lv_at hl 0 rfl) ?_
  refine x_get C h (pc := 1) xf_X7_35 0 rfl (v := .ref (b 7)) rfl dX7_splitLead_1 ?_
  refine lv_iload_n hx hb (pc := 4) dX7_splitLead_4 rfl (lv_at hl 1 rfl) ?_
  obtain ⟨q_1, hq_1, hf⟩ := ob_some hf
  refine x_callVi C h (pc := 5) hl (c_pa_hasPane l D cI cJ cZ cO b P_all P_jr P_jb P_count l1 N q_1 hq_1) xv_X4_hasPane lk_X7_142 ⟨(Nat.le_of_ble_eq_true rfl), (Nat.le_of_ble_eq_true rfl)⟩ rfl [2] rfl rfl rfl (ws' := [((b 0), oG b), ((b 3), oD (b 4) D_rows D_cols D_cr D_cb D_cl D_kl), ((b 7), oP b P_all P_jr P_jb P_count), ((b 8), aJ cJ 49 P_cells), ((b 10), oS b S_planned S_cells S_top S_bottom S_left S_right), ((b 11), aI cI 784 S_w), ((b 12), aI cI 784 S_l)]) rfl 2 rfl rfl rfl rfl (Nat.le_of_ble_eq_true rfl) dX7_splitLead_5 (fun H locs h => ?_)
  obtain ⟨g_2, hf⟩ := og_some hf
  refine x_ifne C (pc := 8) (tgt := 13) g_2 dX7_splitLead_8 rfl (fun hc => ?_) (fun hc => ?_)
  · have hf := oi_f hf hc
    refine lv_aload_n hx hb (pc := 13) dX7_splitLead_13 rfl (lv_at hl 0 rfl) ?_
    refine x_get C h (pc := 14) xf_X7_44 0 rfl (v := .ref (b 10)) rfl dX7_splitLead_14 ?_
    refine lv_iload_n hx hb (pc := 17) dX7_splitLead_17 rfl (lv_at hl 1 rfl) ?_
    obtain ⟨q_3, hq_3, hf⟩ := ob_some hf
    refine x_callVv C h (pc := 18) hl (c_sp_plan l D cI cJ cZ cO b D_rows D_cols D_cr D_cb D_cl D_kl P_all P_jr P_jb P_count P_cells S_planned S_cells S_top S_bottom S_left S_right S_w S_l l1 N q_3 hq_3) xv_X5_plan lk_X7_175 ⟨(Nat.le_of_ble_eq_true rfl), (Nat.le_of_ble_eq_true rfl)⟩ rfl [1, 2, 3, 4, 5, 6] rfl rfl rfl (ws' := [((b 0), oG b), ((b 3), oD (b 4) D_rows D_cols D_cr D_cb D_cl D_kl), ((b 7), oP b P_all P_jr P_jb P_count), ((b 8), aJ cJ 49 P_cells), ((b 10), oS b q_3.1 q_3.2.1 q_3.2.2.1 q_3.2.2.2.1 q_3.2.2.2.2.1 q_3.2.2.2.2.2.1), ((b 11), aI cI 784 q_3.2.2.2.2.2.2.1), ((b 12), aI cI 784 q_3.2.2.2.2.2.2.2)]) rfl 4 rfl rfl rfl rfl (Nat.le_of_ble_eq_true rfl) dX7_splitLead_18 (fun H locs h => ?_)
    refine lv_aload_n hx hb (pc := 21) dX7_splitLead_21 rfl (lv_at hl 0 rfl) ?_
    refine x_get C h (pc := 22) xf_X7_44 0 rfl (v := .ref (b 10)) rfl dX7_splitLead_22 ?_
    obtain ⟨q_4, hq_4, hf⟩ := ob_some hf
    refine x_callVi C h (pc := 25) hl (c_sp_lead l D cI cJ cZ cO b q_3.1 q_3.2.1 q_3.2.2.1 q_3.2.2.2.1 q_3.2.2.2.2.1 q_3.2.2.2.2.2.1 q_3.2.2.2.2.2.2.1 N q_4 hq_4) xv_X5_lead lk_X7_182 ⟨(Nat.le_of_ble_eq_true rfl), (Nat.le_of_ble_eq_true rfl)⟩ rfl [4, 5] rfl rfl rfl (ws' := [((b 0), oG b), ((b 3), oD (b 4) D_rows D_cols D_cr D_cb D_cl D_kl), ((b 7), oP b P_all P_jr P_jb P_count), ((b 8), aJ cJ 49 P_cells), ((b 10), oS b q_3.1 q_3.2.1 q_3.2.2.1 q_3.2.2.2.1 q_3.2.2.2.2.1 q_3.2.2.2.2.2.1), ((b 11), aI cI 784 q_3.2.2.2.2.2.2.1), ((b 12), aI cI 784 q_3.2.2.2.2.2.2.2)]) rfl 4 rfl rfl rfl rfl (Nat.le_of_ble_eq_true rfl) dX7_splitLead_25 (fun H locs h => ?_)
    have e9 := Option.some.inj hf
    subst e9
    exact hret _ _ _ _ dX7_splitLead_28 h
  · have hf := oi_t hf hc
    refine x_iconst C (pc := 11) dX7_splitLead_11 ?_
    have e9 := Option.some.inj hf
    subst e9
    exact hret _ _ _ _ dX7_splitLead_12 h
abbrev rm_gp_applySplit : Room := { frames := 24, cells := 0, slots := 0, locals := 695 }
set_option maxHeartbeats 4000000 in
set_option maxRecDepth 100000 in
theorem c_gp_applySplit (l : Launch) (D : va_G) (cI cJ cZ cO : ClassId) (b : Nat → Nat) (D_rows : Int) (D_cols : Int) (D_cr : BitVec 64) (D_cb : BitVec 64) (D_cl : Int) (D_kl : Int) (D_col : Int → Int) (H_next : Int) (H_count : Int) (K_rows : Int → Int) (K_cols : Int → Int) (K_cr : Int → BitVec 64) (K_cb : Int → BitVec 64) (K_cl : Int → Int) (K_kl : Int → Int) (K_col : Int → Int → Int) (P_all : BitVec 64) (P_jr : BitVec 64) (P_jb : BitVec 64) (P_count : Int) (P_cells : Int → BitVec 64) (P_near : Int → BitVec 64) (S_planned : Int) (S_cells : BitVec 64) (S_top : Int) (S_bottom : Int) (S_left : Int) (S_right : Int) (S_w : Int → Int) (S_l : Int → Int) (l1 : Int) (N : Nat) (Res : Int × BitVec 64 × BitVec 64 × Int × Int × (Int → Int) × (Int → Int) × (Int → BitVec 64) × (Int → BitVec 64) × (Int → Int) × (Int → Int) × (Int → Int → Int) × BitVec 64 × BitVec 64 × BitVec 64 × Int × (Int → BitVec 64) × (Int → BitVec 64) × Int × BitVec 64 × Int × Int × Int × Int × (Int → Int) × (Int → Int)) (hf : f_gp_applySplit N l1 D_rows D_cols D_cr D_cb D_cl D_kl D_col H_next H_count K_rows K_cols K_cr K_cb K_cl K_kl K_col P_all P_jr P_jb P_count P_cells P_near S_planned S_cells S_top S_bottom S_left S_right S_w S_l = some Res) : CoI l D (xT cI cJ cZ cO) yX7_applySplit cX7_applySplit 2 (some .int) rm_gp_applySplit [.ref (b 0), iv l1] [((b 0), oG b), ((b 3), oD (b 4) D_rows D_cols D_cr D_cb D_cl D_kl), ((b 4), aI cI 56 D_col), ((b 5), oH b H_next H_count), ((b 6), aK cO b), (b 16, oD (b 24) (K_rows 0) (K_cols 0) (K_cr 0) (K_cb 0) (K_cl 0) (K_kl 0)), (b 17, oD (b 25) (K_rows 1) (K_cols 1) (K_cr 1) (K_cb 1) (K_cl 1) (K_kl 1)), (b 18, oD (b 26) (K_rows 2) (K_cols 2) (K_cr 2) (K_cb 2) (K_cl 2) (K_kl 2)), (b 19, oD (b 27) (K_rows 3) (K_cols 3) (K_cr 3) (K_cb 3) (K_cl 3) (K_kl 3)), (b 20, oD (b 28) (K_rows 4) (K_cols 4) (K_cr 4) (K_cb 4) (K_cl 4) (K_kl 4)), (b 21, oD (b 29) (K_rows 5) (K_cols 5) (K_cr 5) (K_cb 5) (K_cl 5) (K_kl 5)), (b 22, oD (b 30) (K_rows 6) (K_cols 6) (K_cr 6) (K_cb 6) (K_cl 6) (K_kl 6)), (b 23, oD (b 31) (K_rows 7) (K_cols 7) (K_cr 7) (K_cb 7) (K_cl 7) (K_kl 7)), (b 24, aI cI 56 (K_col 0)), (b 25, aI cI 56 (K_col 1)), (b 26, aI cI 56 (K_col 2)), (b 27, aI cI 56 (K_col 3)), (b 28, aI cI 56 (K_col 4)), (b 29, aI cI 56 (K_col 5)), (b 30, aI cI 56 (K_col 6)), (b 31, aI cI 56 (K_col 7)), ((b 7), oP b P_all P_jr P_jb P_count), ((b 8), aJ cJ 49 P_cells), ((b 9), aJ cJ 49 P_near), ((b 10), oS b S_planned S_cells S_top S_bottom S_left S_right), ((b 11), aI cI 784 S_w), ((b 12), aI cI 784 S_l)] Res.1 [((b 0), oG b), ((b 3), oD (b 4) D_rows D_cols Res.2.1 Res.2.2.1 D_cl D_kl), ((b 4), aI cI 56 D_col), ((b 5), oH b Res.2.2.2.1 Res.2.2.2.2.1), ((b 6), aK cO b), (b 16, oD (b 24) (Res.2.2.2.2.2.1 0) (Res.2.2.2.2.2.2.1 0) (Res.2.2.2.2.2.2.2.1 0) (Res.2.2.2.2.2.2.2.2.1 0) (Res.2.2.2.2.2.2.2.2.2.1 0) (Res.2.2.2.2.2.2.2.2.2.2.1 0)), (b 17, oD (b 25) (Res.2.2.2.2.2.1 1) (Res.2.2.2.2.2.2.1 1) (Res.2.2.2.2.2.2.2.1 1) (Res.2.2.2.2.2.2.2.2.1 1) (Res.2.2.2.2.2.2.2.2.2.1 1) (Res.2.2.2.2.2.2.2.2.2.2.1 1)), (b 18, oD (b 26) (Res.2.2.2.2.2.1 2) (Res.2.2.2.2.2.2.1 2) (Res.2.2.2.2.2.2.2.1 2) (Res.2.2.2.2.2.2.2.2.1 2) (Res.2.2.2.2.2.2.2.2.2.1 2) (Res.2.2.2.2.2.2.2.2.2.2.1 2)), (b 19, oD (b 27) (Res.2.2.2.2.2.1 3) (Res.2.2.2.2.2.2.1 3) (Res.2.2.2.2.2.2.2.1 3) (Res.2.2.2.2.2.2.2.2.1 3) (Res.2.2.2.2.2.2.2.2.2.1 3) (Res.2.2.2.2.2.2.2.2.2.2.1 3)), (b 20, oD (b 28) (Res.2.2.2.2.2.1 4) (Res.2.2.2.2.2.2.1 4) (Res.2.2.2.2.2.2.2.1 4) (Res.2.2.2.2.2.2.2.2.1 4) (Res.2.2.2.2.2.2.2.2.2.1 4) (Res.2.2.2.2.2.2.2.2.2.2.1 4)), (b 21, oD (b 29) (Res.2.2.2.2.2.1 5) (Res.2.2.2.2.2.2.1 5) (Res.2.2.2.2.2.2.2.1 5) (Res.2.2.2.2.2.2.2.2.1 5) (Res.2.2.2.2.2.2.2.2.2.1 5) (Res.2.2.2.2.2.2.2.2.2.2.1 5)), (b 22, oD (b 30) (Res.2.2.2.2.2.1 6) (Res.2.2.2.2.2.2.1 6) (Res.2.2.2.2.2.2.2.1 6) (Res.2.2.2.2.2.2.2.2.1 6) (Res.2.2.2.2.2.2.2.2.2.1 6) (Res.2.2.2.2.2.2.2.2.2.2.1 6)), (b 23, oD (b 31) (Res.2.2.2.2.2.1 7) (Res.2.2.2.2.2.2.1 7) (Res.2.2.2.2.2.2.2.1 7) (Res.2.2.2.2.2.2.2.2.1 7) (Res.2.2.2.2.2.2.2.2.2.1 7) (Res.2.2.2.2.2.2.2.2.2.2.1 7)), (b 24, aI cI 56 (Res.2.2.2.2.2.2.2.2.2.2.2.1 0)), (b 25, aI cI 56 (Res.2.2.2.2.2.2.2.2.2.2.2.1 1)), (b 26, aI cI 56 (Res.2.2.2.2.2.2.2.2.2.2.2.1 2)), (b 27, aI cI 56 (Res.2.2.2.2.2.2.2.2.2.2.2.1 3)), (b 28, aI cI 56 (Res.2.2.2.2.2.2.2.2.2.2.2.1 4)), (b 29, aI cI 56 (Res.2.2.2.2.2.2.2.2.2.2.2.1 5)), (b 30, aI cI 56 (Res.2.2.2.2.2.2.2.2.2.2.2.1 6)), (b 31, aI cI 56 (Res.2.2.2.2.2.2.2.2.2.2.2.1 7)), ((b 7), oP b Res.2.2.2.2.2.2.2.2.2.2.2.2.1 Res.2.2.2.2.2.2.2.2.2.2.2.2.2.1 Res.2.2.2.2.2.2.2.2.2.2.2.2.2.2.1 Res.2.2.2.2.2.2.2.2.2.2.2.2.2.2.2.1), ((b 8), aJ cJ 49 Res.2.2.2.2.2.2.2.2.2.2.2.2.2.2.2.2.1), ((b 9), aJ cJ 49 Res.2.2.2.2.2.2.2.2.2.2.2.2.2.2.2.2.2.1), ((b 10), oS b Res.2.2.2.2.2.2.2.2.2.2.2.2.2.2.2.2.2.2.1 Res.2.2.2.2.2.2.2.2.2.2.2.2.2.2.2.2.2.2.2.1 Res.2.2.2.2.2.2.2.2.2.2.2.2.2.2.2.2.2.2.2.2.1 Res.2.2.2.2.2.2.2.2.2.2.2.2.2.2.2.2.2.2.2.2.2.1 Res.2.2.2.2.2.2.2.2.2.2.2.2.2.2.2.2.2.2.2.2.2.2.1 Res.2.2.2.2.2.2.2.2.2.2.2.2.2.2.2.2.2.2.2.2.2.2.2.1), ((b 11), aI cI 784 Res.2.2.2.2.2.2.2.2.2.2.2.2.2.2.2.2.2.2.2.2.2.2.2.2.1), ((b 12), aI cI 784 Res.2.2.2.2.2.2.2.2.2.2.2.2.2.2.2.2.2.2.2.2.2.2.2.2.2)] := by
  refine co_i (by decide) ⟨rfl, rfl⟩ (Nat.le_of_ble_eq_true rfl) ?_
  intro p e s m args below meth c A Q ls C hret hl h
  have hx := C.1.1
  have hb := C.1.2.1
  have hl : lv_has ls 2 [(0, .ref (b 0)), (1, iv l1)] := hl
  unfold f_gp_applySplit at hf
  refine lv_aload_n hx hb (pc := 0) dX7_applySplit_0 rfl (lv_at hl 0 rfl) ?_
  refine x_get C h (pc := 1) xf_X7_35 0 rfl (v := .ref (b 7)) rfl dX7_applySplit_1 ?_
  refine lv_iload_n hx hb (pc := 4) dX7_applySplit_4 rfl (lv_at hl 1 rfl) ?_
  obtain ⟨q_1, hq_1, hf⟩ := ob_some hf
  refine x_callVi C h (pc := 5) hl (c_pa_hasPane l D cI cJ cZ cO b P_all P_jr P_jb P_count l1 N q_1 hq_1) xv_X4_hasPane lk_X7_142 ⟨(Nat.le_of_ble_eq_true rfl), (Nat.le_of_ble_eq_true rfl)⟩ rfl [21] rfl rfl rfl (ws' := [((b 0), oG b), ((b 3), oD (b 4) D_rows D_cols D_cr D_cb D_cl D_kl), ((b 4), aI cI 56 D_col), ((b 5), oH b H_next H_count), ((b 6), aK cO b), (b 16, oD (b 24) (K_rows 0) (K_cols 0) (K_cr 0) (K_cb 0) (K_cl 0) (K_kl 0)), (b 17, oD (b 25) (K_rows 1) (K_cols 1) (K_cr 1) (K_cb 1) (K_cl 1) (K_kl 1)), (b 18, oD (b 26) (K_rows 2) (K_cols 2) (K_cr 2) (K_cb 2) (K_cl 2) (K_kl 2)), (b 19, oD (b 27) (K_rows 3) (K_cols 3) (K_cr 3) (K_cb 3) (K_cl 3) (K_kl 3)), (b 20, oD (b 28) (K_rows 4) (K_cols 4) (K_cr 4) (K_cb 4) (K_cl 4) (K_kl 4)), (b 21, oD (b 29) (K_rows 5) (K_cols 5) (K_cr 5) (K_cb 5) (K_cl 5) (K_kl 5)), (b 22, oD (b 30) (K_rows 6) (K_cols 6) (K_cr 6) (K_cb 6) (K_cl 6) (K_kl 6)), (b 23, oD (b 31) (K_rows 7) (K_cols 7) (K_cr 7) (K_cb 7) (K_cl 7) (K_kl 7)), (b 24, aI cI 56 (K_col 0)), (b 25, aI cI 56 (K_col 1)), (b 26, aI cI 56 (K_col 2)), (b 27, aI cI 56 (K_col 3)), (b 28, aI cI 56 (K_col 4)), (b 29, aI cI 56 (K_col 5)), (b 30, aI cI 56 (K_col 6)), (b 31, aI cI 56 (K_col 7)), ((b 7), oP b P_all P_jr P_jb P_count), ((b 8), aJ cJ 49 P_cells), ((b 9), aJ cJ 49 P_near), ((b 10), oS b S_planned S_cells S_top S_bottom S_left S_right), ((b 11), aI cI 784 S_w), ((b 12), aI cI 784 S_l)]) rfl 21 rfl rfl rfl rfl (Nat.le_of_ble_eq_true rfl) dX7_applySplit_5 (fun H locs h => ?_)
  obtain ⟨g_2, hf⟩ := og_some hf
  refine x_ifne C (pc := 8) (tgt := 13) g_2 dX7_applySplit_8 rfl (fun hc => ?_) (fun hc => ?_)
  · have hf := oi_f hf hc
    refine lv_aload_n hx hb (pc := 13) dX7_applySplit_13 rfl (lv_at hl 0 rfl) ?_
    refine x_get C h (pc := 14) xf_X7_35 0 rfl (v := .ref (b 7)) rfl dX7_applySplit_14 ?_
    refine lv_aload_n hx hb (pc := 17) dX7_applySplit_17 rfl (lv_at hl 0 rfl) ?_
    refine x_get C h (pc := 18) xf_X7_35 0 rfl (v := .ref (b 7)) rfl dX7_applySplit_18 ?_
    refine x_get C h (pc := 21) xf_X7_145 21 rfl (v := .ref (b 8)) rfl dX7_applySplit_21 ?_
    refine lv_iload_n hx hb (pc := 24) dX7_applySplit_24 rfl (lv_at hl 1 rfl) ?_
    obtain ⟨g_3, hf⟩ := og_some hf
    refine x_lald C h (pc := 25) 22 1 rfl rfl (Nat.le_of_ble_eq_true rfl) g_3 dX7_applySplit_25 ?_
    obtain ⟨q_4, hq_4, hf⟩ := ob_some hf
    refine x_callVi C h (pc := 26) hl (c_pa_isEasy l D cI cJ cZ cO b D_rows D_cols D_cr D_cb D_cl D_kl P_all P_jr P_jb P_count (P_cells l1) N q_4 hq_4) xv_X4_isEasy lk_X7_159 ⟨(Nat.le_of_ble_eq_true rfl), (Nat.le_of_ble_eq_true rfl)⟩ rfl [1, 21] rfl rfl rfl (ws' := [((b 0), oG b), ((b 3), oD (b 4) D_rows D_cols D_cr D_cb D_cl D_kl), ((b 4), aI cI 56 D_col), ((b 5), oH b H_next H_count), ((b 6), aK cO b), (b 16, oD (b 24) (K_rows 0) (K_cols 0) (K_cr 0) (K_cb 0) (K_cl 0) (K_kl 0)), (b 17, oD (b 25) (K_rows 1) (K_cols 1) (K_cr 1) (K_cb 1) (K_cl 1) (K_kl 1)), (b 18, oD (b 26) (K_rows 2) (K_cols 2) (K_cr 2) (K_cb 2) (K_cl 2) (K_kl 2)), (b 19, oD (b 27) (K_rows 3) (K_cols 3) (K_cr 3) (K_cb 3) (K_cl 3) (K_kl 3)), (b 20, oD (b 28) (K_rows 4) (K_cols 4) (K_cr 4) (K_cb 4) (K_cl 4) (K_kl 4)), (b 21, oD (b 29) (K_rows 5) (K_cols 5) (K_cr 5) (K_cb 5) (K_cl 5) (K_kl 5)), (b 22, oD (b 30) (K_rows 6) (K_cols 6) (K_cr 6) (K_cb 6) (K_cl 6) (K_kl 6)), (b 23, oD (b 31) (K_rows 7) (K_cols 7) (K_cr 7) (K_cb 7) (K_cl 7) (K_kl 7)), (b 24, aI cI 56 (K_col 0)), (b 25, aI cI 56 (K_col 1)), (b 26, aI cI 56 (K_col 2)), (b 27, aI cI 56 (K_col 3)), (b 28, aI cI 56 (K_col 4)), (b 29, aI cI 56 (K_col 5)), (b 30, aI cI 56 (K_col 6)), (b 31, aI cI 56 (K_col 7)), ((b 7), oP b P_all P_jr P_jb P_count), ((b 8), aJ cJ 49 P_cells), ((b 9), aJ cJ 49 P_near), ((b 10), oS b S_planned S_cells S_top S_bottom S_left S_right), ((b 11), aI cI 784 S_w), ((b 12), aI cI 784 S_l)]) rfl 21 rfl rfl rfl rfl (Nat.le_of_ble_eq_true rfl) dX7_applySplit_26 (fun H locs h => ?_)
    obtain ⟨g_5, hf⟩ := og_some hf
    refine x_ifeq C (pc := 29) (tgt := 35) g_5 dX7_applySplit_29 rfl (fun hc => ?_) (fun hc => ?_)
    · have hf := oi_t hf hc
      refine lv_aload_n hx hb (pc := 35) dX7_applySplit_35 rfl (lv_at hl 0 rfl) ?_
      refine x_get C h (pc := 36) xf_X7_44 0 rfl (v := .ref (b 10)) rfl dX7_applySplit_36 ?_
      refine lv_iload_n hx hb (pc := 39) dX7_applySplit_39 rfl (lv_at hl 1 rfl) ?_
      obtain ⟨q_6, hq_6, hf⟩ := ob_some hf
      refine x_callVv C h (pc := 40) hl (c_sp_plan l D cI cJ cZ cO b D_rows D_cols D_cr D_cb D_cl D_kl P_all P_jr P_jb P_count P_cells S_planned S_cells S_top S_bottom S_left S_right S_w S_l l1 N q_6 hq_6) xv_X5_plan lk_X7_175 ⟨(Nat.le_of_ble_eq_true rfl), (Nat.le_of_ble_eq_true rfl)⟩ rfl [1, 21, 22, 24, 25, 26] rfl rfl rfl (ws' := [((b 0), oG b), ((b 3), oD (b 4) D_rows D_cols D_cr D_cb D_cl D_kl), ((b 4), aI cI 56 D_col), ((b 5), oH b H_next H_count), ((b 6), aK cO b), (b 16, oD (b 24) (K_rows 0) (K_cols 0) (K_cr 0) (K_cb 0) (K_cl 0) (K_kl 0)), (b 17, oD (b 25) (K_rows 1) (K_cols 1) (K_cr 1) (K_cb 1) (K_cl 1) (K_kl 1)), (b 18, oD (b 26) (K_rows 2) (K_cols 2) (K_cr 2) (K_cb 2) (K_cl 2) (K_kl 2)), (b 19, oD (b 27) (K_rows 3) (K_cols 3) (K_cr 3) (K_cb 3) (K_cl 3) (K_kl 3)), (b 20, oD (b 28) (K_rows 4) (K_cols 4) (K_cr 4) (K_cb 4) (K_cl 4) (K_kl 4)), (b 21, oD (b 29) (K_rows 5) (K_cols 5) (K_cr 5) (K_cb 5) (K_cl 5) (K_kl 5)), (b 22, oD (b 30) (K_rows 6) (K_cols 6) (K_cr 6) (K_cb 6) (K_cl 6) (K_kl 6)), (b 23, oD (b 31) (K_rows 7) (K_cols 7) (K_cr 7) (K_cb 7) (K_cl 7) (K_kl 7)), (b 24, aI cI 56 (K_col 0)), (b 25, aI cI 56 (K_col 1)), (b 26, aI cI 56 (K_col 2)), (b 27, aI cI 56 (K_col 3)), (b 28, aI cI 56 (K_col 4)), (b 29, aI cI 56 (K_col 5)), (b 30, aI cI 56 (K_col 6)), (b 31, aI cI 56 (K_col 7)), ((b 7), oP b P_all P_jr P_jb P_count), ((b 8), aJ cJ 49 P_cells), ((b 9), aJ cJ 49 P_near), ((b 10), oS b q_6.1 q_6.2.1 q_6.2.2.1 q_6.2.2.2.1 q_6.2.2.2.2.1 q_6.2.2.2.2.2.1), ((b 11), aI cI 784 q_6.2.2.2.2.2.2.1), ((b 12), aI cI 784 q_6.2.2.2.2.2.2.2)]) rfl 24 rfl rfl rfl rfl (Nat.le_of_ble_eq_true rfl) dX7_applySplit_40 (fun H locs h => ?_)
      refine lv_aload_n hx hb (pc := 43) dX7_applySplit_43 rfl (lv_at hl 0 rfl) ?_
      refine x_get C h (pc := 44) xf_X7_26 0 rfl (v := .ref (b 5)) rfl dX7_applySplit_44 ?_
      refine lv_aload_n hx hb (pc := 47) dX7_applySplit_47 rfl (lv_at hl 0 rfl) ?_
      refine x_get C h (pc := 48) xf_X7_19 0 rfl (v := .ref (b 3)) rfl dX7_applySplit_48 ?_
      obtain ⟨q_7, hq_7, hf⟩ := ob_some hf
      refine x_callVv C h (pc := 51) hl (c_hi_remember l D cI cJ cZ cO b D_rows D_cols D_cr D_cb D_cl D_kl D_col H_next H_count K_rows K_cols K_cr K_cb K_cl K_kl K_col N q_7 hq_7) xv_X3_remember lk_X7_70 ⟨(Nat.le_of_ble_eq_true rfl), (Nat.le_of_ble_eq_true rfl)⟩ rfl [1, 2, 3, 4, 5, 6, 7, 8, 9, 10, 11, 12, 13, 14, 15, 16, 17, 18, 19, 20] rfl rfl rfl (ws' := [((b 0), oG b), ((b 3), oD (b 4) D_rows D_cols D_cr D_cb D_cl D_kl), ((b 4), aI cI 56 D_col), ((b 5), oH b q_7.1 q_7.2.1), ((b 6), aK cO b), (b 16, oD (b 24) (q_7.2.2.1 0) (q_7.2.2.2.1 0) (q_7.2.2.2.2.1 0) (q_7.2.2.2.2.2.1 0) (q_7.2.2.2.2.2.2.1 0) (q_7.2.2.2.2.2.2.2.1 0)), (b 17, oD (b 25) (q_7.2.2.1 1) (q_7.2.2.2.1 1) (q_7.2.2.2.2.1 1) (q_7.2.2.2.2.2.1 1) (q_7.2.2.2.2.2.2.1 1) (q_7.2.2.2.2.2.2.2.1 1)), (b 18, oD (b 26) (q_7.2.2.1 2) (q_7.2.2.2.1 2) (q_7.2.2.2.2.1 2) (q_7.2.2.2.2.2.1 2) (q_7.2.2.2.2.2.2.1 2) (q_7.2.2.2.2.2.2.2.1 2)), (b 19, oD (b 27) (q_7.2.2.1 3) (q_7.2.2.2.1 3) (q_7.2.2.2.2.1 3) (q_7.2.2.2.2.2.1 3) (q_7.2.2.2.2.2.2.1 3) (q_7.2.2.2.2.2.2.2.1 3)), (b 20, oD (b 28) (q_7.2.2.1 4) (q_7.2.2.2.1 4) (q_7.2.2.2.2.1 4) (q_7.2.2.2.2.2.1 4) (q_7.2.2.2.2.2.2.1 4) (q_7.2.2.2.2.2.2.2.1 4)), (b 21, oD (b 29) (q_7.2.2.1 5) (q_7.2.2.2.1 5) (q_7.2.2.2.2.1 5) (q_7.2.2.2.2.2.1 5) (q_7.2.2.2.2.2.2.1 5) (q_7.2.2.2.2.2.2.2.1 5)), (b 22, oD (b 30) (q_7.2.2.1 6) (q_7.2.2.2.1 6) (q_7.2.2.2.2.1 6) (q_7.2.2.2.2.2.1 6) (q_7.2.2.2.2.2.2.1 6) (q_7.2.2.2.2.2.2.2.1 6)), (b 23, oD (b 31) (q_7.2.2.1 7) (q_7.2.2.2.1 7) (q_7.2.2.2.2.1 7) (q_7.2.2.2.2.2.1 7) (q_7.2.2.2.2.2.2.1 7) (q_7.2.2.2.2.2.2.2.1 7)), (b 24, aI cI 56 (q_7.2.2.2.2.2.2.2.2 0)), (b 25, aI cI 56 (q_7.2.2.2.2.2.2.2.2 1)), (b 26, aI cI 56 (q_7.2.2.2.2.2.2.2.2 2)), (b 27, aI cI 56 (q_7.2.2.2.2.2.2.2.2 3)), (b 28, aI cI 56 (q_7.2.2.2.2.2.2.2.2 4)), (b 29, aI cI 56 (q_7.2.2.2.2.2.2.2.2 5)), (b 30, aI cI 56 (q_7.2.2.2.2.2.2.2.2 6)), (b 31, aI cI 56 (q_7.2.2.2.2.2.2.2.2 7)), ((b 7), oP b P_all P_jr P_jb P_count), ((b 8), aJ cJ 49 P_cells), ((b 9), aJ cJ 49 P_near), ((b 10), oS b q_6.1 q_6.2.1 q_6.2.2.1 q_6.2.2.2.1 q_6.2.2.2.2.1 q_6.2.2.2.2.2.1), ((b 11), aI cI 784 q_6.2.2.2.2.2.2.1), ((b 12), aI cI 784 q_6.2.2.2.2.2.2.2)]) rfl 3 rfl rfl rfl rfl (Nat.le_of_ble_eq_true rfl) dX7_applySplit_51 (fun H locs h => ?_)
      refine lv_aload_n hx hb (pc := 54) dX7_applySplit_54 rfl (lv_at hl 0 rfl) ?_
      refine x_get C h (pc := 55) xf_X7_44 0 rfl (v := .ref (b 10)) rfl dX7_applySplit_55 ?_
      refine lv_aload_n hx hb (pc := 58) dX7_applySplit_58 rfl (lv_at hl 0 rfl) ?_
      refine x_get C h (pc := 59) xf_X7_19 0 rfl (v := .ref (b 3)) rfl dX7_applySplit_59 ?_
      obtain ⟨q_8, hq_8, hf⟩ := ob_some hf
      refine x_callVv C h (pc := 62) hl (c_sp_cut l D cI cJ cZ cO b D_rows D_cols D_cr D_cb D_cl D_kl P_all P_jr P_jb P_count q_6.1 q_6.2.1 q_6.2.2.1 q_6.2.2.2.1 q_6.2.2.2.2.1 q_6.2.2.2.2.2.1 q_6.2.2.2.2.2.2.2 N q_8 hq_8) xv_X5_cut lk_X7_185 ⟨(Nat.le_of_ble_eq_true rfl), (Nat.le_of_ble_eq_true rfl)⟩ rfl [1, 21, 24, 26] rfl rfl rfl (ws' := [((b 0), oG b), ((b 3), oD (b 4) D_rows D_cols q_8.1 q_8.2 D_cl D_kl), ((b 4), aI cI 56 D_col), ((b 5), oH b q_7.1 q_7.2.1), ((b 6), aK cO b), (b 16, oD (b 24) (q_7.2.2.1 0) (q_7.2.2.2.1 0) (q_7.2.2.2.2.1 0) (q_7.2.2.2.2.2.1 0) (q_7.2.2.2.2.2.2.1 0) (q_7.2.2.2.2.2.2.2.1 0)), (b 17, oD (b 25) (q_7.2.2.1 1) (q_7.2.2.2.1 1) (q_7.2.2.2.2.1 1) (q_7.2.2.2.2.2.1 1) (q_7.2.2.2.2.2.2.1 1) (q_7.2.2.2.2.2.2.2.1 1)), (b 18, oD (b 26) (q_7.2.2.1 2) (q_7.2.2.2.1 2) (q_7.2.2.2.2.1 2) (q_7.2.2.2.2.2.1 2) (q_7.2.2.2.2.2.2.1 2) (q_7.2.2.2.2.2.2.2.1 2)), (b 19, oD (b 27) (q_7.2.2.1 3) (q_7.2.2.2.1 3) (q_7.2.2.2.2.1 3) (q_7.2.2.2.2.2.1 3) (q_7.2.2.2.2.2.2.1 3) (q_7.2.2.2.2.2.2.2.1 3)), (b 20, oD (b 28) (q_7.2.2.1 4) (q_7.2.2.2.1 4) (q_7.2.2.2.2.1 4) (q_7.2.2.2.2.2.1 4) (q_7.2.2.2.2.2.2.1 4) (q_7.2.2.2.2.2.2.2.1 4)), (b 21, oD (b 29) (q_7.2.2.1 5) (q_7.2.2.2.1 5) (q_7.2.2.2.2.1 5) (q_7.2.2.2.2.2.1 5) (q_7.2.2.2.2.2.2.1 5) (q_7.2.2.2.2.2.2.2.1 5)), (b 22, oD (b 30) (q_7.2.2.1 6) (q_7.2.2.2.1 6) (q_7.2.2.2.2.1 6) (q_7.2.2.2.2.2.1 6) (q_7.2.2.2.2.2.2.1 6) (q_7.2.2.2.2.2.2.2.1 6)), (b 23, oD (b 31) (q_7.2.2.1 7) (q_7.2.2.2.1 7) (q_7.2.2.2.2.1 7) (q_7.2.2.2.2.2.1 7) (q_7.2.2.2.2.2.2.1 7) (q_7.2.2.2.2.2.2.2.1 7)), (b 24, aI cI 56 (q_7.2.2.2.2.2.2.2.2 0)), (b 25, aI cI 56 (q_7.2.2.2.2.2.2.2.2 1)), (b 26, aI cI 56 (q_7.2.2.2.2.2.2.2.2 2)), (b 27, aI cI 56 (q_7.2.2.2.2.2.2.2.2 3)), (b 28, aI cI 56 (q_7.2.2.2.2.2.2.2.2 4)), (b 29, aI cI 56 (q_7.2.2.2.2.2.2.2.2 5)), (b 30, aI cI 56 (q_7.2.2.2.2.2.2.2.2 6)), (b 31, aI cI 56 (q_7.2.2.2.2.2.2.2.2 7)), ((b 7), oP b P_all P_jr P_jb P_count), ((b 8), aJ cJ 49 P_cells), ((b 9), aJ cJ 49 P_near), ((b 10), oS b q_6.1 q_6.2.1 q_6.2.2.1 q_6.2.2.2.1 q_6.2.2.2.2.1 q_6.2.2.2.2.2.1), ((b 11), aI cI 784 q_6.2.2.2.2.2.2.1), ((b 12), aI cI 784 q_6.2.2.2.2.2.2.2)]) rfl 24 rfl rfl rfl rfl (Nat.le_of_ble_eq_true rfl) dX7_applySplit_62 (fun H locs h => ?_)
      refine lv_aload_n hx hb (pc := 65) dX7_applySplit_65 rfl (lv_at hl 0 rfl) ?_
      obtain ⟨q_9, hq_9, hf⟩ := ob_some hf
      refine x_callVv C h (pc := 66) hl (c_gp_refresh l D cI cJ cZ cO b D_rows D_cols q_8.1 q_8.2 D_cl D_kl D_col P_all P_jr P_jb P_count P_cells P_near q_6.1 q_6.2.1 q_6.2.2.1 q_6.2.2.2.1 q_6.2.2.2.2.1 q_6.2.2.2.2.2.1 N q_9 hq_9) xv_X7_refresh lk_X7_83 ⟨(Nat.le_of_ble_eq_true rfl), (Nat.le_of_ble_eq_true rfl)⟩ rfl [0, 1, 2, 21, 22, 23, 24] rfl rfl rfl (ws' := [((b 0), oG b), ((b 3), oD (b 4) D_rows D_cols q_8.1 q_8.2 D_cl D_kl), ((b 4), aI cI 56 D_col), ((b 5), oH b q_7.1 q_7.2.1), ((b 6), aK cO b), (b 16, oD (b 24) (q_7.2.2.1 0) (q_7.2.2.2.1 0) (q_7.2.2.2.2.1 0) (q_7.2.2.2.2.2.1 0) (q_7.2.2.2.2.2.2.1 0) (q_7.2.2.2.2.2.2.2.1 0)), (b 17, oD (b 25) (q_7.2.2.1 1) (q_7.2.2.2.1 1) (q_7.2.2.2.2.1 1) (q_7.2.2.2.2.2.1 1) (q_7.2.2.2.2.2.2.1 1) (q_7.2.2.2.2.2.2.2.1 1)), (b 18, oD (b 26) (q_7.2.2.1 2) (q_7.2.2.2.1 2) (q_7.2.2.2.2.1 2) (q_7.2.2.2.2.2.1 2) (q_7.2.2.2.2.2.2.1 2) (q_7.2.2.2.2.2.2.2.1 2)), (b 19, oD (b 27) (q_7.2.2.1 3) (q_7.2.2.2.1 3) (q_7.2.2.2.2.1 3) (q_7.2.2.2.2.2.1 3) (q_7.2.2.2.2.2.2.1 3) (q_7.2.2.2.2.2.2.2.1 3)), (b 20, oD (b 28) (q_7.2.2.1 4) (q_7.2.2.2.1 4) (q_7.2.2.2.2.1 4) (q_7.2.2.2.2.2.1 4) (q_7.2.2.2.2.2.2.1 4) (q_7.2.2.2.2.2.2.2.1 4)), (b 21, oD (b 29) (q_7.2.2.1 5) (q_7.2.2.2.1 5) (q_7.2.2.2.2.1 5) (q_7.2.2.2.2.2.1 5) (q_7.2.2.2.2.2.2.1 5) (q_7.2.2.2.2.2.2.2.1 5)), (b 22, oD (b 30) (q_7.2.2.1 6) (q_7.2.2.2.1 6) (q_7.2.2.2.2.1 6) (q_7.2.2.2.2.2.1 6) (q_7.2.2.2.2.2.2.1 6) (q_7.2.2.2.2.2.2.2.1 6)), (b 23, oD (b 31) (q_7.2.2.1 7) (q_7.2.2.2.1 7) (q_7.2.2.2.2.1 7) (q_7.2.2.2.2.2.1 7) (q_7.2.2.2.2.2.2.1 7) (q_7.2.2.2.2.2.2.2.1 7)), (b 24, aI cI 56 (q_7.2.2.2.2.2.2.2.2 0)), (b 25, aI cI 56 (q_7.2.2.2.2.2.2.2.2 1)), (b 26, aI cI 56 (q_7.2.2.2.2.2.2.2.2 2)), (b 27, aI cI 56 (q_7.2.2.2.2.2.2.2.2 3)), (b 28, aI cI 56 (q_7.2.2.2.2.2.2.2.2 4)), (b 29, aI cI 56 (q_7.2.2.2.2.2.2.2.2 5)), (b 30, aI cI 56 (q_7.2.2.2.2.2.2.2.2 6)), (b 31, aI cI 56 (q_7.2.2.2.2.2.2.2.2 7)), ((b 7), oP b q_9.1 q_9.2.1 q_9.2.2.1 q_9.2.2.2.1), ((b 8), aJ cJ 49 q_9.2.2.2.2.1), ((b 9), aJ cJ 49 q_9.2.2.2.2.2.1), ((b 10), oS b q_9.2.2.2.2.2.2 q_6.2.1 q_6.2.2.1 q_6.2.2.2.1 q_6.2.2.2.2.1 q_6.2.2.2.2.2.1), ((b 11), aI cI 784 q_6.2.2.2.2.2.2.1), ((b 12), aI cI 784 q_6.2.2.2.2.2.2.2)]) rfl 0 rfl rfl rfl rfl (Nat.le_of_ble_eq_true rfl) dX7_applySplit_66 (fun H locs h => ?_)
      refine lv_aload_n hx hb (pc := 69) dX7_applySplit_69 rfl (lv_at hl 0 rfl) ?_
      refine x_get C h (pc := 70) xf_X7_35 0 rfl (v := .ref (b 7)) rfl dX7_applySplit_70 ?_
      refine x_get C h (pc := 73) xf_X7_86 21 rfl (v := iv q_9.2.2.2.1) rfl dX7_applySplit_73 ?_
      have e9 := Option.some.inj hf
      subst e9
      exact hret _ _ _ _ dX7_applySplit_76 h
    · have hf := oi_f hf hc
      refine x_bipush C (pc := 32) dX7_applySplit_32 (by decide) ?_
      have e9 := Option.some.inj hf
      subst e9
      exact hret _ _ _ _ dX7_applySplit_34 h
  · have hf := oi_t hf hc
    refine x_iconst C (pc := 11) dX7_applySplit_11 ?_
    have e9 := Option.some.inj hf
    subst e9
    exact hret _ _ _ _ dX7_applySplit_12 h
abbrev rm_gp_equalNeighbours : Room := { frames := 4, cells := 0, slots := 0, locals := 88 }
set_option maxHeartbeats 4000000 in
set_option maxRecDepth 100000 in
theorem c_gp_equalNeighbours (l : Launch) (D : va_G) (cI cJ cZ cO : ClassId) (b : Nat → Nat) (D_rows : Int) (D_cols : Int) (D_cr : BitVec 64) (D_cb : BitVec 64) (D_cl : Int) (D_kl : Int) (D_col : Int → Int) (P_all : BitVec 64) (P_jr : BitVec 64) (P_jb : BitVec 64) (P_count : Int) (P_cells : Int → BitVec 64) (P_near : Int → BitVec 64) (N : Nat) (Res : Int) (hf : f_gp_equalNeighbours N D_col P_count P_cells P_near = some Res) : CoI l D (xT cI cJ cZ cO) yX7_equalNeighbours cX7_equalNeighbours 1 (some .int) rm_gp_equalNeighbours [.ref (b 0)] [((b 0), oG b), ((b 3), oD (b 4) D_rows D_cols D_cr D_cb D_cl D_kl), ((b 4), aI cI 56 D_col), ((b 7), oP b P_all P_jr P_jb P_count), ((b 8), aJ cJ 49 P_cells), ((b 9), aJ cJ 49 P_near)] Res [((b 0), oG b), ((b 3), oD (b 4) D_rows D_cols D_cr D_cb D_cl D_kl), ((b 4), aI cI 56 D_col), ((b 7), oP b P_all P_jr P_jb P_count), ((b 8), aJ cJ 49 P_cells), ((b 9), aJ cJ 49 P_near)] := by
  refine co_i (by decide) ⟨rfl, rfl⟩ (Nat.le_of_ble_eq_true rfl) ?_
  intro p e s m args below meth c A Q ls C hret hl h
  have hx := C.1.1
  have hb := C.1.2.1
  have hl : lv_has ls 1 [(0, .ref (b 0))] := hl
  unfold f_gp_equalNeighbours at hf
  refine lv_aload_n hx hb (pc := 0) dX7_equalNeighbours_0 rfl (lv_at hl 0 rfl) ?_
  refine x_get C h (pc := 1) xf_X7_35 0 rfl (v := .ref (b 7)) rfl dX7_equalNeighbours_1 ?_
  obtain ⟨q_1, hq_1, hf⟩ := ob_some hf
  refine x_callVi C h (pc := 4) hl (c_pa_countEqualNeighbours l D cI cJ cZ cO b D_rows D_cols D_cr D_cb D_cl D_kl D_col P_all P_jr P_jb P_count P_cells P_near N q_1 hq_1) xv_X4_countEqualNeighbours lk_X7_188 ⟨(Nat.le_of_ble_eq_true rfl), (Nat.le_of_ble_eq_true rfl)⟩ rfl [1, 2, 3, 4, 5] rfl rfl rfl (ws' := [((b 0), oG b), ((b 3), oD (b 4) D_rows D_cols D_cr D_cb D_cl D_kl), ((b 4), aI cI 56 D_col), ((b 7), oP b P_all P_jr P_jb P_count), ((b 8), aJ cJ 49 P_cells), ((b 9), aJ cJ 49 P_near)]) rfl 3 rfl rfl rfl rfl (Nat.le_of_ble_eq_true rfl) dX7_equalNeighbours_4 (fun H locs h => ?_)
  have e9 := Option.some.inj hf
  subst e9
  exact hret _ _ _ _ dX7_equalNeighbours_7 h
abbrev rm_gp_colourCount : Room := { frames := 4, cells := 0, slots := 0, locals := 95 }
set_option maxHeartbeats 4000000 in
set_option maxRecDepth 100000 in
theorem c_gp_colourCount (l : Launch) (D : va_G) (cI cJ cZ cO : ClassId) (b : Nat → Nat) (P_all : BitVec 64) (P_jr : BitVec 64) (P_jb : BitVec 64) (P_count : Int) (P_near : Int → BitVec 64) (C_seq : Int → Int) (C_given : Int → Int) (l1 : Int) (N : Nat) (Res : Int × (Int → Int) × (Int → Int)) (hf : f_gp_colourCount N l1 P_count P_near C_seq C_given = some Res) : CoI l D (xT cI cJ cZ cO) yX7_colourCount cX7_colourCount 2 (some .int) rm_gp_colourCount [.ref (b 0), iv l1] [((b 0), oG b), ((b 7), oP b P_all P_jr P_jb P_count), ((b 9), aJ cJ 49 P_near), ((b 13), oC b), ((b 14), aI cI 49 C_seq), ((b 15), aI cI 49 C_given)] Res.1 [((b 0), oG b), ((b 7), oP b P_all P_jr P_jb P_count), ((b 9), aJ cJ 49 P_near), ((b 13), oC b), ((b 14), aI cI 49 Res.2.1), ((b 15), aI cI 49 Res.2.2)] := by
  refine co_i (by decide) ⟨rfl, rfl⟩ (Nat.le_of_ble_eq_true rfl) ?_
  intro p e s m args below meth c A Q ls C hret hl h
  have hx := C.1.1
  have hb := C.1.2.1
  have hl : lv_has ls 2 [(0, .ref (b 0)), (1, iv l1)] := hl
  unfold f_gp_colourCount at hf
  refine lv_aload_n hx hb (pc := 0) dX7_colourCount_0 rfl (lv_at hl 0 rfl) ?_
  refine x_get C h (pc := 1) xf_X7_51 0 rfl (v := .ref (b 13)) rfl dX7_colourCount_1 ?_
  refine lv_iload_n hx hb (pc := 4) dX7_colourCount_4 rfl (lv_at hl 1 rfl) ?_
  obtain ⟨q_1, hq_1, hf⟩ := ob_some hf
  refine x_callVi C h (pc := 5) hl (c_co_hasOrder l D cI cJ cZ cO b l1 N q_1 hq_1) xv_X1_hasOrder lk_X7_191 ⟨(Nat.le_of_ble_eq_true rfl), (Nat.le_of_ble_eq_true rfl)⟩ rfl [] rfl rfl rfl (ws' := [((b 0), oG b), ((b 7), oP b P_all P_jr P_jb P_count), ((b 9), aJ cJ 49 P_near), ((b 13), oC b), ((b 14), aI cI 49 C_seq), ((b 15), aI cI 49 C_given)]) rfl 3 rfl rfl rfl rfl (Nat.le_of_ble_eq_true rfl) dX7_colourCount_5 (fun H locs h => ?_)
  obtain ⟨g_2, hf⟩ := og_some hf
  refine x_ifne C (pc := 8) (tgt := 13) g_2 dX7_colourCount_8 rfl (fun hc => ?_) (fun hc => ?_)
  · have hf := oi_f hf hc
    refine lv_aload_n hx hb (pc := 13) dX7_colourCount_13 rfl (lv_at hl 0 rfl) ?_
    refine x_get C h (pc := 14) xf_X7_51 0 rfl (v := .ref (b 13)) rfl dX7_colourCount_14 ?_
    refine lv_iload_n hx hb (pc := 17) dX7_colourCount_17 rfl (lv_at hl 1 rfl) ?_
    obtain ⟨q_3, hq_3, hf⟩ := ob_some hf
    refine x_callVi C h (pc := 18) hl (c_co_paint l D cI cJ cZ cO b P_all P_jr P_jb P_count P_near C_seq C_given l1 N q_3 hq_3) xv_X1_paint lk_X7_194 ⟨(Nat.le_of_ble_eq_true rfl), (Nat.le_of_ble_eq_true rfl)⟩ rfl [1, 2, 3, 4, 5] rfl rfl rfl (ws' := [((b 0), oG b), ((b 7), oP b P_all P_jr P_jb P_count), ((b 9), aJ cJ 49 P_near), ((b 13), oC b), ((b 14), aI cI 49 q_3.2.1), ((b 15), aI cI 49 q_3.2.2)]) rfl 3 rfl rfl rfl rfl (Nat.le_of_ble_eq_true rfl) dX7_colourCount_18 (fun H locs h => ?_)
    have e9 := Option.some.inj hf
    subst e9
    exact hret _ _ _ _ dX7_colourCount_21 h
  · have hf := oi_t hf hc
    refine x_iconst C (pc := 11) dX7_colourCount_11 ?_
    have e9 := Option.some.inj hf
    subst e9
    exact hret _ _ _ _ dX7_colourCount_12 h
abbrev rm_gp_suggestedColour : Room := { frames := 4, cells := 0, slots := 0, locals := 95 }
set_option maxHeartbeats 4000000 in
set_option maxRecDepth 100000 in
theorem c_gp_suggestedColour (l : Launch) (D : va_G) (cI cJ cZ cO : ClassId) (b : Nat → Nat) (P_all : BitVec 64) (P_jr : BitVec 64) (P_jb : BitVec 64) (P_count : Int) (P_near : Int → BitVec 64) (C_seq : Int → Int) (C_given : Int → Int) (l1 : Int) (l2 : Int) (N : Nat) (Res : Int × (Int → Int) × (Int → Int)) (hf : f_gp_suggestedColour N l1 l2 P_count P_near C_seq C_given = some Res) : CoI l D (xT cI cJ cZ cO) yX7_suggestedColour cX7_suggestedColour 3 (some .int) rm_gp_suggestedColour [.ref (b 0), iv l1, iv l2] [((b 0), oG b), ((b 7), oP b P_all P_jr P_jb P_count), ((b 9), aJ cJ 49 P_near), ((b 13), oC b), ((b 14), aI cI 49 C_seq), ((b 15), aI cI 49 C_given)] Res.1 [((b 0), oG b), ((b 7), oP b P_all P_jr P_jb P_count), ((b 9), aJ cJ 49 P_near), ((b 13), oC b), ((b 14), aI cI 49 Res.2.1), ((b 15), aI cI 49 Res.2.2)] := by
  refine co_i (by decide) ⟨rfl, rfl⟩ (Nat.le_of_ble_eq_true rfl) ?_
  intro p e s m args below meth c A Q ls C hret hl h
  have hx := C.1.1
  have hb := C.1.2.1
  have hl : lv_has ls 3 [(0, .ref (b 0)), (1, iv l1), (2, iv l2)] := hl
  unfold f_gp_suggestedColour at hf
  refine lv_aload_n hx hb (pc := 0) dX7_suggestedColour_0 rfl (lv_at hl 0 rfl) ?_
  refine x_get C h (pc := 1) xf_X7_51 0 rfl (v := .ref (b 13)) rfl dX7_suggestedColour_1 ?_
  refine lv_iload_n hx hb (pc := 4) dX7_suggestedColour_4 rfl (lv_at hl 1 rfl) ?_
  obtain ⟨q_1, hq_1, hf⟩ := ob_some hf
  refine x_callVi C h (pc := 5) hl (c_co_hasOrder l D cI cJ cZ cO b l1 N q_1 hq_1) xv_X1_hasOrder lk_X7_191 ⟨(Nat.le_of_ble_eq_true rfl), (Nat.le_of_ble_eq_true rfl)⟩ rfl [] rfl rfl rfl (ws' := [((b 0), oG b), ((b 7), oP b P_all P_jr P_jb P_count), ((b 9), aJ cJ 49 P_near), ((b 13), oC b), ((b 14), aI cI 49 C_seq), ((b 15), aI cI 49 C_given)]) rfl 3 rfl rfl rfl rfl (Nat.le_of_ble_eq_true rfl) dX7_suggestedColour_5 (fun H locs h => ?_)
  obtain ⟨g_2, hf⟩ := og_some hf
  refine x_ifeq C (pc := 8) (tgt := 22) g_2 dX7_suggestedColour_8 rfl (fun hc => ?_) (fun hc => ?_)
  · have hf := oi_t hf hc
    refine x_iconst C (pc := 22) dX7_suggestedColour_22 ?_
    have e9 := Option.some.inj hf
    subst e9
    exact hret _ _ _ _ dX7_suggestedColour_23 h
  · have hf := oi_f hf hc
    refine lv_aload_n hx hb (pc := 11) dX7_suggestedColour_11 rfl (lv_at hl 0 rfl) ?_
    refine x_get C h (pc := 12) xf_X7_35 0 rfl (v := .ref (b 7)) rfl dX7_suggestedColour_12 ?_
    refine lv_iload_n hx hb (pc := 15) dX7_suggestedColour_15 rfl (lv_at hl 2 rfl) ?_
    obtain ⟨q_3, hq_3, hf⟩ := ob_some hf
    refine x_callVi C h (pc := 16) hl (c_pa_hasPane l D cI cJ cZ cO b P_all P_jr P_jb P_count l2 N q_3 hq_3) xv_X4_hasPane lk_X7_142 ⟨(Nat.le_of_ble_eq_true rfl), (Nat.le_of_ble_eq_true rfl)⟩ rfl [1] rfl rfl rfl (ws' := [((b 0), oG b), ((b 7), oP b P_all P_jr P_jb P_count), ((b 9), aJ cJ 49 P_near), ((b 13), oC b), ((b 14), aI cI 49 C_seq), ((b 15), aI cI 49 C_given)]) rfl 1 rfl rfl rfl rfl (Nat.le_of_ble_eq_true rfl) dX7_suggestedColour_16 (fun H locs h => ?_)
    obtain ⟨g_4, hf⟩ := og_some hf
    refine x_ifne C (pc := 19) (tgt := 24) g_4 dX7_suggestedColour_19 rfl (fun hc => ?_) (fun hc => ?_)
    · have hf := oi_f hf hc
      refine lv_aload_n hx hb (pc := 24) dX7_suggestedColour_24 rfl (lv_at hl 0 rfl) ?_
      refine x_get C h (pc := 25) xf_X7_51 0 rfl (v := .ref (b 13)) rfl dX7_suggestedColour_25 ?_
      refine lv_iload_n hx hb (pc := 28) dX7_suggestedColour_28 rfl (lv_at hl 1 rfl) ?_
      obtain ⟨q_5, hq_5, hf⟩ := ob_some hf
      refine x_callVi C h (pc := 29) hl (c_co_paint l D cI cJ cZ cO b P_all P_jr P_jb P_count P_near C_seq C_given l1 N q_5 hq_5) xv_X1_paint lk_X7_194 ⟨(Nat.le_of_ble_eq_true rfl), (Nat.le_of_ble_eq_true rfl)⟩ rfl [1, 2, 3, 4, 5] rfl rfl rfl (ws' := [((b 0), oG b), ((b 7), oP b P_all P_jr P_jb P_count), ((b 9), aJ cJ 49 P_near), ((b 13), oC b), ((b 14), aI cI 49 q_5.2.1), ((b 15), aI cI 49 q_5.2.2)]) rfl 3 rfl rfl rfl rfl (Nat.le_of_ble_eq_true rfl) dX7_suggestedColour_29 (fun H locs h => ?_)
      refine lv_pop hx hb (pc := 32) dX7_suggestedColour_32 rfl ?_
      refine lv_aload_n hx hb (pc := 33) dX7_suggestedColour_33 rfl (lv_at hl 0 rfl) ?_
      refine x_get C h (pc := 34) xf_X7_51 0 rfl (v := .ref (b 13)) rfl dX7_suggestedColour_34 ?_
      refine x_get C h (pc := 37) xf_X7_198 3 rfl (v := .ref (b 15)) rfl dX7_suggestedColour_37 ?_
      refine lv_iload_n hx hb (pc := 40) dX7_suggestedColour_40 rfl (lv_at hl 2 rfl) ?_
      obtain ⟨g_6, hf⟩ := og_some hf
      refine x_iald C h (pc := 41) 5 0 rfl rfl (Nat.le_of_ble_eq_true rfl) g_6 dX7_suggestedColour_41 ?_
      have e9 := Option.some.inj hf
      subst e9
      exact hret _ _ _ _ dX7_suggestedColour_42 h
    · have hf := oi_t hf hc
      refine x_iconst C (pc := 22) dX7_suggestedColour_22 ?_
      have e9 := Option.some.inj hf
      subst e9
      exact hret _ _ _ _ dX7_suggestedColour_23 h
abbrev rm_gp_bestOrder : Room := { frames := 4, cells := 0, slots := 0, locals := 95 }
set_option maxHeartbeats 4000000 in
set_option maxRecDepth 100000 in
theorem w_gp_bestOrder_13 {p : Program} {l : Launch} {e : Env} {s : State} {m : MethodId} {args : Array Value} {below : List Frame} {meth : Method} {c : Code} {Q : State → Prop} {D : va_G} {cI cJ cZ cO : ClassId} {A : Nat → Prop} {H0 : Heap} {w0 : Cond} (C : XC p s m args c cX7_bestOrder 5 RX7 w0 D (xT cI cJ cZ cO)) (b : Nat → Nat) (P_all : BitVec 64) (P_jr : BitVec 64) (P_jb : BitVec 64) (P_count : Int) (P_near : Int → BitVec 64) (Res : Int × (Int → Int) × (Int → Int)) (hret : XRI p l e rm_gp_bestOrder s m args below meth c cX7_bestOrder D A H0 Q Res.1 [((b 0), oG b), ((b 7), oP b P_all P_jr P_jb P_count), ((b 9), aJ cJ 49 P_near), ((b 13), oC b), ((b 14), aI cI 49 Res.2.1), ((b 15), aI cI 49 Res.2.2)]) (N : Nat) : ∀ (n : Nat) (l1 : Int) (l2 : Int) (l3 : Int) (C_seq : Int → Int) (C_given : Int → Int) (ls : Array Slot) (H : Heap) (locs : List Loc), lv_has ls 5 [(0, .ref (b 0)), (1, iv l1), (2, iv l2), (3, iv l3)] → XH D A H0 [((b 0), oG b), ((b 7), oP b P_all P_jr P_jb P_count), ((b 9), aJ cJ 49 P_near), ((b 13), oC b), ((b 14), aI cI 49 C_seq), ((b 15), aI cI 49 C_given)] H locs → f_gp_bestOrder_13 N P_count P_near n l1 l2 l3 C_seq C_given = some Res → W p l e rm_gp_bestOrder s m args below meth c H locs 0 0 Q (F0 m 13 ls []) := by
  have hx := C.1.1
  have hb := C.1.2.1
  intro n
  induction n with
  | zero => intro l1 l2 l3 C_seq C_given ls H locs hl h hf; cases hf
  | succ n ih =>
    intro l1 l2 l3 C_seq C_given ls H locs hl h hf
    rw [f_gp_bestOrder_13.eq_2] at hf
    refine lv_iload_n hx hb (pc := 13) dX7_bestOrder_13 rfl (lv_at hl 3 rfl) ?_
    refine x_iconst C (pc := 14) dX7_bestOrder_14 ?_
    obtain ⟨g_2, hf⟩ := og_some hf
    refine x_icmpge C (pc := 15) (tgt := 45) g_2 ⟨by decide, by decide⟩ dX7_bestOrder_15 rfl (fun hc => ?_) (fun hc => ?_)
    · have hf := oi_t hf hc
      refine lv_iload_n hx hb (pc := 45) dX7_bestOrder_45 rfl (lv_at hl 1 rfl) ?_
      have e9 := Option.some.inj hf
      subst e9
      exact hret _ _ _ _ dX7_bestOrder_46 h
    · have hf := oi_f hf hc
      refine lv_aload_n hx hb (pc := 18) dX7_bestOrder_18 rfl (lv_at hl 0 rfl) ?_
      refine x_get C h (pc := 19) xf_X7_51 0 rfl (v := .ref (b 13)) rfl dX7_bestOrder_19 ?_
      refine lv_iload_n hx hb (pc := 22) dX7_bestOrder_22 rfl (lv_at hl 3 rfl) ?_
      obtain ⟨q_3, hq_3, hf⟩ := ob_some hf
      refine x_callVi C h (pc := 23) hl (c_co_paint l D cI cJ cZ cO b P_all P_jr P_jb P_count P_near C_seq C_given l3 N q_3 hq_3) xv_X1_paint lk_X7_194 ⟨(Nat.le_of_ble_eq_true rfl), (Nat.le_of_ble_eq_true rfl)⟩ rfl [1, 2, 3, 4, 5] rfl rfl rfl (ws' := [((b 0), oG b), ((b 7), oP b P_all P_jr P_jb P_count), ((b 9), aJ cJ 49 P_near), ((b 13), oC b), ((b 14), aI cI 49 q_3.2.1), ((b 15), aI cI 49 q_3.2.2)]) rfl 3 rfl rfl rfl rfl (Nat.le_of_ble_eq_true rfl) dX7_bestOrder_23 (fun H locs h => ?_)
      refine lv_istore hx hb (pc := 26) (lv' := [(4, iv q_3.1), (0, .ref (b 0)), (1, iv l1), (2, iv l2), (3, iv l3)]) dX7_bestOrder_26 hl (Nat.le_of_ble_eq_true rfl) rfl (fun ls hl => ?_)
      refine lv_iload hx hb (pc := 28) dX7_bestOrder_28 (lv_at hl 0 rfl) ?_
      refine lv_iload_n hx hb (pc := 30) dX7_bestOrder_30 rfl (lv_at hl 3 rfl) ?_
      obtain ⟨g_4, hf⟩ := og_some hf
      obtain ⟨g_5, hf⟩ := og_some hf
      obtain ⟨r_8, hrr_8, hf⟩ := ob_some hf
      have Jr_8 : ∀ (ls : Array Slot) (H : Heap) (locs : List Loc), lv_has ls 5 [(0, .ref (b 0)), (1, iv r_8.1), (2, iv r_8.2.1), (3, iv r_8.2.2)] → XH D A H0 [((b 0), oG b), ((b 7), oP b P_all P_jr P_jb P_count), ((b 9), aJ cJ 49 P_near), ((b 13), oC b), ((b 14), aI cI 49 q_3.2.1), ((b 15), aI cI 49 q_3.2.2)] H locs → W p l e rm_gp_bestOrder s m args below meth c H locs 0 0 Q (F0 m 13 ls []) := by
        intro ls H locs hl h
        exact ih r_8.1 r_8.2.1 r_8.2.2 q_3.2.1 q_3.2.2 _ _ _ (lv_sub hl [0, 1, 2, 3] rfl) h hf
      clear hf
      have hf := hrr_8
      refine x_icmpge C (pc := 31) (tgt := 39) g_4 g_5 dX7_bestOrder_31 rfl (fun hc => ?_) (fun hc => ?_)
      · have hf := oi_t hf hc
        obtain ⟨l3_6, el3_6, hf⟩ := ol_some hf
        refine x_iinc C (pc := 39) (k := 4) (lw' := [(3, iv l3_6), (4, iv q_3.1), (0, .ref (b 0)), (1, iv l1), (2, iv l2)]) dX7_bestOrder_39 hl rfl el3_6 (Nat.le_of_ble_eq_true rfl) rfl (fun ls hl => ?_)
        refine lv_goto hx hb (pc := 42) (tgt := 13) dX7_bestOrder_42 rfl ?_
        have e9 := Option.some.inj hf
        subst e9
        exact Jr_8 _ _ _ (lv_sub hl [2, 3, 4, 0] rfl) h
      · have hf := oi_f hf hc
        refine lv_iload hx hb (pc := 34) dX7_bestOrder_34 (lv_at hl 0 rfl) ?_
        refine lv_istore_n hx hb (pc := 36) (lv' := [(2, iv q_3.1), (4, iv q_3.1), (0, .ref (b 0)), (1, iv l1), (3, iv l3)]) dX7_bestOrder_36 rfl hl (Nat.le_of_ble_eq_true rfl) rfl (fun ls hl => ?_)
        refine lv_iload_n hx hb (pc := 37) dX7_bestOrder_37 rfl (lv_at hl 4 rfl) ?_
        refine lv_istore_n hx hb (pc := 38) (lv' := [(1, iv l3), (2, iv q_3.1), (4, iv q_3.1), (0, .ref (b 0)), (3, iv l3)]) dX7_bestOrder_38 rfl hl (Nat.le_of_ble_eq_true rfl) rfl (fun ls hl => ?_)
        obtain ⟨l3_7, el3_7, hf⟩ := ol_some hf
        refine x_iinc C (pc := 39) (k := 4) (lw' := [(3, iv l3_7), (1, iv l3), (2, iv q_3.1), (4, iv q_3.1), (0, .ref (b 0))]) dX7_bestOrder_39 hl rfl el3_7 (Nat.le_of_ble_eq_true rfl) rfl (fun ls hl => ?_)
        refine lv_goto hx hb (pc := 42) (tgt := 13) dX7_bestOrder_42 rfl ?_
        have e9 := Option.some.inj hf
        subst e9
        exact Jr_8 _ _ _ (lv_sub hl [4, 1, 2, 0] rfl) h
set_option maxHeartbeats 4000000 in
set_option maxRecDepth 100000 in
theorem c_gp_bestOrder (l : Launch) (D : va_G) (cI cJ cZ cO : ClassId) (b : Nat → Nat) (P_all : BitVec 64) (P_jr : BitVec 64) (P_jb : BitVec 64) (P_count : Int) (P_near : Int → BitVec 64) (C_seq : Int → Int) (C_given : Int → Int) (N : Nat) (Res : Int × (Int → Int) × (Int → Int)) (hf : f_gp_bestOrder N P_count P_near C_seq C_given = some Res) : CoI l D (xT cI cJ cZ cO) yX7_bestOrder cX7_bestOrder 5 (some .int) rm_gp_bestOrder [.ref (b 0)] [((b 0), oG b), ((b 7), oP b P_all P_jr P_jb P_count), ((b 9), aJ cJ 49 P_near), ((b 13), oC b), ((b 14), aI cI 49 C_seq), ((b 15), aI cI 49 C_given)] Res.1 [((b 0), oG b), ((b 7), oP b P_all P_jr P_jb P_count), ((b 9), aJ cJ 49 P_near), ((b 13), oC b), ((b 14), aI cI 49 Res.2.1), ((b 15), aI cI 49 Res.2.2)] := by
  refine co_i (by decide) ⟨rfl, rfl⟩ (Nat.le_of_ble_eq_true rfl) ?_
  intro p e s m args below meth c A Q ls C hret hl h
  have hx := C.1.1
  have hb := C.1.2.1
  have hl : lv_has ls 5 [(0, .ref (b 0))] := hl
  unfold f_gp_bestOrder at hf
  refine x_iconst C (pc := 0) dX7_bestOrder_0 ?_
  refine lv_istore_n hx hb (pc := 1) (lv' := [(1, iv 0), (0, .ref (b 0))]) dX7_bestOrder_1 rfl hl (Nat.le_of_ble_eq_true rfl) rfl (fun ls hl => ?_)
  refine lv_aload_n hx hb (pc := 2) dX7_bestOrder_2 rfl (lv_at hl 1 rfl) ?_
  refine x_get C h (pc := 3) xf_X7_51 0 rfl (v := .ref (b 13)) rfl dX7_bestOrder_3 ?_
  refine x_iconst C (pc := 6) dX7_bestOrder_6 ?_
  obtain ⟨q_1, hq_1, hf⟩ := ob_some hf
  refine x_callVi C h (pc := 7) hl (c_co_paint l D cI cJ cZ cO b P_all P_jr P_jb P_count P_near C_seq C_given 0 N q_1 hq_1) xv_X1_paint lk_X7_194 ⟨(Nat.le_of_ble_eq_true rfl), (Nat.le_of_ble_eq_true rfl)⟩ rfl [1, 2, 3, 4, 5] rfl rfl rfl (ws' := [((b 0), oG b), ((b 7), oP b P_all P_jr P_jb P_count), ((b 9), aJ cJ 49 P_near), ((b 13), oC b), ((b 14), aI cI 49 q_1.2.1), ((b 15), aI cI 49 q_1.2.2)]) rfl 3 rfl rfl rfl rfl (Nat.le_of_ble_eq_true rfl) dX7_bestOrder_7 (fun H locs h => ?_)
  refine lv_istore_n hx hb (pc := 10) (lv' := [(2, iv q_1.1), (1, iv 0), (0, .ref (b 0))]) dX7_bestOrder_10 rfl hl (Nat.le_of_ble_eq_true rfl) rfl (fun ls hl => ?_)
  refine x_iconst C (pc := 11) dX7_bestOrder_11 ?_
  refine lv_istore_n hx hb (pc := 12) (lv' := [(3, iv 1), (2, iv q_1.1), (1, iv 0), (0, .ref (b 0))]) dX7_bestOrder_12 rfl hl (Nat.le_of_ble_eq_true rfl) rfl (fun ls hl => ?_)
  exact w_gp_bestOrder_13 C b P_all P_jr P_jb P_count P_near Res hret N N 0 q_1.1 1 q_1.2.1 q_1.2.2 _ _ _ (lv_sub hl [3, 2, 1, 0] rfl) h hf
abbrev rm_gp_largestClique : Room := { frames := 9, cells := 0, slots := 0, locals := 247 }
set_option maxHeartbeats 4000000 in
set_option maxRecDepth 100000 in
theorem c_gp_largestClique (l : Launch) (D : va_G) (cI cJ cZ cO : ClassId) (b : Nat → Nat) (P_all : BitVec 64) (P_jr : BitVec 64) (P_jb : BitVec 64) (P_count : Int) (P_near : Int → BitVec 64) (N : Nat) (Res : Int) (hf : f_gp_largestClique N P_count P_near = some Res) : CoI l D (xT cI cJ cZ cO) yX7_largestClique cX7_largestClique 1 (some .int) rm_gp_largestClique [.ref (b 0)] [((b 0), oG b), ((b 7), oP b P_all P_jr P_jb P_count), ((b 9), aJ cJ 49 P_near)] Res [((b 0), oG b), ((b 7), oP b P_all P_jr P_jb P_count), ((b 9), aJ cJ 49 P_near)] := by
  refine co_i (by decide) ⟨rfl, rfl⟩ (Nat.le_of_ble_eq_true rfl) ?_
  intro p e s m args below meth c A Q ls C hret hl h
  have hx := C.1.1
  have hb := C.1.2.1
  have hl : lv_has ls 1 [(0, .ref (b 0))] := hl
  unfold f_gp_largestClique at hf
  refine lv_aload_n hx hb (pc := 0) dX7_largestClique_0 rfl (lv_at hl 0 rfl) ?_
  refine x_get C h (pc := 1) xf_X7_35 0 rfl (v := .ref (b 7)) rfl dX7_largestClique_1 ?_
  obtain ⟨q_1, hq_1, hf⟩ := ob_some hf
  refine x_callVi C h (pc := 4) hl (c_pa_measureClique l D cI cJ cZ cO b P_all P_jr P_jb P_count P_near N q_1 hq_1) xv_X4_measureClique lk_X7_201 ⟨(Nat.le_of_ble_eq_true rfl), (Nat.le_of_ble_eq_true rfl)⟩ rfl [1, 2] rfl rfl rfl (ws' := [((b 0), oG b), ((b 7), oP b P_all P_jr P_jb P_count), ((b 9), aJ cJ 49 P_near)]) rfl 1 rfl rfl rfl rfl (Nat.le_of_ble_eq_true rfl) dX7_largestClique_4 (fun H locs h => ?_)
  have e9 := Option.some.inj hf
  subst e9
  exact hret _ _ _ _ dX7_largestClique_7 h
abbrev rm_gp_undo : Room := { frames := 7, cells := 0, slots := 0, locals := 159 }
set_option maxHeartbeats 4000000 in
set_option maxRecDepth 100000 in
theorem c_gp_undo (l : Launch) (D : va_G) (cI cJ cZ cO : ClassId) (b : Nat → Nat) (D_rows : Int) (D_cols : Int) (D_cr : BitVec 64) (D_cb : BitVec 64) (D_cl : Int) (D_kl : Int) (D_col : Int → Int) (H_next : Int) (H_count : Int) (K_rows : Int → Int) (K_cols : Int → Int) (K_cr : Int → BitVec 64) (K_cb : Int → BitVec 64) (K_cl : Int → Int) (K_kl : Int → Int) (K_col : Int → Int → Int) (P_all : BitVec 64) (P_jr : BitVec 64) (P_jb : BitVec 64) (P_count : Int) (P_cells : Int → BitVec 64) (P_near : Int → BitVec 64) (S_planned : Int) (S_cells : BitVec 64) (S_top : Int) (S_bottom : Int) (S_left : Int) (S_right : Int) (N : Nat) (Res : Int × Int × Int × BitVec 64 × BitVec 64 × Int × Int × (Int → Int) × Int × Int × BitVec 64 × BitVec 64 × BitVec 64 × Int × (Int → BitVec 64) × (Int → BitVec 64) × Int) (hf : f_gp_undo N D_rows D_cols D_cr D_cb D_cl D_kl D_col H_next H_count K_rows K_cols K_cr K_cb K_cl K_kl K_col P_all P_jr P_jb P_count P_cells P_near S_planned = some Res) : CoI l D (xT cI cJ cZ cO) yX7_undo cX7_undo 1 (some .int) rm_gp_undo [.ref (b 0)] [((b 0), oG b), ((b 3), oD (b 4) D_rows D_cols D_cr D_cb D_cl D_kl), ((b 4), aI cI 56 D_col), ((b 5), oH b H_next H_count), ((b 6), aK cO b), (b 16, oD (b 24) (K_rows 0) (K_cols 0) (K_cr 0) (K_cb 0) (K_cl 0) (K_kl 0)), (b 17, oD (b 25) (K_rows 1) (K_cols 1) (K_cr 1) (K_cb 1) (K_cl 1) (K_kl 1)), (b 18, oD (b 26) (K_rows 2) (K_cols 2) (K_cr 2) (K_cb 2) (K_cl 2) (K_kl 2)), (b 19, oD (b 27) (K_rows 3) (K_cols 3) (K_cr 3) (K_cb 3) (K_cl 3) (K_kl 3)), (b 20, oD (b 28) (K_rows 4) (K_cols 4) (K_cr 4) (K_cb 4) (K_cl 4) (K_kl 4)), (b 21, oD (b 29) (K_rows 5) (K_cols 5) (K_cr 5) (K_cb 5) (K_cl 5) (K_kl 5)), (b 22, oD (b 30) (K_rows 6) (K_cols 6) (K_cr 6) (K_cb 6) (K_cl 6) (K_kl 6)), (b 23, oD (b 31) (K_rows 7) (K_cols 7) (K_cr 7) (K_cb 7) (K_cl 7) (K_kl 7)), (b 24, aI cI 56 (K_col 0)), (b 25, aI cI 56 (K_col 1)), (b 26, aI cI 56 (K_col 2)), (b 27, aI cI 56 (K_col 3)), (b 28, aI cI 56 (K_col 4)), (b 29, aI cI 56 (K_col 5)), (b 30, aI cI 56 (K_col 6)), (b 31, aI cI 56 (K_col 7)), ((b 7), oP b P_all P_jr P_jb P_count), ((b 8), aJ cJ 49 P_cells), ((b 9), aJ cJ 49 P_near), ((b 10), oS b S_planned S_cells S_top S_bottom S_left S_right)] Res.1 [((b 0), oG b), ((b 3), oD (b 4) Res.2.1 Res.2.2.1 Res.2.2.2.1 Res.2.2.2.2.1 Res.2.2.2.2.2.1 Res.2.2.2.2.2.2.1), ((b 4), aI cI 56 Res.2.2.2.2.2.2.2.1), ((b 5), oH b Res.2.2.2.2.2.2.2.2.1 Res.2.2.2.2.2.2.2.2.2.1), ((b 6), aK cO b), (b 16, oD (b 24) (K_rows 0) (K_cols 0) (K_cr 0) (K_cb 0) (K_cl 0) (K_kl 0)), (b 17, oD (b 25) (K_rows 1) (K_cols 1) (K_cr 1) (K_cb 1) (K_cl 1) (K_kl 1)), (b 18, oD (b 26) (K_rows 2) (K_cols 2) (K_cr 2) (K_cb 2) (K_cl 2) (K_kl 2)), (b 19, oD (b 27) (K_rows 3) (K_cols 3) (K_cr 3) (K_cb 3) (K_cl 3) (K_kl 3)), (b 20, oD (b 28) (K_rows 4) (K_cols 4) (K_cr 4) (K_cb 4) (K_cl 4) (K_kl 4)), (b 21, oD (b 29) (K_rows 5) (K_cols 5) (K_cr 5) (K_cb 5) (K_cl 5) (K_kl 5)), (b 22, oD (b 30) (K_rows 6) (K_cols 6) (K_cr 6) (K_cb 6) (K_cl 6) (K_kl 6)), (b 23, oD (b 31) (K_rows 7) (K_cols 7) (K_cr 7) (K_cb 7) (K_cl 7) (K_kl 7)), (b 24, aI cI 56 (K_col 0)), (b 25, aI cI 56 (K_col 1)), (b 26, aI cI 56 (K_col 2)), (b 27, aI cI 56 (K_col 3)), (b 28, aI cI 56 (K_col 4)), (b 29, aI cI 56 (K_col 5)), (b 30, aI cI 56 (K_col 6)), (b 31, aI cI 56 (K_col 7)), ((b 7), oP b Res.2.2.2.2.2.2.2.2.2.2.1 Res.2.2.2.2.2.2.2.2.2.2.2.1 Res.2.2.2.2.2.2.2.2.2.2.2.2.1 Res.2.2.2.2.2.2.2.2.2.2.2.2.2.1), ((b 8), aJ cJ 49 Res.2.2.2.2.2.2.2.2.2.2.2.2.2.2.1), ((b 9), aJ cJ 49 Res.2.2.2.2.2.2.2.2.2.2.2.2.2.2.2.1), ((b 10), oS b Res.2.2.2.2.2.2.2.2.2.2.2.2.2.2.2.2 S_cells S_top S_bottom S_left S_right)] := by
  refine co_i (by decide) ⟨rfl, rfl⟩ (Nat.le_of_ble_eq_true rfl) ?_
  intro p e s m args below meth c A Q ls C hret hl h
  have hx := C.1.1
  have hb := C.1.2.1
  have hl : lv_has ls 1 [(0, .ref (b 0))] := hl
  unfold f_gp_undo at hf
  refine lv_aload_n hx hb (pc := 0) dX7_undo_0 rfl (lv_at hl 0 rfl) ?_
  refine x_get C h (pc := 1) xf_X7_26 0 rfl (v := .ref (b 5)) rfl dX7_undo_1 ?_
  refine x_get C h (pc := 4) xf_X7_204 3 rfl (v := iv H_count) rfl dX7_undo_4 ?_
  obtain ⟨g_1, hf⟩ := og_some hf
  refine x_ifne C (pc := 7) (tgt := 13) g_1 dX7_undo_7 rfl (fun hc => ?_) (fun hc => ?_)
  · have hf := oi_f hf hc
    refine lv_aload_n hx hb (pc := 13) dX7_undo_13 rfl (lv_at hl 0 rfl) ?_
    refine x_get C h (pc := 14) xf_X7_26 0 rfl (v := .ref (b 5)) rfl dX7_undo_14 ?_
    refine lv_aload_n hx hb (pc := 17) dX7_undo_17 rfl (lv_at hl 0 rfl) ?_
    refine x_get C h (pc := 18) xf_X7_19 0 rfl (v := .ref (b 3)) rfl dX7_undo_18 ?_
    obtain ⟨q_2, hq_2, hf⟩ := ob_some hf
    refine x_callVv C h (pc := 21) hl (c_hi_restore l D cI cJ cZ cO b D_rows D_cols D_cr D_cb D_cl D_kl D_col H_next H_count K_rows K_cols K_cr K_cb K_cl K_kl K_col N q_2 hq_2) xv_X3_restore lk_X7_205 ⟨(Nat.le_of_ble_eq_true rfl), (Nat.le_of_ble_eq_true rfl)⟩ rfl [1, 2, 3, 4, 5, 6, 7, 8, 9, 10, 11, 12, 13, 14, 15, 16, 17, 18, 19, 20] rfl rfl rfl (ws' := [((b 0), oG b), ((b 3), oD (b 4) q_2.1 q_2.2.1 q_2.2.2.1 q_2.2.2.2.1 q_2.2.2.2.2.1 q_2.2.2.2.2.2.1), ((b 4), aI cI 56 q_2.2.2.2.2.2.2.1), ((b 5), oH b q_2.2.2.2.2.2.2.2.1 q_2.2.2.2.2.2.2.2.2), ((b 6), aK cO b), (b 16, oD (b 24) (K_rows 0) (K_cols 0) (K_cr 0) (K_cb 0) (K_cl 0) (K_kl 0)), (b 17, oD (b 25) (K_rows 1) (K_cols 1) (K_cr 1) (K_cb 1) (K_cl 1) (K_kl 1)), (b 18, oD (b 26) (K_rows 2) (K_cols 2) (K_cr 2) (K_cb 2) (K_cl 2) (K_kl 2)), (b 19, oD (b 27) (K_rows 3) (K_cols 3) (K_cr 3) (K_cb 3) (K_cl 3) (K_kl 3)), (b 20, oD (b 28) (K_rows 4) (K_cols 4) (K_cr 4) (K_cb 4) (K_cl 4) (K_kl 4)), (b 21, oD (b 29) (K_rows 5) (K_cols 5) (K_cr 5) (K_cb 5) (K_cl 5) (K_kl 5)), (b 22, oD (b 30) (K_rows 6) (K_cols 6) (K_cr 6) (K_cb 6) (K_cl 6) (K_kl 6)), (b 23, oD (b 31) (K_rows 7) (K_cols 7) (K_cr 7) (K_cb 7) (K_cl 7) (K_kl 7)), (b 24, aI cI 56 (K_col 0)), (b 25, aI cI 56 (K_col 1)), (b 26, aI cI 56 (K_col 2)), (b 27, aI cI 56 (K_col 3)), (b 28, aI cI 56 (K_col 4)), (b 29, aI cI 56 (K_col 5)), (b 30, aI cI 56 (K_col 6)), (b 31, aI cI 56 (K_col 7)), ((b 7), oP b P_all P_jr P_jb P_count), ((b 8), aJ cJ 49 P_cells), ((b 9), aJ cJ 49 P_near), ((b 10), oS b S_planned S_cells S_top S_bottom S_left S_right)]) rfl 3 rfl rfl rfl rfl (Nat.le_of_ble_eq_true rfl) dX7_undo_21 (fun H locs h => ?_)
    refine lv_aload_n hx hb (pc := 24) dX7_undo_24 rfl (lv_at hl 0 rfl) ?_
    obtain ⟨q_3, hq_3, hf⟩ := ob_some hf
    refine x_callVv C h (pc := 25) hl (c_gp_refresh l D cI cJ cZ cO b q_2.1 q_2.2.1 q_2.2.2.1 q_2.2.2.2.1 q_2.2.2.2.2.1 q_2.2.2.2.2.2.1 q_2.2.2.2.2.2.2.1 P_all P_jr P_jb P_count P_cells P_near S_planned S_cells S_top S_bottom S_left S_right N q_3 hq_3) xv_X7_refresh lk_X7_83 ⟨(Nat.le_of_ble_eq_true rfl), (Nat.le_of_ble_eq_true rfl)⟩ rfl [0, 1, 2, 21, 22, 23, 24] rfl rfl rfl (ws' := [((b 0), oG b), ((b 3), oD (b 4) q_2.1 q_2.2.1 q_2.2.2.1 q_2.2.2.2.1 q_2.2.2.2.2.1 q_2.2.2.2.2.2.1), ((b 4), aI cI 56 q_2.2.2.2.2.2.2.1), ((b 5), oH b q_2.2.2.2.2.2.2.2.1 q_2.2.2.2.2.2.2.2.2), ((b 6), aK cO b), (b 16, oD (b 24) (K_rows 0) (K_cols 0) (K_cr 0) (K_cb 0) (K_cl 0) (K_kl 0)), (b 17, oD (b 25) (K_rows 1) (K_cols 1) (K_cr 1) (K_cb 1) (K_cl 1) (K_kl 1)), (b 18, oD (b 26) (K_rows 2) (K_cols 2) (K_cr 2) (K_cb 2) (K_cl 2) (K_kl 2)), (b 19, oD (b 27) (K_rows 3) (K_cols 3) (K_cr 3) (K_cb 3) (K_cl 3) (K_kl 3)), (b 20, oD (b 28) (K_rows 4) (K_cols 4) (K_cr 4) (K_cb 4) (K_cl 4) (K_kl 4)), (b 21, oD (b 29) (K_rows 5) (K_cols 5) (K_cr 5) (K_cb 5) (K_cl 5) (K_kl 5)), (b 22, oD (b 30) (K_rows 6) (K_cols 6) (K_cr 6) (K_cb 6) (K_cl 6) (K_kl 6)), (b 23, oD (b 31) (K_rows 7) (K_cols 7) (K_cr 7) (K_cb 7) (K_cl 7) (K_kl 7)), (b 24, aI cI 56 (K_col 0)), (b 25, aI cI 56 (K_col 1)), (b 26, aI cI 56 (K_col 2)), (b 27, aI cI 56 (K_col 3)), (b 28, aI cI 56 (K_col 4)), (b 29, aI cI 56 (K_col 5)), (b 30, aI cI 56 (K_col 6)), (b 31, aI cI 56 (K_col 7)), ((b 7), oP b q_3.1 q_3.2.1 q_3.2.2.1 q_3.2.2.2.1), ((b 8), aJ cJ 49 q_3.2.2.2.2.1), ((b 9), aJ cJ 49 q_3.2.2.2.2.2.1), ((b 10), oS b q_3.2.2.2.2.2.2 S_cells S_top S_bottom S_left S_right)]) rfl 0 rfl rfl rfl rfl (Nat.le_of_ble_eq_true rfl) dX7_undo_25 (fun H locs h => ?_)
    refine lv_aload_n hx hb (pc := 28) dX7_undo_28 rfl (lv_at hl 0 rfl) ?_
    refine x_get C h (pc := 29) xf_X7_26 0 rfl (v := .ref (b 5)) rfl dX7_undo_29 ?_
    refine x_get C h (pc := 32) xf_X7_204 3 rfl (v := iv q_2.2.2.2.2.2.2.2.2) rfl dX7_undo_32 ?_
    have e9 := Option.some.inj hf
    subst e9
    exact hret _ _ _ _ dX7_undo_35 h
  · have hf := oi_t hf hc
    refine x_bipush C (pc := 10) dX7_undo_10 (by decide) ?_
    have e9 := Option.some.inj hf
    subst e9
    exact hret _ _ _ _ dX7_undo_12 h
