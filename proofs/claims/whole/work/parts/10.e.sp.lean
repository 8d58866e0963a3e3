abbrev rm_sp_forget : Room := { frames := 0, cells := 0, slots := 0, locals := 0 }
set_option maxHeartbeats 4000000 in
set_option maxRecDepth 100000 in
theorem c_sp_forget (l : Launch) (D : va_G) (cI cJ cZ cO : ClassId) (b : Nat → Nat) (S_planned : Int) (S_cells : BitVec 64) (S_top : Int) (S_bottom : Int) (S_left : Int) (S_right : Int) (N : Nat) (Res : Int) (hf : f_sp_forget N S_planned = some Res) : CoV l D (xT cI cJ cZ cO) yX5_forget cX5_forget 1 none rm_sp_forget [.ref (b 10)] [((b 10), oS b S_planned S_cells S_top S_bottom S_left S_right)] [((b 10), oS b Res S_cells S_top S_bottom S_left S_right)] := by
  refine co_v (by decide) ⟨rfl, rfl⟩ (Nat.le_of_ble_eq_true rfl) ?_
  intro p e s m args below meth c A Q ls C hret hl h
  have hx := C.1.1
  have hb := C.1.2.1
  have hl : lv_has ls 1 [(0, .ref (b 10))] := hl
  unfold f_sp_forget at hf
  refine lv_aload_n hx hb (pc := 0) dX5_forget_0 rfl (lv_at hl 0 rfl) ?_
  refine x_iconst C (pc := 1) dX5_forget_1 ?_
  refine x_puti C h (pc := 2) (ws' := [((b 10), oS b (-1) S_cells S_top S_bottom S_left S_right)]) xf_X5_11 xp_X5 rfl 0 rfl rfl (Nat.le_of_ble_eq_true rfl) rfl dX5_forget_2 (fun H locs h => ?_)
  have e9 := Option.some.inj hf
  subst e9
  exact hret _ _ _ _ dX5_forget_5 h
abbrev rm_sp_span : Room := { frames := 0, cells := 0, slots := 0, locals := 0 }
set_option maxHeartbeats 4000000 in
set_option maxRecDepth 100000 in
theorem c_sp_span (l : Launch) (D : va_G) (cI cJ cZ cO : ClassId) (b : Nat → Nat) (l0 : Int) (l1 : Int) (N : Nat) (Res : Int) (hf : f_sp_span N l0 l1 = some Res) : CoI l D (xT cI cJ cZ cO) yX5_span cX5_span 2 (some .int) rm_sp_span [iv l0, iv l1] [] Res [] := by
  refine co_i (by decide) ⟨rfl, rfl⟩ (Nat.le_of_ble_eq_true rfl) ?_
  intro p e s m args below meth c A Q ls C hret hl h
  have hx := C.1.1
  have hb := C.1.2.1
  have hl : lv_has ls 2 [(0, iv l0), (1, iv l1)] := hl
  unfold f_sp_span at hf
  refine lv_iload_n hx hb (pc := 0) dX5_span_0 rfl (lv_at hl 1 rfl) ?_
  refine lv_iload_n hx hb (pc := 1) dX5_span_1 rfl (lv_at hl 1 rfl) ?_
  refine x_iconst C (pc := 2) dX5_span_2 ?_
  refine x_iadd C (pc := 3) dX5_span_3 ?_
  refine x_imul C (pc := 4) dX5_span_4 ?_
  refine x_iconst C (pc := 5) dX5_span_5 ?_
  obtain ⟨g_1, hf⟩ := og_some hf
  refine x_idiv C (pc := 6) g_1 ⟨by decide, by decide⟩ dX5_span_6 ?_
  refine lv_iload_n hx hb (pc := 7) dX5_span_7 rfl (lv_at hl 0 rfl) ?_
  refine x_iadd C (pc := 8) dX5_span_8 ?_
  have e9 := Option.some.inj hf
  subst e9
  exact hret _ _ _ _ dX5_span_9 h
abbrev rm_sp_place : Room := { frames := 1, cells := 0, slots := 0, locals := 21 }
set_option maxHeartbeats 4000000 in
set_option maxRecDepth 100000 in
theorem c_sp_place (l : Launch) (D : va_G) (cI cJ cZ cO : ClassId) (b : Nat → Nat) (l0 : Int) (l1 : Int) (l2 : Int) (l3 : Int) (N : Nat) (Res : Int) (hf : f_sp_place N l0 l1 l2 l3 = some Res) : CoI l D (xT cI cJ cZ cO) yX5_place cX5_place 4 (some .int) rm_sp_place [iv l0, iv l1, iv l2, iv l3] [] Res [] := by
  refine co_i (by decide) ⟨rfl, rfl⟩ (Nat.le_of_ble_eq_true rfl) ?_
  intro p e s m args below meth c A Q ls C hret hl h
  have hx := C.1.1
  have hb := C.1.2.1
  have hl : lv_has ls 4 [(0, iv l0), (1, iv l1), (2, iv l2), (3, iv l3)] := hl
  unfold f_sp_place at hf
  refine lv_iload_n hx hb (pc := 0) dX5_place_0 rfl (lv_at hl 0 rfl) ?_
  refine lv_iload_n hx hb (pc := 1) dX5_place_1 rfl (lv_at hl 1 rfl) ?_
  obtain ⟨q_1, hq_1, hf⟩ := ob_some hf
  refine x_callSi C h (pc := 2) hl (c_sp_span l D cI cJ cZ cO b l0 l1 N q_1 hq_1) xs_X5_span lk_X5_114 ⟨(Nat.le_of_ble_eq_true rfl), (Nat.le_of_ble_eq_true rfl)⟩ rfl [] [] (nw := 0) (wr := []) (as := []) (ws' := []) rfl rfl rfl rfl rfl rfl rfl rfl rfl rfl (Nat.le_of_ble_eq_true rfl) dX5_place_2 (fun H locs h => ?_)
  refine x_bipush C (pc := 5) dX5_place_5 (by decide) ?_
  refine x_imul C (pc := 7) dX5_place_7 ?_
  refine lv_iload_n hx hb (pc := 8) dX5_place_8 rfl (lv_at hl 2 rfl) ?_
  refine lv_iload_n hx hb (pc := 9) dX5_place_9 rfl (lv_at hl 3 rfl) ?_
  obtain ⟨q_2, hq_2, hf⟩ := ob_some hf
  refine x_callSi C h (pc := 10) hl (c_sp_span l D cI cJ cZ cO b l2 l3 N q_2 hq_2) xs_X5_span lk_X5_114 ⟨(Nat.le_of_ble_eq_true rfl), (Nat.le_of_ble_eq_true rfl)⟩ rfl [] [] (nw := 0) (wr := []) (as := []) (ws' := []) rfl rfl rfl rfl rfl rfl rfl rfl rfl rfl (Nat.le_of_ble_eq_true rfl) dX5_place_10 (fun H locs h => ?_)
  refine x_iadd C (pc := 13) dX5_place_13 ?_
  have e9 := Option.some.inj hf
  subst e9
  exact hret _ _ _ _ dX5_place_14 h
abbrev rm_sp_pieces : Room := { frames := 2, cells := 0, slots := 0, locals := 44 }
set_option maxHeartbeats 4000000 in
set_option maxRecDepth 100000 in
theorem c_sp_pieces (l : Launch) (D : va_G) (cI cJ cZ cO : ClassId) (b : Nat → Nat) (S_planned : Int) (S_cells : BitVec 64) (S_top : Int) (S_bottom : Int) (S_left : Int) (S_right : Int) (S_w : Int → Int) (N : Nat) (Res : Int) (hf : f_sp_pieces N S_top S_bottom S_left S_right S_w = some Res) : CoI l D (xT cI cJ cZ cO) yX5_pieces cX5_pieces 1 (some .int) rm_sp_pieces [.ref (b 10)] [((b 10), oS b S_planned S_cells S_top S_bottom S_left S_right), ((b 11), aI cI 784 S_w)] Res [((b 10), oS b S_planned S_cells S_top S_bottom S_left S_right), ((b 11), aI cI 784 S_w)] := by
  refine co_i (by decide) ⟨rfl, rfl⟩ (Nat.le_of_ble_eq_true rfl) ?_
  intro p e s m args below meth c A Q ls C hret hl h
  have hx := C.1.1
  have hb := C.1.2.1
  have hl : lv_has ls 1 [(0, .ref (b 10))] := hl
  unfold f_sp_pieces at hf
  refine lv_aload_n hx hb (pc := 0) dX5_pieces_0 rfl (lv_at hl 0 rfl) ?_
  refine x_get C h (pc := 1) xf_X5_31 0 rfl (v := .ref (b 11)) rfl dX5_pieces_1 ?_
  refine lv_aload_n hx hb (pc := 4) dX5_pieces_4 rfl (lv_at hl 0 rfl) ?_
  refine x_get C h (pc := 5) xf_X5_19 0 rfl (v := iv S_top) rfl dX5_pieces_5 ?_
  refine lv_aload_n hx hb (pc := 8) dX5_pieces_8 rfl (lv_at hl 0 rfl) ?_
  refine x_get C h (pc := 9) xf_X5_22 0 rfl (v := iv S_bottom) rfl dX5_pieces_9 ?_
  refine lv_aload_n hx hb (pc := 12) dX5_pieces_12 rfl (lv_at hl 0 rfl) ?_
  refine x_get C h (pc := 13) xf_X5_25 0 rfl (v := iv S_left) rfl dX5_pieces_13 ?_
  refine lv_aload_n hx hb (pc := 16) dX5_pieces_16 rfl (lv_at hl 0 rfl) ?_
  refine x_get C h (pc := 17) xf_X5_28 0 rfl (v := iv S_right) rfl dX5_pieces_17 ?_
  obtain ⟨q_1, hq_1, hf⟩ := ob_some hf
  refine x_callSi C h (pc := 20) hl (c_sp_place l D cI cJ cZ cO b S_top S_bottom S_left S_right N q_1 hq_1) xs_X5_place lk_X5_42 ⟨(Nat.le_of_ble_eq_true rfl), (Nat.le_of_ble_eq_true rfl)⟩ rfl [] [0, 1] (nw := 2) (wr := [((b 10), oS b S_planned S_cells S_top S_bottom S_left S_right), ((b 11), aI cI 784 S_w)]) (as := [(b 10), (b 11)]) (ws' := [((b 10), oS b S_planned S_cells S_top S_bottom S_left S_right), ((b 11), aI cI 784 S_w)]) rfl rfl rfl rfl rfl rfl rfl rfl rfl rfl (Nat.le_of_ble_eq_true rfl) dX5_pieces_20 (fun H locs h => ?_)
  obtain ⟨g_2, hf⟩ := og_some hf
  refine x_iald C h (pc := 23) 1 0 rfl rfl (Nat.le_of_ble_eq_true rfl) g_2 dX5_pieces_23 ?_
  refine x_sipush C (pc := 24) dX5_pieces_24 (by decide) ?_
  obtain ⟨g_3, hf⟩ := og_some hf
  refine x_idiv C (pc := 27) g_3 ⟨by decide, by decide⟩ dX5_pieces_27 ?_
  have e9 := Option.some.inj hf
  subst e9
  exact hret _ _ _ _ dX5_pieces_28 h
abbrev rm_sp_lead : Room := { frames := 2, cells := 0, slots := 0, locals := 44 }
set_option maxHeartbeats 4000000 in
set_option maxRecDepth 100000 in
theorem c_sp_lead (l : Launch) (D : va_G) (cI cJ cZ cO : ClassId) (b : Nat → Nat) (S_planned : Int) (S_cells : BitVec 64) (S_top : Int) (S_bottom : Int) (S_left : Int) (S_right : Int) (S_w : Int → Int) (N : Nat) (Res : Int) (hf : f_sp_lead N S_top S_bottom S_left S_right S_w = some Res) : CoI l D (xT cI cJ cZ cO) yX5_lead cX5_lead 1 (some .int) rm_sp_lead [.ref (b 10)] [((b 10), oS b S_planned S_cells S_top S_bottom S_left S_right), ((b 11), aI cI 784 S_w)] Res [((b 10), oS b S_planned S_cells S_top S_bottom S_left S_right), ((b 11), aI cI 784 S_w)] := by
  refine co_i (by decide) ⟨rfl, rfl⟩ (Nat.le_of_ble_eq_true rfl) ?_
  intro p e s m args below meth c A Q ls C hret hl h
  have hx := C.1.1
  have hb := C.1.2.1
  have hl : lv_has ls 1 [(0, .ref (b 10))] := hl
  unfold f_sp_lead at hf
  refine lv_aload_n hx hb (pc := 0) dX5_lead_0 rfl (lv_at hl 0 rfl) ?_
  refine x_get C h (pc := 1) xf_X5_31 0 rfl (v := .ref (b 11)) rfl dX5_lead_1 ?_
  refine lv_aload_n hx hb (pc := 4) dX5_lead_4 rfl (lv_at hl 0 rfl) ?_
  refine x_get C h (pc := 5) xf_X5_19 0 rfl (v := iv S_top) rfl dX5_lead_5 ?_
  refine lv_aload_n hx hb (pc := 8) dX5_lead_8 rfl (lv_at hl 0 rfl) ?_
  refine x_get C h (pc := 9) xf_X5_22 0 rfl (v := iv S_bottom) rfl dX5_lead_9 ?_
  refine lv_aload_n hx hb (pc := 12) dX5_lead_12 rfl (lv_at hl 0 rfl) ?_
  refine x_get C h (pc := 13) xf_X5_25 0 rfl (v := iv S_left) rfl dX5_lead_13 ?_
  refine lv_aload_n hx hb (pc := 16) dX5_lead_16 rfl (lv_at hl 0 rfl) ?_
  refine x_get C h (pc := 17) xf_X5_28 0 rfl (v := iv S_right) rfl dX5_lead_17 ?_
  obtain ⟨q_1, hq_1, hf⟩ := ob_some hf
  refine x_callSi C h (pc := 20) hl (c_sp_place l D cI cJ cZ cO b S_top S_bottom S_left S_right N q_1 hq_1) xs_X5_place lk_X5_42 ⟨(Nat.le_of_ble_eq_true rfl), (Nat.le_of_ble_eq_true rfl)⟩ rfl [] [0, 1] (nw := 2) (wr := [((b 10), oS b S_planned S_cells S_top S_bottom S_left S_right), ((b 11), aI cI 784 S_w)]) (as := [(b 10), (b 11)]) (ws' := [((b 10), oS b S_planned S_cells S_top S_bottom S_left S_right), ((b 11), aI cI 784 S_w)]) rfl rfl rfl rfl rfl rfl rfl rfl rfl rfl (Nat.le_of_ble_eq_true rfl) dX5_lead_20 (fun H locs h => ?_)
  obtain ⟨g_2, hf⟩ := og_some hf
  refine x_iald C h (pc := 23) 1 0 rfl rfl (Nat.le_of_ble_eq_true rfl) g_2 dX5_lead_23 ?_
  refine x_sipush C (pc := 24) dX5_lead_24 (by decide) ?_
  obtain ⟨g_3, hf⟩ := og_some hf
  refine x_irem C (pc := 27) g_3 ⟨by decide, by decide⟩ dX5_lead_27 ?_
  have e9 := Option.some.inj hf
  subst e9
  exact hret _ _ _ _ dX5_lead_28 h
abbrev rm_sp_frame : Room := { frames := 1, cells := 0, slots := 0, locals := 24 }
set_option maxHeartbeats 4000000 in
set_option maxRecDepth 100000 in
theorem w_sp_frame_24 {p : Program} {l : Launch} {e : Env} {s : State} {m : MethodId} {args : Array Value} {below : List Frame} {meth : Method} {c : Code} {Q : State → Prop} {D : va_G} {cI cJ cZ cO : ClassId} {A : Nat → Prop} {H0 : Heap} {w0 : Cond} (C : XC p s m args c cX5_frame 2 RX5 w0 D (xT cI cJ cZ cO)) (b : Nat → Nat) (S_planned : Int) (S_cells : BitVec 64) (Res : Int × Int × Int × Int) (hret : XRV p l e rm_sp_frame s m args below meth c cX5_frame D A H0 Q [((b 10), oS b S_planned S_cells Res.1 Res.2.1 Res.2.2.1 Res.2.2.2)]) (N : Nat) : ∀ (n : Nat) (l1 : Int) (S_top : Int) (S_bottom : Int) (S_left : Int) (S_right : Int) (ls : Array Slot) (H : Heap) (locs : List Loc), lv_has ls 2 [(0, .ref (b 10)), (1, iv l1)] → XH D A H0 [((b 10), oS b S_planned S_cells S_top S_bottom S_left S_right)] H locs → f_sp_frame_24 N S_cells n l1 S_top S_bottom S_left S_right = some Res → W p l e rm_sp_frame s m args below meth c H locs 0 0 Q (F0 m 24 ls []) := by
  have hx := C.1.1
  have hb := C.1.2.1
  intro n
  induction n with
  | zero => intro l1 S_top S_bottom S_left S_right ls H locs hl h hf; cases hf
  | succ n ih =>
    intro l1 S_top S_bottom S_left S_right ls H locs hl h hf
    rw [f_sp_frame_24.eq_2] at hf
    refine lv_iload_n hx hb (pc := 24) dX5_frame_24 rfl (lv_at hl 1 rfl) ?_
    refine x_bipush C (pc := 25) dX5_frame_25 (by decide) ?_
    obtain ⟨g_13, hf⟩ := og_some hf
    refine x_icmpge C (pc := 27) (tgt := 98) g_13 ⟨by decide, by decide⟩ dX5_frame_27 rfl (fun hc => ?_) (fun hc => ?_)
    · have hf := oi_t hf hc
      have e9 := Option.some.inj hf
      subst e9
      exact hret _ _ _ _ dX5_frame_98 h
    · have hf := oi_f hf hc
      refine lv_aload_n hx hb (pc := 30) dX5_frame_30 rfl (lv_at hl 0 rfl) ?_
      refine x_get C h (pc := 31) xf_X5_15 0 rfl (v := lv S_cells) rfl dX5_frame_31 ?_
      refine lv_iload_n hx hb (pc := 34) dX5_frame_34 rfl (lv_at hl 1 rfl) ?_
      obtain ⟨q_14, hq_14, hf⟩ := ob_some hf
      obtain ⟨r_17, hrr_17, hf⟩ := ob_some hf
      have Jr_17 : ∀ (ls : Array Slot) (H : Heap) (locs : List Loc), lv_has ls 2 [(0, .ref (b 10)), (1, iv l1)] → XH D A H0 [((b 10), oS b S_planned S_cells r_17.1 r_17.2 S_left S_right)] H locs → W p l e rm_sp_frame s m args below meth c H locs 0 0 Q (F0 m 61 ls []) := by
        intro ls H locs hl h
        refine lv_aload_n hx hb (pc := 61) dX5_frame_61 rfl (lv_at hl 0 rfl) ?_
        refine x_get C h (pc := 62) xf_X5_15 0 rfl (v := lv S_cells) rfl dX5_frame_62 ?_
        refine lv_iload_n hx hb (pc := 65) dX5_frame_65 rfl (lv_at hl 1 rfl) ?_
        obtain ⟨q_18, hq_18, hf⟩ := ob_some hf
        obtain ⟨r_23, hrr_23, hf⟩ := ob_some hf
        have Jr_23 : ∀ (ls : Array Slot) (H : Heap) (locs : List Loc), lv_has ls 2 [(0, .ref (b 10)), (1, iv r_23.1)] → XH D A H0 [((b 10), oS b S_planned S_cells r_17.1 r_17.2 r_23.2.1 r_23.2.2)] H locs → W p l e rm_sp_frame s m args below meth c H locs 0 0 Q (F0 m 24 ls []) := by
          intro ls H locs hl h
          exact ih r_23.1 r_17.1 r_17.2 r_23.2.1 r_23.2.2 _ _ _ (lv_sub hl [0, 1] rfl) h hf
        clear hf
        have hf := hrr_23
        refine x_callSl C h (pc := 66) hl (c_ce_inColumn l D cI cJ cZ cO l1 N q_18 hq_18) xs_X0_inColumn lk_X5_68 ⟨(Nat.le_of_ble_eq_true rfl), (Nat.le_of_ble_eq_true rfl)⟩ rfl [] [0] (nw := 1) (wr := [((b 10), oS b S_planned S_cells r_17.1 r_17.2 S_left S_right)]) (as := [(b 10)]) (ws' := [((b 10), oS b S_planned S_cells r_17.1 r_17.2 S_left S_right)]) rfl rfl rfl rfl rfl rfl rfl rfl rfl rfl (Nat.le_of_ble_eq_true rfl) dX5_frame_66 (fun H locs h => ?_)
        refine x_land C (pc := 69) dX5_frame_69 ?_
        refine x_lconst C (pc := 70) (x := 0#64) rfl dX5_frame_70 ?_
        refine x_lcmpeq C (pc := 71) (tgt := 92) dX5_frame_71 dX5_frame_72 rfl (fun hc => ?_) (fun hc => ?_)
        · have hf := oi_t hf hc
          obtain ⟨l1_19, el1_19, hf⟩ := ol_some hf
          refine x_iinc C (pc := 92) (k := 1) (lw' := [(1, iv l1_19), (0, .ref (b 10))]) dX5_frame_92 hl rfl el1_19 (Nat.le_of_ble_eq_true rfl) rfl (fun ls hl => ?_)
          refine lv_goto hx hb (pc := 95) (tgt := 24) dX5_frame_95 rfl ?_
          have e9 := Option.some.inj hf
          subst e9
          exact Jr_23 _ _ _ (lv_sub hl [1, 0] rfl) h
        · have hf := oi_f hf hc
          refine lv_aload_n hx hb (pc := 75) dX5_frame_75 rfl (lv_at hl 0 rfl) ?_
          refine lv_aload_n hx hb (pc := 76) dX5_frame_76 rfl (lv_at hl 0 rfl) ?_
          refine x_get C h (pc := 77) xf_X5_25 0 rfl (v := iv S_left) rfl dX5_frame_77 ?_
          refine lv_iload_n hx hb (pc := 80) dX5_frame_80 rfl (lv_at hl 1 rfl) ?_
          obtain ⟨g_20, hf⟩ := og_some hf
          refine x_mmin C (pc := 81) hl lk_X5_62 ⟨(Nat.le_of_ble_eq_true rfl), (Nat.le_of_ble_eq_true rfl)⟩ (Nat.zero_le _) (Nat.zero_le _) g_20 g_13 dX5_frame_81 ?_
          obtain ⟨S_left_21, eS_left_21, hf⟩ := ol_some hf
          refine x_topi eS_left_21 ?_
          refine x_puti C h (pc := 84) (ws' := [((b 10), oS b S_planned S_cells r_17.1 r_17.2 S_left_21 S_right)]) xf_X5_25 xp_X5 rfl 0 rfl rfl (Nat.le_of_ble_eq_true rfl) rfl dX5_frame_84 (fun H locs h => ?_)
          refine lv_aload_n hx hb (pc := 87) dX5_frame_87 rfl (lv_at hl 0 rfl) ?_
          refine lv_iload_n hx hb (pc := 88) dX5_frame_88 rfl (lv_at hl 1 rfl) ?_
          refine x_puti C h (pc := 89) (ws' := [((b 10), oS b S_planned S_cells r_17.1 r_17.2 S_left_21 l1)]) xf_X5_28 xp_X5 rfl 0 rfl rfl (Nat.le_of_ble_eq_true rfl) rfl dX5_frame_89 (fun H locs h => ?_)
          obtain ⟨l1_22, el1_22, hf⟩ := ol_some hf
          refine x_iinc C (pc := 92) (k := 1) (lw' := [(1, iv l1_22), (0, .ref (b 10))]) dX5_frame_92 hl rfl el1_22 (Nat.le_of_ble_eq_true rfl) rfl (fun ls hl => ?_)
          refine lv_goto hx hb (pc := 95) (tgt := 24) dX5_frame_95 rfl ?_
          have e9 := Option.some.inj hf
          subst e9
          exact Jr_23 _ _ _ (lv_sub hl [1, 0] rfl) h
      clear hf
      have hf := hrr_17
      refine x_callSl C h (pc := 35) hl (c_ce_inRow l D cI cJ cZ cO l1 N q_14 hq_14) xs_X0_inRow lk_X5_58 ⟨(Nat.le_of_ble_eq_true rfl), (Nat.le_of_ble_eq_true rfl)⟩ rfl [] [0] (nw := 1) (wr := [((b 10), oS b S_planned S_cells S_top S_bottom S_left S_right)]) (as := [(b 10)]) (ws' := [((b 10), oS b S_planned S_cells S_top S_bottom S_left S_right)]) rfl rfl rfl rfl rfl rfl rfl rfl rfl rfl (Nat.le_of_ble_eq_true rfl) dX5_frame_35 (fun H locs h => ?_)
      refine x_land C (pc := 38) dX5_frame_38 ?_
      refine x_lconst C (pc := 39) (x := 0#64) rfl dX5_frame_39 ?_
      refine x_lcmpeq C (pc := 40) (tgt := 61) dX5_frame_40 dX5_frame_41 rfl (fun hc => ?_) (fun hc => ?_)
      · have hf := oi_t hf hc
        have e9 := Option.some.inj hf
        subst e9
        exact Jr_17 _ _ _ (lv_sub hl [0, 1] rfl) h
      · have hf := oi_f hf hc
        refine lv_aload_n hx hb (pc := 44) dX5_frame_44 rfl (lv_at hl 0 rfl) ?_
        refine lv_aload_n hx hb (pc := 45) dX5_frame_45 rfl (lv_at hl 0 rfl) ?_
        refine x_get C h (pc := 46) xf_X5_19 0 rfl (v := iv S_top) rfl dX5_frame_46 ?_
        refine lv_iload_n hx hb (pc := 49) dX5_frame_49 rfl (lv_at hl 1 rfl) ?_
        obtain ⟨g_15, hf⟩ := og_some hf
        refine x_mmin C (pc := 50) hl lk_X5_62 ⟨(Nat.le_of_ble_eq_true rfl), (Nat.le_of_ble_eq_true rfl)⟩ (Nat.zero_le _) (Nat.zero_le _) g_15 g_13 dX5_frame_50 ?_
        obtain ⟨S_top_16, eS_top_16, hf⟩ := ol_some hf
        refine x_topi eS_top_16 ?_
        refine x_puti C h (pc := 53) (ws' := [((b 10), oS b S_planned S_cells S_top_16 S_bottom S_left S_right)]) xf_X5_19 xp_X5 rfl 0 rfl rfl (Nat.le_of_ble_eq_true rfl) rfl dX5_frame_53 (fun H locs h => ?_)
        refine lv_aload_n hx hb (pc := 56) dX5_frame_56 rfl (lv_at hl 0 rfl) ?_
        refine lv_iload_n hx hb (pc := 57) dX5_frame_57 rfl (lv_at hl 1 rfl) ?_
        refine x_puti C h (pc := 58) (ws' := [((b 10), oS b S_planned S_cells S_top_16 l1 S_left S_right)]) xf_X5_22 xp_X5 rfl 0 rfl rfl (Nat.le_of_ble_eq_true rfl) rfl dX5_frame_58 (fun H locs h => ?_)
        have e9 := Option.some.inj hf
        subst e9
        exact Jr_17 _ _ _ (lv_sub hl [0, 1] rfl) h
set_option maxHeartbeats 4000000 in
set_option maxRecDepth 100000 in
theorem c_sp_frame (l : Launch) (D : va_G) (cI cJ cZ cO : ClassId) (b : Nat → Nat) (S_planned : Int) (S_cells : BitVec 64) (S_top : Int) (S_bottom : Int) (S_left : Int) (S_right : Int) (N : Nat) (Res : Int × Int × Int × Int) (hf : f_sp_frame N S_cells S_top S_bottom S_left S_right = some Res) : CoV l D (xT cI cJ cZ cO) yX5_frame cX5_frame 2 none rm_sp_frame [.ref (b 10)] [((b 10), oS b S_planned S_cells S_top S_bottom S_left S_right)] [((b 10), oS b S_planned S_cells Res.1 Res.2.1 Res.2.2.1 Res.2.2.2)] := by
  refine co_v (by decide) ⟨rfl, rfl⟩ (Nat.le_of_ble_eq_true rfl) ?_
  intro p e s m args below meth c A Q ls C hret hl h
  have hx := C.1.1
  have hb := C.1.2.1
  have hl : lv_has ls 2 [(0, .ref (b 10))] := hl
  unfold f_sp_frame at hf
  refine lv_aload_n hx hb (pc := 0) dX5_frame_0 rfl (lv_at hl 0 rfl) ?_
  refine x_bipush C (pc := 1) dX5_frame_1 (by decide) ?_
  refine x_puti C h (pc := 3) (ws' := [((b 10), oS b S_planned S_cells 6 S_bottom S_left S_right)]) xf_X5_19 xp_X5 rfl 0 rfl rfl (Nat.le_of_ble_eq_true rfl) rfl dX5_frame_3 (fun H locs h => ?_)
  refine lv_aload_n hx hb (pc := 6) dX5_frame_6 rfl (lv_at hl 0 rfl) ?_
  refine x_iconst C (pc := 7) dX5_frame_7 ?_
  refine x_puti C h (pc := 8) (ws' := [((b 10), oS b S_planned S_cells 6 0 S_left S_right)]) xf_X5_22 xp_X5 rfl 0 rfl rfl (Nat.le_of_ble_eq_true rfl) rfl dX5_frame_8 (fun H locs h => ?_)
  refine lv_aload_n hx hb (pc := 11) dX5_frame_11 rfl (lv_at hl 0 rfl) ?_
  refine x_bipush C (pc := 12) dX5_frame_12 (by decide) ?_
  refine x_puti C h (pc := 14) (ws' := [((b 10), oS b S_planned S_cells 6 0 6 S_right)]) xf_X5_25 xp_X5 rfl 0 rfl rfl (Nat.le_of_ble_eq_true rfl) rfl dX5_frame_14 (fun H locs h => ?_)
  refine lv_aload_n hx hb (pc := 17) dX5_frame_17 rfl (lv_at hl 0 rfl) ?_
  refine x_iconst C (pc := 18) dX5_frame_18 ?_
  refine x_puti C h (pc := 19) (ws' := [((b 10), oS b S_planned S_cells 6 0 6 0)]) xf_X5_28 xp_X5 rfl 0 rfl rfl (Nat.le_of_ble_eq_true rfl) rfl dX5_frame_19 (fun H locs h => ?_)
  refine x_iconst C (pc := 22) dX5_frame_22 ?_
  refine lv_istore_n hx hb (pc := 23) (lv' := [(1, iv 0), (0, .ref (b 10))]) dX5_frame_23 rfl hl (Nat.le_of_ble_eq_true rfl) rfl (fun ls hl => ?_)
  exact w_sp_frame_24 C b S_planned S_cells Res hret N N 0 6 0 6 0 _ _ _ (lv_sub hl [1, 0] rfl) h hf
abbrev rm_sp_crossedBelow : Room := { frames := 1, cells := 0, slots := 0, locals := 20 }
set_option maxHeartbeats 4000000 in
set_option maxRecDepth 100000 in
theorem c_sp_crossedBelow (l : Launch) (D : va_G) (cI cJ cZ cO : ClassId) (b : Nat → Nat) (P_all : BitVec 64) (P_jr : BitVec 64) (P_jb : BitVec 64) (P_count : Int) (S_planned : Int) (S_cells : BitVec 64) (S_top : Int) (S_bottom : Int) (S_left : Int) (S_right : Int) (l1 : BitVec 64) (l3 : Int) (N : Nat) (Res : BitVec 64) (hf : f_sp_crossedBelow N l1 l3 P_jb = some Res) : CoL l D (xT cI cJ cZ cO) yX5_crossedBelow cX5_crossedBelow 4 (some .long) rm_sp_crossedBelow [.ref (b 10), lv l1, iv l3] [((b 7), oP b P_all P_jr P_jb P_count), ((b 10), oS b S_planned S_cells S_top S_bottom S_left S_right)] Res [((b 7), oP b P_all P_jr P_jb P_count), ((b 10), oS b S_planned S_cells S_top S_bottom S_left S_right)] := by
  refine co_l (by decide) ⟨rfl, rfl⟩ (Nat.le_of_ble_eq_true rfl) ?_
  intro p e s m args below meth c A Q ls C hret hl h
  have hx := C.1.1
  have hb := C.1.2.1
  have hl : lv_has ls 4 [(0, .ref (b 10)), (1, lv l1), (3, iv l3)] := hl
  unfold f_sp_crossedBelow at hf
  refine lv_lload_n hx hb (pc := 0) dX5_crossedBelow_0 rfl (lv_at hl 1 rfl) ?_
  refine lv_aload_n hx hb (pc := 1) dX5_crossedBelow_1 rfl (lv_at hl 0 rfl) ?_
  refine x_get C h (pc := 2) xf_X5_38 1 rfl (v := .ref (b 7)) rfl dX5_crossedBelow_2 ?_
  refine x_get C h (pc := 5) xf_X5_96 0 rfl (v := lv P_jb) rfl dX5_crossedBelow_5 ?_
  refine x_land C (pc := 8) dX5_crossedBelow_8 ?_
  refine lv_iload_n hx hb (pc := 9) dX5_crossedBelow_9 rfl (lv_at hl 2 rfl) ?_
  obtain ⟨q_1, hq_1, hf⟩ := ob_some hf
  refine x_callSl C h (pc := 10) hl (c_ce_inRow l D cI cJ cZ cO l3 N q_1 hq_1) xs_X0_inRow lk_X5_58 ⟨(Nat.le_of_ble_eq_true rfl), (Nat.le_of_ble_eq_true rfl)⟩ rfl [] [0, 1] (nw := 2) (wr := [((b 7), oP b P_all P_jr P_jb P_count), ((b 10), oS b S_planned S_cells S_top S_bottom S_left S_right)]) (as := [(b 7), (b 10)]) (ws' := [((b 7), oP b P_all P_jr P_jb P_count), ((b 10), oS b S_planned S_cells S_top S_bottom S_left S_right)]) rfl rfl rfl rfl rfl rfl rfl rfl rfl rfl (Nat.le_of_ble_eq_true rfl) dX5_crossedBelow_10 (fun H locs h => ?_)
  refine x_land C (pc := 13) dX5_crossedBelow_13 ?_
  have e9 := Option.some.inj hf
  subst e9
  exact hret _ _ _ _ dX5_crossedBelow_14 h
abbrev rm_sp_crossedRight : Room := { frames := 1, cells := 0, slots := 0, locals := 20 }
set_option maxHeartbeats 4000000 in
set_option maxRecDepth 100000 in
theorem c_sp_crossedRight (l : Launch) (D : va_G) (cI cJ cZ cO : ClassId) (b : Nat → Nat) (P_all : BitVec 64) (P_jr : BitVec 64) (P_jb : BitVec 64) (P_count : Int) (S_planned : Int) (S_cells : BitVec 64) (S_top : Int) (S_bottom : Int) (S_left : Int) (S_right : Int) (l1 : BitVec 64) (l3 : Int) (N : Nat) (Res : BitVec 64) (hf : f_sp_crossedRight N l1 l3 P_jr = some Res) : CoL l D (xT cI cJ cZ cO) yX5_crossedRight cX5_crossedRight 4 (some .long) rm_sp_crossedRight [.ref (b 10), lv l1, iv l3] [((b 7), oP b P_all P_jr P_jb P_count), ((b 10), oS b S_planned S_cells S_top S_bottom S_left S_right)] Res [((b 7), oP b P_all P_jr P_jb P_count), ((b 10), oS b S_planned S_cells S_top S_bottom S_left S_right)] := by
  refine co_l (by decide) ⟨rfl, rfl⟩ (Nat.le_of_ble_eq_true rfl) ?_
  intro p e s m args below meth c A Q ls C hret hl h
  have hx := C.1.1
  have hb := C.1.2.1
  have hl : lv_has ls 4 [(0, .ref (b 10)), (1, lv l1), (3, iv l3)] := hl
  unfold f_sp_crossedRight at hf
  refine lv_lload_n hx hb (pc := 0) dX5_crossedRight_0 rfl (lv_at hl 1 rfl) ?_
  refine lv_aload_n hx hb (pc := 1) dX5_crossedRight_1 rfl (lv_at hl 0 rfl) ?_
  refine x_get C h (pc := 2) xf_X5_38 1 rfl (v := .ref (b 7)) rfl dX5_crossedRight_2 ?_
  refine x_get C h (pc := 5) xf_X5_99 0 rfl (v := lv P_jr) rfl dX5_crossedRight_5 ?_
  refine x_land C (pc := 8) dX5_crossedRight_8 ?_
  refine lv_iload_n hx hb (pc := 9) dX5_crossedRight_9 rfl (lv_at hl 2 rfl) ?_
  obtain ⟨q_1, hq_1, hf⟩ := ob_some hf
  refine x_callSl C h (pc := 10) hl (c_ce_inColumn l D cI cJ cZ cO l3 N q_1 hq_1) xs_X0_inColumn lk_X5_68 ⟨(Nat.le_of_ble_eq_true rfl), (Nat.le_of_ble_eq_true rfl)⟩ rfl [] [0, 1] (nw := 2) (wr := [((b 7), oP b P_all P_jr P_jb P_count), ((b 10), oS b S_planned S_cells S_top S_bottom S_left S_right)]) (as := [(b 7), (b 10)]) (ws' := [((b 7), oP b P_all P_jr P_jb P_count), ((b 10), oS b S_planned S_cells S_top S_bottom S_left S_right)]) rfl rfl rfl rfl rfl rfl rfl rfl rfl rfl (Nat.le_of_ble_eq_true rfl) dX5_crossedRight_10 (fun H locs h => ?_)
  refine x_land C (pc := 13) dX5_crossedRight_13 ?_
  have e9 := Option.some.inj hf
  subst e9
  exact hret _ _ _ _ dX5_crossedRight_14 h
abbrev rm_sp_offer : Room := { frames := 0, cells := 0, slots := 0, locals := 0 }
set_option maxHeartbeats 4000000 in
set_option maxRecDepth 100000 in
theorem c_sp_offer (l : Launch) (D : va_G) (cI cJ cZ cO : ClassId) (b : Nat → Nat) (S_planned : Int) (S_cells : BitVec 64) (S_top : Int) (S_bottom : Int) (S_left : Int) (S_right : Int) (S_w : Int → Int) (S_l : Int → Int) (l1 : Int) (l2 : Int) (l3 : Int) (N : Nat) (Res : (Int → Int) × (Int → Int)) (hf : f_sp_offer N l1 l2 l3 S_w S_l = some Res) : CoV l D (xT cI cJ cZ cO) yX5_offer cX5_offer 4 none rm_sp_offer [.ref (b 10), iv l1, iv l2, iv l3] [((b 10), oS b S_planned S_cells S_top S_bottom S_left S_right), ((b 11), aI cI 784 S_w), ((b 12), aI cI 784 S_l)] [((b 10), oS b S_planned S_cells S_top S_bottom S_left S_right), ((b 11), aI cI 784 Res.1), ((b 12), aI cI 784 Res.2)] := by
  refine co_v (by decide) ⟨rfl, rfl⟩ (Nat.le_of_ble_eq_true rfl) ?_
  intro p e s m args below meth c A Q ls C hret hl h
  have hx := C.1.1
  have hb := C.1.2.1
  have hl : lv_has ls 4 [(0, .ref (b 10)), (1, iv l1), (2, iv l2), (3, iv l3)] := hl
  unfold f_sp_offer at hf
  refine lv_iload_n hx hb (pc := 0) dX5_offer_0 rfl (lv_at hl 2 rfl) ?_
  refine lv_aload_n hx hb (pc := 1) dX5_offer_1 rfl (lv_at hl 0 rfl) ?_
  refine x_get C h (pc := 2) xf_X5_31 0 rfl (v := .ref (b 11)) rfl dX5_offer_2 ?_
  refine lv_iload_n hx hb (pc := 5) dX5_offer_5 rfl (lv_at hl 1 rfl) ?_
  obtain ⟨g_1, hf⟩ := og_some hf
  refine x_iald C h (pc := 6) 1 0 rfl rfl (Nat.le_of_ble_eq_true rfl) g_1 dX5_offer_6 ?_
  obtain ⟨g_2, hf⟩ := og_some hf
  obtain ⟨g_3, hf⟩ := og_some hf
  refine x_icmpge C (pc := 7) (tgt := 24) g_2 g_3 dX5_offer_7 rfl (fun hc => ?_) (fun hc => ?_)
  · have hf := oi_t hf hc
    have e9 := Option.some.inj hf
    subst e9
    exact hret _ _ _ _ dX5_offer_24 h
  · have hf := oi_f hf hc
    refine lv_aload_n hx hb (pc := 10) dX5_offer_10 rfl (lv_at hl 0 rfl) ?_
    refine x_get C h (pc := 11) xf_X5_31 0 rfl (v := .ref (b 11)) rfl dX5_offer_11 ?_
    refine lv_iload_n hx hb (pc := 14) dX5_offer_14 rfl (lv_at hl 1 rfl) ?_
    refine lv_iload_n hx hb (pc := 15) dX5_offer_15 rfl (lv_at hl 2 rfl) ?_
    obtain ⟨S_w_4, eS_w_4, hf⟩ := ol_some hf
    refine x_iast C h (pc := 16) (ws' := [((b 10), oS b S_planned S_cells S_top S_bottom S_left S_right), ((b 11), aI cI 784 S_w_4), ((b 12), aI cI 784 S_l)]) 1 0 rfl rfl (Nat.le_of_ble_eq_true rfl) g_1 eS_w_4 rfl dX5_offer_16 (fun H locs h => ?_)
    refine lv_aload_n hx hb (pc := 17) dX5_offer_17 rfl (lv_at hl 0 rfl) ?_
    refine x_get C h (pc := 18) xf_X5_35 0 rfl (v := .ref (b 12)) rfl dX5_offer_18 ?_
    refine lv_iload_n hx hb (pc := 21) dX5_offer_21 rfl (lv_at hl 1 rfl) ?_
    refine lv_iload_n hx hb (pc := 22) dX5_offer_22 rfl (lv_at hl 3 rfl) ?_
    obtain ⟨S_l_5, eS_l_5, hf⟩ := ol_some hf
    refine x_iast C h (pc := 23) (ws' := [((b 10), oS b S_planned S_cells S_top S_bottom S_left S_right), ((b 11), aI cI 784 S_w_4), ((b 12), aI cI 784 S_l_5)]) 2 0 rfl rfl (Nat.le_of_ble_eq_true rfl) g_1 eS_l_5 rfl dX5_offer_23 (fun H locs h => ?_)
    have e9 := Option.some.inj hf
    subst e9
    exact hret _ _ _ _ dX5_offer_24 h
abbrev rm_sp_planPart : Room := { frames := 4, cells := 0, slots := 0, locals := 111 }
set_option maxHeartbeats 4000000 in
set_option maxRecDepth 100000 in
theorem w_sp_planPart_146 {p : Program} {l : Launch} {e : Env} {s : State} {m : MethodId} {args : Array Value} {below : List Frame} {meth : Method} {c : Code} {Q : State → Prop} {D : va_G} {cI cJ cZ cO : ClassId} {A : Nat → Prop} {H0 : Heap} {w0 : Cond} (C : XC p s m args c cX5_planPart 11 RX5 w0 D (xT cI cJ cZ cO)) (b : Nat → Nat) (D_rows : Int) (D_cols : Int) (D_cr : BitVec 64) (D_cb : BitVec 64) (D_cl : Int) (D_kl : Int) (P_all : BitVec 64) (P_jr : BitVec 64) (P_jb : BitVec 64) (P_count : Int) (S_planned : Int) (S_cells : BitVec 64) (S_top : Int) (S_bottom : Int) (S_left : Int) (S_right : Int) (Res : (Int → Int) × (Int → Int)) (hret : XRV p l e rm_sp_planPart s m args below meth c cX5_planPart D A H0 Q [((b 3), oD (b 4) D_rows D_cols D_cr D_cb D_cl D_kl), ((b 7), oP b P_all P_jr P_jb P_count), ((b 10), oS b S_planned S_cells S_top S_bottom S_left S_right), ((b 11), aI cI 784 Res.1), ((b 12), aI cI 784 Res.2)]) (N : Nat) (l1 : Int) (l2 : Int) (l3 : Int) (l4 : Int) (l5 : Int) (l6 : BitVec 64) : ∀ (n : Nat) (l9 : Int) (S_w : Int → Int) (S_l : Int → Int) (ls : Array Slot) (H : Heap) (locs : List Loc), lv_has ls 11 [(0, .ref (b 10)), (1, iv l1), (2, iv l2), (3, iv l3), (4, iv l4), (5, iv l5), (6, lv l6), (9, iv l9)] → XH D A H0 [((b 3), oD (b 4) D_rows D_cols D_cr D_cb D_cl D_kl), ((b 7), oP b P_all P_jr P_jb P_count), ((b 10), oS b S_planned S_cells S_top S_bottom S_left S_right), ((b 11), aI cI 784 S_w), ((b 12), aI cI 784 S_l)] H locs → f_sp_planPart_146 N l1 l2 l3 l4 l5 l6 P_jr n l9 S_w S_l = some Res → W p l e rm_sp_planPart s m args below meth c H locs 0 0 Q (F0 m 146 ls []) := by
  have hx := C.1.1
  have hb := C.1.2.1
  intro n
  induction n with
  | zero => intro l9 S_w S_l ls H locs hl h hf; cases hf
  | succ n ih =>
    intro l9 S_w S_l ls H locs hl h hf
    rw [f_sp_planPart_146.eq_2] at hf
    refine lv_iload hx hb (pc := 146) dX5_planPart_146 (lv_at hl 7 rfl) ?_
    refine lv_iload hx hb (pc := 148) dX5_planPart_148 (lv_at hl 4 rfl) ?_
    obtain ⟨g_20, hf⟩ := og_some hf
    obtain ⟨g_21, hf⟩ := og_some hf
    refine x_icmpge C (pc := 150) (tgt := 216) g_20 g_21 dX5_planPart_150 rfl (fun hc => ?_) (fun hc => ?_)
    · have hf := oi_t hf hc
      have e9 := Option.some.inj hf
      subst e9
      exact hret _ _ _ _ dX5_planPart_216 h
    · have hf := oi_f hf hc
      refine lv_aload_n hx hb (pc := 153) dX5_planPart_153 rfl (lv_at hl 0 rfl) ?_
      refine x_get C h (pc := 154) xf_X5_31 2 rfl (v := .ref (b 11)) rfl dX5_planPart_154 ?_
      refine lv_iload_n hx hb (pc := 157) dX5_planPart_157 rfl (lv_at hl 1 rfl) ?_
      refine lv_iload_n hx hb (pc := 158) dX5_planPart_158 rfl (lv_at hl 2 rfl) ?_
      refine lv_iload_n hx hb (pc := 159) dX5_planPart_159 rfl (lv_at hl 3 rfl) ?_
      refine lv_iload hx hb (pc := 160) dX5_planPart_160 (lv_at hl 7 rfl) ?_
      obtain ⟨q_22, hq_22, hf⟩ := ob_some hf
      refine x_callSi C h (pc := 162) hl (c_sp_place l D cI cJ cZ cO b l1 l2 l3 l9 N q_22 hq_22) xs_X5_place lk_X5_42 ⟨(Nat.le_of_ble_eq_true rfl), (Nat.le_of_ble_eq_true rfl)⟩ rfl [] [0, 1, 2, 3, 4] (nw := 5) (wr := [((b 3), oD (b 4) D_rows D_cols D_cr D_cb D_cl D_kl), ((b 7), oP b P_all P_jr P_jb P_count), ((b 10), oS b S_planned S_cells S_top S_bottom S_left S_right), ((b 11), aI cI 784 S_w), ((b 12), aI cI 784 S_l)]) (as := [(b 3), (b 7), (b 10), (b 11), (b 12)]) (ws' := [((b 3), oD (b 4) D_rows D_cols D_cr D_cb D_cl D_kl), ((b 7), oP b P_all P_jr P_jb P_count), ((b 10), oS b S_planned S_cells S_top S_bottom S_left S_right), ((b 11), aI cI 784 S_w), ((b 12), aI cI 784 S_l)]) rfl rfl rfl rfl rfl rfl rfl rfl rfl rfl (Nat.le_of_ble_eq_true rfl) dX5_planPart_162 (fun H locs h => ?_)
      obtain ⟨g_23, hf⟩ := og_some hf
      refine x_iald C h (pc := 165) 3 0 rfl rfl (Nat.le_of_ble_eq_true rfl) g_23 dX5_planPart_165 ?_
      refine lv_aload_n hx hb (pc := 166) dX5_planPart_166 rfl (lv_at hl 0 rfl) ?_
      refine x_get C h (pc := 167) xf_X5_31 2 rfl (v := .ref (b 11)) rfl dX5_planPart_167 ?_
      refine lv_iload_n hx hb (pc := 170) dX5_planPart_170 rfl (lv_at hl 1 rfl) ?_
      refine lv_iload_n hx hb (pc := 171) dX5_planPart_171 rfl (lv_at hl 2 rfl) ?_
      refine lv_iload hx hb (pc := 172) dX5_planPart_172 (lv_at hl 7 rfl) ?_
      refine x_iconst C (pc := 174) dX5_planPart_174 ?_
      refine x_iadd C (pc := 175) dX5_planPart_175 ?_
      refine lv_iload hx hb (pc := 176) dX5_planPart_176 (lv_at hl 4 rfl) ?_
      obtain ⟨q_24, hq_24, hf⟩ := ob_some hf
      refine x_callSi C h (pc := 178) hl (c_sp_place l D cI cJ cZ cO b l1 l2 (l9 + 1) l4 N q_24 hq_24) xs_X5_place lk_X5_42 ⟨(Nat.le_of_ble_eq_true rfl), (Nat.le_of_ble_eq_true rfl)⟩ rfl [] [0, 1, 2, 3, 4] (nw := 5) (wr := [((b 3), oD (b 4) D_rows D_cols D_cr D_cb D_cl D_kl), ((b 7), oP b P_all P_jr P_jb P_count), ((b 10), oS b S_planned S_cells S_top S_bottom S_left S_right), ((b 11), aI cI 784 S_w), ((b 12), aI cI 784 S_l)]) (as := [(b 3), (b 7), (b 10), (b 11), (b 12)]) (ws' := [((b 3), oD (b 4) D_rows D_cols D_cr D_cb D_cl D_kl), ((b 7), oP b P_all P_jr P_jb P_count), ((b 10), oS b S_planned S_cells S_top S_bottom S_left S_right), ((b 11), aI cI 784 S_w), ((b 12), aI cI 784 S_l)]) rfl rfl rfl rfl rfl rfl rfl rfl rfl rfl (Nat.le_of_ble_eq_true rfl) dX5_planPart_178 (fun H locs h => ?_)
      obtain ⟨g_25, hf⟩ := og_some hf
      refine x_iald C h (pc := 181) 3 0 rfl rfl (Nat.le_of_ble_eq_true rfl) g_25 dX5_planPart_181 ?_
      refine x_iadd C (pc := 182) dX5_planPart_182 ?_
      refine lv_aload_n hx hb (pc := 183) dX5_planPart_183 rfl (lv_at hl 0 rfl) ?_
      refine lv_lload hx hb (pc := 184) dX5_planPart_184 (lv_at hl 6 rfl) ?_
      refine lv_iload hx hb (pc := 186) dX5_planPart_186 (lv_at hl 7 rfl) ?_
      obtain ⟨q_26, hq_26, hf⟩ := ob_some hf
      refine x_callVl C h (pc := 188) hl (c_sp_crossedRight l D cI cJ cZ cO b P_all P_jr P_jb P_count S_planned S_cells S_top S_bottom S_left S_right l6 l9 N q_26 hq_26) xv_X5_crossedRight lk_X5_93 ⟨(Nat.le_of_ble_eq_true rfl), (Nat.le_of_ble_eq_true rfl)⟩ rfl [1, 2] [0, 3, 4] (nw := 5) (wr := [((b 3), oD (b 4) D_rows D_cols D_cr D_cb D_cl D_kl), ((b 11), aI cI 784 S_w), ((b 12), aI cI 784 S_l)]) (as := [(b 3), (b 7), (b 10), (b 11), (b 12)]) (ws' := [((b 3), oD (b 4) D_rows D_cols D_cr D_cb D_cl D_kl), ((b 7), oP b P_all P_jr P_jb P_count), ((b 10), oS b S_planned S_cells S_top S_bottom S_left S_right), ((b 11), aI cI 784 S_w), ((b 12), aI cI 784 S_l)]) rfl rfl rfl rfl rfl rfl rfl rfl rfl 2 rfl rfl rfl rfl (Nat.le_of_ble_eq_true rfl) dX5_planPart_188 (fun H locs h => ?_)
      refine x_callSi C h (pc := 191) hl (c_popc l D (xT cI cJ cZ cO) q_26) xs_J13_bitCount_95d88 lk_X5_84 ⟨(Nat.le_of_ble_eq_true rfl), (Nat.le_of_ble_eq_true rfl)⟩ rfl [] [0, 1, 2, 3, 4] (nw := 5) (wr := [((b 3), oD (b 4) D_rows D_cols D_cr D_cb D_cl D_kl), ((b 7), oP b P_all P_jr P_jb P_count), ((b 10), oS b S_planned S_cells S_top S_bottom S_left S_right), ((b 11), aI cI 784 S_w), ((b 12), aI cI 784 S_l)]) (as := [(b 3), (b 7), (b 10), (b 11), (b 12)]) (ws' := [((b 3), oD (b 4) D_rows D_cols D_cr D_cb D_cl D_kl), ((b 7), oP b P_all P_jr P_jb P_count), ((b 10), oS b S_planned S_cells S_top S_bottom S_left S_right), ((b 11), aI cI 784 S_w), ((b 12), aI cI 784 S_l)]) rfl rfl rfl rfl rfl rfl rfl rfl rfl rfl (Nat.le_of_ble_eq_true rfl) dX5_planPart_191 (fun H locs h => ?_)
      refine x_iadd C (pc := 194) dX5_planPart_194 ?_
      obtain ⟨l10_27, el10_27, hf⟩ := ol_some hf
      refine x_topi el10_27 ?_
      refine lv_istore hx hb (pc := 195) (lv' := [(10, iv l10_27), (0, .ref (b 10)), (1, iv l1), (2, iv l2), (3, iv l3), (4, iv l4), (5, iv l5), (6, lv l6), (9, iv l9)]) dX5_planPart_195 hl (Nat.le_of_ble_eq_true rfl) rfl (fun ls hl => ?_)
      refine lv_aload_n hx hb (pc := 197) dX5_planPart_197 rfl (lv_at hl 1 rfl) ?_
      refine lv_iload hx hb (pc := 198) dX5_planPart_198 (lv_at hl 6 rfl) ?_
      refine lv_iload hx hb (pc := 200) dX5_planPart_200 (lv_at hl 0 rfl) ?_
      refine x_bipush C (pc := 202) dX5_planPart_202 (by decide) ?_
      refine lv_iload hx hb (pc := 204) dX5_planPart_204 (lv_at hl 8 rfl) ?_
      refine x_iadd C (pc := 206) dX5_planPart_206 ?_
      obtain ⟨q_28, hq_28, hf⟩ := ob_some hf
      refine x_callVv C h (pc := 207) hl (c_sp_offer l D cI cJ cZ cO b S_planned S_cells S_top S_bottom S_left S_right S_w S_l l5 l10_27 (7 + l9) N q_28 hq_28) xv_X5_offer lk_X5_89 ⟨(Nat.le_of_ble_eq_true rfl), (Nat.le_of_ble_eq_true rfl)⟩ rfl [2, 3, 4] [0, 1] (nw := 5) (wr := [((b 3), oD (b 4) D_rows D_cols D_cr D_cb D_cl D_kl), ((b 7), oP b P_all P_jr P_jb P_count)]) (as := [(b 3), (b 7), (b 10), (b 11), (b 12)]) (ws' := [((b 3), oD (b 4) D_rows D_cols D_cr D_cb D_cl D_kl), ((b 7), oP b P_all P_jr P_jb P_count), ((b 10), oS b S_planned S_cells S_top S_bottom S_left S_right), ((b 11), aI cI 784 q_28.1), ((b 12), aI cI 784 q_28.2)]) rfl rfl rfl rfl rfl rfl rfl rfl rfl 2 rfl rfl rfl rfl (Nat.le_of_ble_eq_true rfl) dX5_planPart_207 (fun H locs h => ?_)
      obtain ⟨l9_29, el9_29, hf⟩ := ol_some hf
      refine x_iinc C (pc := 210) (k := 8) (lw' := [(9, iv l9_29), (10, iv l10_27), (0, .ref (b 10)), (1, iv l1), (2, iv l2), (3, iv l3), (4, iv l4), (5, iv l5), (6, lv l6)]) dX5_planPart_210 hl rfl el9_29 (Nat.le_of_ble_eq_true rfl) rfl (fun ls hl => ?_)
      refine lv_goto hx hb (pc := 213) (tgt := 146) dX5_planPart_213 rfl ?_
      exact ih l9_29 q_28.1 q_28.2 _ _ _ (lv_sub hl [2, 3, 4, 5, 6, 7, 8, 0] rfl) h hf
set_option maxHeartbeats 4000000 in
set_option maxRecDepth 100000 in
theorem w_sp_planPart_76 {p : Program} {l : Launch} {e : Env} {s : State} {m : MethodId} {args : Array Value} {below : List Frame} {meth : Method} {c : Code} {Q : State → Prop} {D : va_G} {cI cJ cZ cO : ClassId} {A : Nat → Prop} {H0 : Heap} {w0 : Cond} (C : XC p s m args c cX5_planPart 11 RX5 w0 D (xT cI cJ cZ cO)) (b : Nat → Nat) (D_rows : Int) (D_cols : Int) (D_cr : BitVec 64) (D_cb : BitVec 64) (D_cl : Int) (D_kl : Int) (P_all : BitVec 64) (P_jr : BitVec 64) (P_jb : BitVec 64) (P_count : Int) (S_planned : Int) (S_cells : BitVec 64) (S_top : Int) (S_bottom : Int) (S_left : Int) (S_right : Int) (Res : (Int → Int) × (Int → Int)) (hret : XRV p l e rm_sp_planPart s m args below meth c cX5_planPart D A H0 Q [((b 3), oD (b 4) D_rows D_cols D_cr D_cb D_cl D_kl), ((b 7), oP b P_all P_jr P_jb P_count), ((b 10), oS b S_planned S_cells S_top S_bottom S_left S_right), ((b 11), aI cI 784 Res.1), ((b 12), aI cI 784 Res.2)]) (N : Nat) (l1 : Int) (l2 : Int) (l3 : Int) (l4 : Int) (l5 : Int) (l6 : BitVec 64) : ∀ (n : Nat) (l9 : Int) (S_w : Int → Int) (S_l : Int → Int) (ls : Array Slot) (H : Heap) (locs : List Loc), lv_has ls 11 [(0, .ref (b 10)), (1, iv l1), (2, iv l2), (3, iv l3), (4, iv l4), (5, iv l5), (6, lv l6), (9, iv l9)] → XH D A H0 [((b 3), oD (b 4) D_rows D_cols D_cr D_cb D_cl D_kl), ((b 7), oP b P_all P_jr P_jb P_count), ((b 10), oS b S_planned S_cells S_top S_bottom S_left S_right), ((b 11), aI cI 784 S_w), ((b 12), aI cI 784 S_l)] H locs → f_sp_planPart_76 N l1 l2 l3 l4 l5 l6 P_jr P_jb n l9 S_w S_l = some Res → W p l e rm_sp_planPart s m args below meth c H locs 0 0 Q (F0 m 76 ls []) := by
  have hx := C.1.1
  have hb := C.1.2.1
  intro n
  induction n with
  | zero => intro l9 S_w S_l ls H locs hl h hf; cases hf
  | succ n ih =>
    intro l9 S_w S_l ls H locs hl h hf
    rw [f_sp_planPart_76.eq_2] at hf
    refine lv_iload hx hb (pc := 76) dX5_planPart_76 (lv_at hl 7 rfl) ?_
    refine lv_iload_n hx hb (pc := 78) dX5_planPart_78 rfl (lv_at hl 2 rfl) ?_
    obtain ⟨g_10, hf⟩ := og_some hf
    obtain ⟨g_11, hf⟩ := og_some hf
    refine x_icmpge C (pc := 79) (tgt := 143) g_10 g_11 dX5_planPart_79 rfl (fun hc => ?_) (fun hc => ?_)
    · have hf := oi_t hf hc
      refine lv_iload_n hx hb (pc := 143) dX5_planPart_143 rfl (lv_at hl 3 rfl) ?_
      refine lv_istore hx hb (pc := 144) (lv' := [(9, iv l3), (0, .ref (b 10)), (1, iv l1), (2, iv l2), (3, iv l3), (4, iv l4), (5, iv l5), (6, lv l6)]) dX5_planPart_144 hl (Nat.le_of_ble_eq_true rfl) rfl (fun ls hl => ?_)
      exact w_sp_planPart_146 C b D_rows D_cols D_cr D_cb D_cl D_kl P_all P_jr P_jb P_count S_planned S_cells S_top S_bottom S_left S_right Res hret N l1 l2 l3 l4 l5 l6 N l3 S_w S_l _ _ _ (lv_sub hl [1, 2, 3, 4, 5, 6, 7, 0] rfl) h hf
    · have hf := oi_f hf hc
      refine lv_aload_n hx hb (pc := 82) dX5_planPart_82 rfl (lv_at hl 0 rfl) ?_
      refine x_get C h (pc := 83) xf_X5_31 2 rfl (v := .ref (b 11)) rfl dX5_planPart_83 ?_
      refine lv_iload_n hx hb (pc := 86) dX5_planPart_86 rfl (lv_at hl 1 rfl) ?_
      refine lv_iload hx hb (pc := 87) dX5_planPart_87 (lv_at hl 7 rfl) ?_
      refine lv_iload_n hx hb (pc := 89) dX5_planPart_89 rfl (lv_at hl 3 rfl) ?_
      refine lv_iload hx hb (pc := 90) dX5_planPart_90 (lv_at hl 4 rfl) ?_
      obtain ⟨q_12, hq_12, hf⟩ := ob_some hf
      refine x_callSi C h (pc := 92) hl (c_sp_place l D cI cJ cZ cO b l1 l9 l3 l4 N q_12 hq_12) xs_X5_place lk_X5_42 ⟨(Nat.le_of_ble_eq_true rfl), (Nat.le_of_ble_eq_true rfl)⟩ rfl [] [0, 1, 2, 3, 4] (nw := 5) (wr := [((b 3), oD (b 4) D_rows D_cols D_cr D_cb D_cl D_kl), ((b 7), oP b P_all P_jr P_jb P_count), ((b 10), oS b S_planned S_cells S_top S_bottom S_left S_right), ((b 11), aI cI 784 S_w), ((b 12), aI cI 784 S_l)]) (as := [(b 3), (b 7), (b 10), (b 11), (b 12)]) (ws' := [((b 3), oD (b 4) D_rows D_cols D_cr D_cb D_cl D_kl), ((b 7), oP b P_all P_jr P_jb P_count), ((b 10), oS b S_planned S_cells S_top S_bottom S_left S_right), ((b 11), aI cI 784 S_w), ((b 12), aI cI 784 S_l)]) rfl rfl rfl rfl rfl rfl rfl rfl rfl rfl (Nat.le_of_ble_eq_true rfl) dX5_planPart_92 (fun H locs h => ?_)
      obtain ⟨g_13, hf⟩ := og_some hf
      refine x_iald C h (pc := 95) 3 0 rfl rfl (Nat.le_of_ble_eq_true rfl) g_13 dX5_planPart_95 ?_
      refine lv_aload_n hx hb (pc := 96) dX5_planPart_96 rfl (lv_at hl 0 rfl) ?_
      refine x_get C h (pc := 97) xf_X5_31 2 rfl (v := .ref (b 11)) rfl dX5_planPart_97 ?_
      refine lv_iload hx hb (pc := 100) dX5_planPart_100 (lv_at hl 7 rfl) ?_
      refine x_iconst C (pc := 102) dX5_planPart_102 ?_
      refine x_iadd C (pc := 103) dX5_planPart_103 ?_
      refine lv_iload_n hx hb (pc := 104) dX5_planPart_104 rfl (lv_at hl 2 rfl) ?_
      refine lv_iload_n hx hb (pc := 105) dX5_planPart_105 rfl (lv_at hl 3 rfl) ?_
      refine lv_iload hx hb (pc := 106) dX5_planPart_106 (lv_at hl 4 rfl) ?_
      obtain ⟨q_14, hq_14, hf⟩ := ob_some hf
      refine x_callSi C h (pc := 108) hl (c_sp_place l D cI cJ cZ cO b (l9 + 1) l2 l3 l4 N q_14 hq_14) xs_X5_place lk_X5_42 ⟨(Nat.le_of_ble_eq_true rfl), (Nat.le_of_ble_eq_true rfl)⟩ rfl [] [0, 1, 2, 3, 4] (nw := 5) (wr := [((b 3), oD (b 4) D_rows D_cols D_cr D_cb D_cl D_kl), ((b 7), oP b P_all P_jr P_jb P_count), ((b 10), oS b S_planned S_cells S_top S_bottom S_left S_right), ((b 11), aI cI 784 S_w), ((b 12), aI cI 784 S_l)]) (as := [(b 3), (b 7), (b 10), (b 11), (b 12)]) (ws' := [((b 3), oD (b 4) D_rows D_cols D_cr D_cb D_cl D_kl), ((b 7), oP b P_all P_jr P_jb P_count), ((b 10), oS b S_planned S_cells S_top S_bottom S_left S_right), ((b 11), aI cI 784 S_w), ((b 12), aI cI 784 S_l)]) rfl rfl rfl rfl rfl rfl rfl rfl rfl rfl (Nat.le_of_ble_eq_true rfl) dX5_planPart_108 (fun H locs h => ?_)
      obtain ⟨g_15, hf⟩ := og_some hf
      refine x_iald C h (pc := 111) 3 0 rfl rfl (Nat.le_of_ble_eq_true rfl) g_15 dX5_planPart_111 ?_
      refine x_iadd C (pc := 112) dX5_planPart_112 ?_
      refine lv_aload_n hx hb (pc := 113) dX5_planPart_113 rfl (lv_at hl 0 rfl) ?_
      refine lv_lload hx hb (pc := 114) dX5_planPart_114 (lv_at hl 6 rfl) ?_
      refine lv_iload hx hb (pc := 116) dX5_planPart_116 (lv_at hl 7 rfl) ?_
      obtain ⟨q_16, hq_16, hf⟩ := ob_some hf
      refine x_callVl C h (pc := 118) hl (c_sp_crossedBelow l D cI cJ cZ cO b P_all P_jr P_jb P_count S_planned S_cells S_top S_bottom S_left S_right l6 l9 N q_16 hq_16) xv_X5_crossedBelow lk_X5_80 ⟨(Nat.le_of_ble_eq_true rfl), (Nat.le_of_ble_eq_true rfl)⟩ rfl [1, 2] [0, 3, 4] (nw := 5) (wr := [((b 3), oD (b 4) D_rows D_cols D_cr D_cb D_cl D_kl), ((b 11), aI cI 784 S_w), ((b 12), aI cI 784 S_l)]) (as := [(b 3), (b 7), (b 10), (b 11), (b 12)]) (ws' := [((b 3), oD (b 4) D_rows D_cols D_cr D_cb D_cl D_kl), ((b 7), oP b P_all P_jr P_jb P_count), ((b 10), oS b S_planned S_cells S_top S_bottom S_left S_right), ((b 11), aI cI 784 S_w), ((b 12), aI cI 784 S_l)]) rfl rfl rfl rfl rfl rfl rfl rfl rfl 2 rfl rfl rfl rfl (Nat.le_of_ble_eq_true rfl) dX5_planPart_118 (fun H locs h => ?_)
      refine x_callSi C h (pc := 121) hl (c_popc l D (xT cI cJ cZ cO) q_16) xs_J13_bitCount_95d88 lk_X5_84 ⟨(Nat.le_of_ble_eq_true rfl), (Nat.le_of_ble_eq_true rfl)⟩ rfl [] [0, 1, 2, 3, 4] (nw := 5) (wr := [((b 3), oD (b 4) D_rows D_cols D_cr D_cb D_cl D_kl), ((b 7), oP b P_all P_jr P_jb P_count), ((b 10), oS b S_planned S_cells S_top S_bottom S_left S_right), ((b 11), aI cI 784 S_w), ((b 12), aI cI 784 S_l)]) (as := [(b 3), (b 7), (b 10), (b 11), (b 12)]) (ws' := [((b 3), oD (b 4) D_rows D_cols D_cr D_cb D_cl D_kl), ((b 7), oP b P_all P_jr P_jb P_count), ((b 10), oS b S_planned S_cells S_top S_bottom S_left S_right), ((b 11), aI cI 784 S_w), ((b 12), aI cI 784 S_l)]) rfl rfl rfl rfl rfl rfl rfl rfl rfl rfl (Nat.le_of_ble_eq_true rfl) dX5_planPart_121 (fun H locs h => ?_)
      refine x_iadd C (pc := 124) dX5_planPart_124 ?_
      obtain ⟨l10_17, el10_17, hf⟩ := ol_some hf
      refine x_topi el10_17 ?_
      refine lv_istore hx hb (pc := 125) (lv' := [(10, iv l10_17), (0, .ref (b 10)), (1, iv l1), (2, iv l2), (3, iv l3), (4, iv l4), (5, iv l5), (6, lv l6), (9, iv l9)]) dX5_planPart_125 hl (Nat.le_of_ble_eq_true rfl) rfl (fun ls hl => ?_)
      refine lv_aload_n hx hb (pc := 127) dX5_planPart_127 rfl (lv_at hl 1 rfl) ?_
      refine lv_iload hx hb (pc := 128) dX5_planPart_128 (lv_at hl 6 rfl) ?_
      refine lv_iload hx hb (pc := 130) dX5_planPart_130 (lv_at hl 0 rfl) ?_
      refine lv_iload hx hb (pc := 132) dX5_planPart_132 (lv_at hl 8 rfl) ?_
      obtain ⟨q_18, hq_18, hf⟩ := ob_some hf
      refine x_callVv C h (pc := 134) hl (c_sp_offer l D cI cJ cZ cO b S_planned S_cells S_top S_bottom S_left S_right S_w S_l l5 l10_17 l9 N q_18 hq_18) xv_X5_offer lk_X5_89 ⟨(Nat.le_of_ble_eq_true rfl), (Nat.le_of_ble_eq_true rfl)⟩ rfl [2, 3, 4] [0, 1] (nw := 5) (wr := [((b 3), oD (b 4) D_rows D_cols D_cr D_cb D_cl D_kl), ((b 7), oP b P_all P_jr P_jb P_count)]) (as := [(b 3), (b 7), (b 10), (b 11), (b 12)]) (ws' := [((b 3), oD (b 4) D_rows D_cols D_cr D_cb D_cl D_kl), ((b 7), oP b P_all P_jr P_jb P_count), ((b 10), oS b S_planned S_cells S_top S_bottom S_left S_right), ((b 11), aI cI 784 q_18.1), ((b 12), aI cI 784 q_18.2)]) rfl rfl rfl rfl rfl rfl rfl rfl rfl 2 rfl rfl rfl rfl (Nat.le_of_ble_eq_true rfl) dX5_planPart_134 (fun H locs h => ?_)
      obtain ⟨l9_19, el9_19, hf⟩ := ol_some hf
      refine x_iinc C (pc := 137) (k := 8) (lw' := [(9, iv l9_19), (10, iv l10_17), (0, .ref (b 10)), (1, iv l1), (2, iv l2), (3, iv l3), (4, iv l4), (5, iv l5), (6, lv l6)]) dX5_planPart_137 hl rfl el9_19 (Nat.le_of_ble_eq_true rfl) rfl (fun ls hl => ?_)
      refine lv_goto hx hb (pc := 140) (tgt := 76) dX5_planPart_140 rfl ?_
      exact ih l9_19 q_18.1 q_18.2 _ _ _ (lv_sub hl [2, 3, 4, 5, 6, 7, 8, 0] rfl) h hf
set_option maxHeartbeats 4000000 in
set_option maxRecDepth 100000 in
theorem c_sp_planPart (l : Launch) (D : va_G) (cI cJ cZ cO : ClassId) (b : Nat → Nat) (D_rows : Int) (D_cols : Int) (D_cr : BitVec 64) (D_cb : BitVec 64) (D_cl : Int) (D_kl : Int) (P_all : BitVec 64) (P_jr : BitVec 64) (P_jb : BitVec 64) (P_count : Int) (S_planned : Int) (S_cells : BitVec 64) (S_top : Int) (S_bottom : Int) (S_left : Int) (S_right : Int) (S_w : Int → Int) (S_l : Int → Int) (l1 : Int) (l2 : Int) (l3 : Int) (l4 : Int) (N : Nat) (Res : (Int → Int) × (Int → Int)) (hf : f_sp_planPart N l1 l2 l3 l4 D_cl D_kl P_all P_jr P_jb S_cells S_w S_l = some Res) : CoV l D (xT cI cJ cZ cO) yX5_planPart cX5_planPart 11 none rm_sp_planPart [.ref (b 10), iv l1, iv l2, iv l3, iv l4] [((b 3), oD (b 4) D_rows D_cols D_cr D_cb D_cl D_kl), ((b 7), oP b P_all P_jr P_jb P_count), ((b 10), oS b S_planned S_cells S_top S_bottom S_left S_right), ((b 11), aI cI 784 S_w), ((b 12), aI cI 784 S_l)] [((b 3), oD (b 4) D_rows D_cols D_cr D_cb D_cl D_kl), ((b 7), oP b P_all P_jr P_jb P_count), ((b 10), oS b S_planned S_cells S_top S_bottom S_left S_right), ((b 11), aI cI 784 Res.1), ((b 12), aI cI 784 Res.2)] := by
  refine co_v (by decide) ⟨rfl, rfl⟩ (Nat.le_of_ble_eq_true rfl) ?_
  intro p e s m args below meth c A Q ls C hret hl h
  have hx := C.1.1
  have hb := C.1.2.1
  have hl : lv_has ls 11 [(0, .ref (b 10)), (1, iv l1), (2, iv l2), (3, iv l3), (4, iv l4)] := hl
  unfold f_sp_planPart at hf
  refine lv_iload_n hx hb (pc := 0) dX5_planPart_0 rfl (lv_at hl 1 rfl) ?_
  refine lv_iload_n hx hb (pc := 1) dX5_planPart_1 rfl (lv_at hl 2 rfl) ?_
  refine lv_iload_n hx hb (pc := 2) dX5_planPart_2 rfl (lv_at hl 3 rfl) ?_
  refine lv_iload hx hb (pc := 3) dX5_planPart_3 (lv_at hl 4 rfl) ?_
  obtain ⟨q_1, hq_1, hf⟩ := ob_some hf
  refine x_callSi C h (pc := 5) hl (c_sp_place l D cI cJ cZ cO b l1 l2 l3 l4 N q_1 hq_1) xs_X5_place lk_X5_42 ⟨(Nat.le_of_ble_eq_true rfl), (Nat.le_of_ble_eq_true rfl)⟩ rfl [] [0, 1, 2, 3, 4] (nw := 5) (wr := [((b 3), oD (b 4) D_rows D_cols D_cr D_cb D_cl D_kl), ((b 7), oP b P_all P_jr P_jb P_count), ((b 10), oS b S_planned S_cells S_top S_bottom S_left S_right), ((b 11), aI cI 784 S_w), ((b 12), aI cI 784 S_l)]) (as := [(b 3), (b 7), (b 10), (b 11), (b 12)]) (ws' := [((b 3), oD (b 4) D_rows D_cols D_cr D_cb D_cl D_kl), ((b 7), oP b P_all P_jr P_jb P_count), ((b 10), oS b S_planned S_cells S_top S_bottom S_left S_right), ((b 11), aI cI 784 S_w), ((b 12), aI cI 784 S_l)]) rfl rfl rfl rfl rfl rfl rfl rfl rfl rfl (Nat.le_of_ble_eq_true rfl) dX5_planPart_5 (fun H locs h => ?_)
  refine lv_istore hx hb (pc := 8) (lv' := [(5, iv q_1), (0, .ref (b 10)), (1, iv l1), (2, iv l2), (3, iv l3), (4, iv l4)]) dX5_planPart_8 hl (Nat.le_of_ble_eq_true rfl) rfl (fun ls hl => ?_)
  refine lv_aload_n hx hb (pc := 10) dX5_planPart_10 rfl (lv_at hl 1 rfl) ?_
  refine x_get C h (pc := 11) xf_X5_15 2 rfl (v := lv S_cells) rfl dX5_planPart_11 ?_
  refine lv_iload_n hx hb (pc := 14) dX5_planPart_14 rfl (lv_at hl 2 rfl) ?_
  refine lv_iload_n hx hb (pc := 15) dX5_planPart_15 rfl (lv_at hl 3 rfl) ?_
  refine lv_iload_n hx hb (pc := 16) dX5_planPart_16 rfl (lv_at hl 4 rfl) ?_
  refine lv_iload hx hb (pc := 17) dX5_planPart_17 (lv_at hl 5 rfl) ?_
  obtain ⟨q_2, hq_2, hf⟩ := ob_some hf
  refine x_callSl C h (pc := 19) hl (c_ce_block l D cI cJ cZ cO l1 l2 l3 l4 N q_2 hq_2) xs_X0_block lk_X5_71 ⟨(Nat.le_of_ble_eq_true rfl), (Nat.le_of_ble_eq_true rfl)⟩ rfl [] [0, 1, 2, 3, 4] (nw := 5) (wr := [((b 3), oD (b 4) D_rows D_cols D_cr D_cb D_cl D_kl), ((b 7), oP b P_all P_jr P_jb P_count), ((b 10), oS b S_planned S_cells S_top S_bottom S_left S_right), ((b 11), aI cI 784 S_w), ((b 12), aI cI 784 S_l)]) (as := [(b 3), (b 7), (b 10), (b 11), (b 12)]) (ws' := [((b 3), oD (b 4) D_rows D_cols D_cr D_cb D_cl D_kl), ((b 7), oP b P_all P_jr P_jb P_count), ((b 10), oS b S_planned S_cells S_top S_bottom S_left S_right), ((b 11), aI cI 784 S_w), ((b 12), aI cI 784 S_l)]) rfl rfl rfl rfl rfl rfl rfl rfl rfl rfl (Nat.le_of_ble_eq_true rfl) dX5_planPart_19 (fun H locs h => ?_)
  refine x_land C (pc := 22) dX5_planPart_22 ?_
  obtain ⟨l6_3, el6_3, hf⟩ := ol_some hf
  refine x_topl el6_3 ?_
  refine lv_lstore hx hb (pc := 23) (lv' := [(6, lv l6_3), (5, iv q_1), (0, .ref (b 10)), (1, iv l1), (2, iv l2), (3, iv l3), (4, iv l4)]) dX5_planPart_23 hl (Nat.le_of_ble_eq_true rfl) rfl (fun ls hl => ?_)
  refine lv_aload_n hx hb (pc := 25) dX5_planPart_25 rfl (lv_at hl 2 rfl) ?_
  refine x_get C h (pc := 26) xf_X5_38 2 rfl (v := .ref (b 7)) rfl dX5_planPart_26 ?_
  refine lv_lload hx hb (pc := 29) dX5_planPart_29 (lv_at hl 0 rfl) ?_
  obtain ⟨q_4, hq_4, hf⟩ := ob_some hf
  refine x_callVi C h (pc := 31) hl (c_pa_countEasyFragments l D cI cJ cZ cO b D_rows D_cols D_cr D_cb D_cl D_kl P_all P_jr P_jb P_count l6_3 N q_4 hq_4) xv_X4_countEasyFragments lk_X5_75 ⟨(Nat.le_of_ble_eq_true rfl), (Nat.le_of_ble_eq_true rfl)⟩ rfl [0, 1] [2, 3, 4] (nw := 5) (wr := [((b 10), oS b S_planned S_cells S_top S_bottom S_left S_right), ((b 11), aI cI 784 S_w), ((b 12), aI cI 784 S_l)]) (as := [(b 3), (b 7), (b 10), (b 11), (b 12)]) (ws' := [((b 3), oD (b 4) D_rows D_cols D_cr D_cb D_cl D_kl), ((b 7), oP b P_all P_jr P_jb P_count), ((b 10), oS b S_planned S_cells S_top S_bottom S_left S_right), ((b 11), aI cI 784 S_w), ((b 12), aI cI 784 S_l)]) rfl rfl rfl rfl rfl rfl rfl rfl rfl 1 rfl rfl rfl rfl (Nat.le_of_ble_eq_true rfl) dX5_planPart_31 (fun H locs h => ?_)
  refine lv_istore hx hb (pc := 34) (lv' := [(8, iv q_4), (6, lv l6_3), (5, iv q_1), (0, .ref (b 10)), (1, iv l1), (2, iv l2), (3, iv l3), (4, iv l4)]) dX5_planPart_34 hl (Nat.le_of_ble_eq_true rfl) rfl (fun ls hl => ?_)
  refine lv_aload_n hx hb (pc := 36) dX5_planPart_36 rfl (lv_at hl 3 rfl) ?_
  refine x_get C h (pc := 37) xf_X5_35 2 rfl (v := .ref (b 12)) rfl dX5_planPart_37 ?_
  refine lv_iload hx hb (pc := 40) dX5_planPart_40 (lv_at hl 2 rfl) ?_
  refine x_iconst C (pc := 42) dX5_planPart_42 ?_
  obtain ⟨g_5, hf⟩ := og_some hf
  obtain ⟨S_l_6, eS_l_6, hf⟩ := ol_some hf
  refine x_iast C h (pc := 43) (ws' := [((b 3), oD (b 4) D_rows D_cols D_cr D_cb D_cl D_kl), ((b 7), oP b P_all P_jr P_jb P_count), ((b 10), oS b S_planned S_cells S_top S_bottom S_left S_right), ((b 11), aI cI 784 S_w), ((b 12), aI cI 784 S_l_6)]) 4 0 rfl rfl (Nat.le_of_ble_eq_true rfl) g_5 eS_l_6 rfl dX5_planPart_43 (fun H locs h => ?_)
  refine lv_iload hx hb (pc := 44) dX5_planPart_44 (lv_at hl 0 rfl) ?_
  refine x_iconst C (pc := 46) dX5_planPart_46 ?_
  obtain ⟨g_7, hf⟩ := og_some hf
  refine x_icmpeq C (pc := 47) (tgt := 64) g_7 ⟨by decide, by decide⟩ dX5_planPart_47 rfl (fun hc => ?_) (fun hc => ?_)
  · have hf := oi_t hf hc
    refine lv_aload_n hx hb (pc := 64) dX5_planPart_64 rfl (lv_at hl 3 rfl) ?_
    refine x_get C h (pc := 65) xf_X5_31 2 rfl (v := .ref (b 11)) rfl dX5_planPart_65 ?_
    refine lv_iload hx hb (pc := 68) dX5_planPart_68 (lv_at hl 2 rfl) ?_
    refine x_ldc C (pc := 70) (n := 1048576) wk_X5_79 (by decide) dX5_planPart_70 ?_
    obtain ⟨S_w_8, eS_w_8, hf⟩ := ol_some hf
    refine x_iast C h (pc := 72) (ws' := [((b 3), oD (b 4) D_rows D_cols D_cr D_cb D_cl D_kl), ((b 7), oP b P_all P_jr P_jb P_count), ((b 10), oS b S_planned S_cells S_top S_bottom S_left S_right), ((b 11), aI cI 784 S_w_8), ((b 12), aI cI 784 S_l_6)]) 3 0 rfl rfl (Nat.le_of_ble_eq_true rfl) g_5 eS_w_8 rfl dX5_planPart_72 (fun H locs h => ?_)
    refine lv_iload_n hx hb (pc := 73) dX5_planPart_73 rfl (lv_at hl 4 rfl) ?_
    refine lv_istore hx hb (pc := 74) (lv' := [(9, iv l1), (8, iv q_4), (6, lv l6_3), (5, iv q_1), (0, .ref (b 10)), (1, iv l1), (2, iv l2), (3, iv l3), (4, iv l4)]) dX5_planPart_74 hl (Nat.le_of_ble_eq_true rfl) rfl (fun ls hl => ?_)
    exact w_sp_planPart_76 C b D_rows D_cols D_cr D_cb D_cl D_kl P_all P_jr P_jb P_count S_planned S_cells S_top S_bottom S_left S_right Res hret N l1 l2 l3 l4 q_1 l6_3 N l1 S_w_8 S_l_6 _ _ _ (lv_sub hl [4, 5, 6, 7, 8, 3, 2, 0] rfl) h hf
  · have hf := oi_f hf hc
    refine lv_aload_n hx hb (pc := 50) dX5_planPart_50 rfl (lv_at hl 3 rfl) ?_
    refine x_get C h (pc := 51) xf_X5_31 2 rfl (v := .ref (b 11)) rfl dX5_planPart_51 ?_
    refine lv_iload hx hb (pc := 54) dX5_planPart_54 (lv_at hl 2 rfl) ?_
    refine lv_iload hx hb (pc := 56) dX5_planPart_56 (lv_at hl 0 rfl) ?_
    refine x_sipush C (pc := 58) dX5_planPart_58 (by decide) ?_
    refine x_imul C (pc := 61) dX5_planPart_61 ?_
    obtain ⟨S_w_9, eS_w_9, hf⟩ := ol_some hf
    refine x_iast C h (pc := 62) (ws' := [((b 3), oD (b 4) D_rows D_cols D_cr D_cb D_cl D_kl), ((b 7), oP b P_all P_jr P_jb P_count), ((b 10), oS b S_planned S_cells S_top S_bottom S_left S_right), ((b 11), aI cI 784 S_w_9), ((b 12), aI cI 784 S_l_6)]) 3 0 rfl rfl (Nat.le_of_ble_eq_true rfl) g_5 eS_w_9 rfl dX5_planPart_62 (fun H locs h => ?_)
    have e9 := Option.some.inj hf
    subst e9
    exact hret _ _ _ _ dX5_planPart_63 h
abbrev rm_sp_plan : Room := { frames := 5, cells := 0, slots := 0, locals := 141 }
set_option maxHeartbeats 4000000 in
set_option maxRecDepth 100000 in
theorem w_sp_plan_73 {p : Program} {l : Launch} {e : Env} {s : State} {m : MethodId} {args : Array Value} {below : List Frame} {meth : Method} {c : Code} {Q : State → Prop} {D : va_G} {cI cJ cZ cO : ClassId} {A : Nat → Prop} {H0 : Heap} {w0 : Cond} (C : XC p s m args c cX5_plan 6 RX5 w0 D (xT cI cJ cZ cO)) (b : Nat → Nat) (D_rows : Int) (D_cols : Int) (D_cr : BitVec 64) (D_cb : BitVec 64) (D_cl : Int) (D_kl : Int) (P_all : BitVec 64) (P_jr : BitVec 64) (P_jb : BitVec 64) (P_count : Int) (P_cells : Int → BitVec 64) (Res : Int × BitVec 64 × Int × Int × Int × Int × (Int → Int) × (Int → Int)) (hret : XRV p l e rm_sp_plan s m args below meth c cX5_plan D A H0 Q [((b 3), oD (b 4) D_rows D_cols D_cr D_cb D_cl D_kl), ((b 7), oP b P_all P_jr P_jb P_count), ((b 8), aJ cJ 49 P_cells), ((b 10), oS b Res.1 Res.2.1 Res.2.2.1 Res.2.2.2.1 Res.2.2.2.2.1 Res.2.2.2.2.2.1), ((b 11), aI cI 784 Res.2.2.2.2.2.2.1), ((b 12), aI cI 784 Res.2.2.2.2.2.2.2)]) (N : Nat) (l2 : Int) (l3 : Int) (l4 : Int) (S_planned : Int) (S_cells : BitVec 64) (S_top : Int) (S_bottom : Int) (S_left : Int) (S_right : Int) (k36 : Int → (Int → Int) → (Int → Int) → Option (Int × BitVec 64 × Int × Int × Int × Int × (Int → Int) × (Int → Int))) (hk36 : ∀ (l2' : Int) (S_w' : Int → Int) (S_l' : Int → Int) (ls : Array Slot) (H : Heap) (locs : List Loc), lv_has ls 6 [(0, .ref (b 10)), (2, iv l2')] → XH D A H0 [((b 3), oD (b 4) D_rows D_cols D_cr D_cb D_cl D_kl), ((b 7), oP b P_all P_jr P_jb P_count), ((b 8), aJ cJ 49 P_cells), ((b 10), oS b S_planned S_cells S_top S_bottom S_left S_right), ((b 11), aI cI 784 S_w'), ((b 12), aI cI 784 S_l')] H locs → k36 l2' S_w' S_l' = some Res → W p l e rm_sp_plan s m args below meth c H locs 0 0 Q (F0 m 36 ls [])) (k46 : Int → (Int → Int) → (Int → Int) → Option (Int × BitVec 64 × Int × Int × Int × Int × (Int → Int) × (Int → Int))) (hk46 : ∀ (l3' : Int) (S_w' : Int → Int) (S_l' : Int → Int) (ls : Array Slot) (H : Heap) (locs : List Loc), lv_has ls 6 [(0, .ref (b 10)), (2, iv l2), (3, iv l3')] → XH D A H0 [((b 3), oD (b 4) D_rows D_cols D_cr D_cb D_cl D_kl), ((b 7), oP b P_all P_jr P_jb P_count), ((b 8), aJ cJ 49 P_cells), ((b 10), oS b S_planned S_cells S_top S_bottom S_left S_right), ((b 11), aI cI 784 S_w'), ((b 12), aI cI 784 S_l')] H locs → k46 l3' S_w' S_l' = some Res → W p l e rm_sp_plan s m args below meth c H locs 0 0 Q (F0 m 46 ls [])) (k60 : Int → (Int → Int) → (Int → Int) → Option (Int × BitVec 64 × Int × Int × Int × Int × (Int → Int) × (Int → Int))) (hk60 : ∀ (l4' : Int) (S_w' : Int → Int) (S_l' : Int → Int) (ls : Array Slot) (H : Heap) (locs : List Loc), lv_has ls 6 [(0, .ref (b 10)), (2, iv l2), (3, iv l3), (4, iv l4')] → XH D A H0 [((b 3), oD (b 4) D_rows D_cols D_cr D_cb D_cl D_kl), ((b 7), oP b P_all P_jr P_jb P_count), ((b 8), aJ cJ 49 P_cells), ((b 10), oS b S_planned S_cells S_top S_bottom S_left S_right), ((b 11), aI cI 784 S_w'), ((b 12), aI cI 784 S_l')] H locs → k60 l4' S_w' S_l' = some Res → W p l e rm_sp_plan s m args below meth c H locs 0 0 Q (F0 m 60 ls [])) : ∀ (n : Nat) (l5 : Int) (S_w : Int → Int) (S_l : Int → Int) (ls : Array Slot) (H : Heap) (locs : List Loc), lv_has ls 6 [(0, .ref (b 10)), (2, iv l2), (3, iv l3), (4, iv l4), (5, iv l5)] → XH D A H0 [((b 3), oD (b 4) D_rows D_cols D_cr D_cb D_cl D_kl), ((b 7), oP b P_all P_jr P_jb P_count), ((b 8), aJ cJ 49 P_cells), ((b 10), oS b S_planned S_cells S_top S_bottom S_left S_right), ((b 11), aI cI 784 S_w), ((b 12), aI cI 784 S_l)] H locs → f_sp_plan_73 N l2 l3 l4 S_planned S_cells S_top S_bottom S_left S_right D_cl D_kl P_all P_jr P_jb k36 k46 k60 n l5 S_w S_l = some Res → W p l e rm_sp_plan s m args below meth c H locs 0 0 Q (F0 m 73 ls []) := by
  have hx := C.1.1
  have hb := C.1.2.1
  intro n
  induction n with
  | zero => intro l5 S_w S_l ls H locs hl h hf; cases hf
  | succ n ih =>
    intro l5 S_w S_l ls H locs hl h hf
    rw [f_sp_plan_73.eq_2] at hf
    refine lv_iload hx hb (pc := 73) dX5_plan_73 (lv_at hl 4 rfl) ?_
    refine lv_aload_n hx hb (pc := 75) dX5_plan_75 rfl (lv_at hl 0 rfl) ?_
    refine x_get C h (pc := 76) xf_X5_25 3 rfl (v := iv S_left) rfl dX5_plan_76 ?_
    obtain ⟨g_14, hf⟩ := og_some hf
    obtain ⟨g_15, hf⟩ := og_some hf
    refine x_icmplt C (pc := 79) (tgt := 98) g_14 g_15 dX5_plan_79 rfl (fun hc => ?_) (fun hc => ?_)
    · have hf := oi_t hf hc
      obtain ⟨l4_16, el4_16, hf⟩ := ol_some hf
      refine x_iinc C (pc := 98) (k := 3) (lw' := [(4, iv l4_16), (0, .ref (b 10)), (2, iv l2), (3, iv l3), (5, iv l5)]) dX5_plan_98 hl rfl el4_16 (Nat.le_of_ble_eq_true rfl) rfl (fun ls hl => ?_)
      refine lv_goto hx hb (pc := 101) (tgt := 60) dX5_plan_101 rfl ?_
      exact hk60 l4_16 S_w S_l _ _ _ (lv_sub hl [1, 2, 3, 0] rfl) h hf
    · have hf := oi_f hf hc
      refine lv_aload_n hx hb (pc := 82) dX5_plan_82 rfl (lv_at hl 0 rfl) ?_
      refine lv_iload_n hx hb (pc := 83) dX5_plan_83 rfl (lv_at hl 2 rfl) ?_
      refine lv_iload_n hx hb (pc := 84) dX5_plan_84 rfl (lv_at hl 1 rfl) ?_
      refine lv_iload hx hb (pc := 85) dX5_plan_85 (lv_at hl 4 rfl) ?_
      refine lv_iload hx hb (pc := 87) dX5_plan_87 (lv_at hl 3 rfl) ?_
      obtain ⟨q_17, hq_17, hf⟩ := ob_some hf
      refine x_callVv C h (pc := 89) hl (c_sp_planPart l D cI cJ cZ cO b D_rows D_cols D_cr D_cb D_cl D_kl P_all P_jr P_jb P_count S_planned S_cells S_top S_bottom S_left S_right S_w S_l l3 l2 l5 l4 N q_17 hq_17) xv_X5_planPart lk_X5_54 ⟨(Nat.le_of_ble_eq_true rfl), (Nat.le_of_ble_eq_true rfl)⟩ rfl [0, 1, 3, 4, 5] [2] (nw := 6) (wr := [((b 8), aJ cJ 49 P_cells)]) (as := [(b 3), (b 7), (b 8), (b 10), (b 11), (b 12)]) (ws' := [((b 3), oD (b 4) D_rows D_cols D_cr D_cb D_cl D_kl), ((b 7), oP b P_all P_jr P_jb P_count), ((b 8), aJ cJ 49 P_cells), ((b 10), oS b S_planned S_cells S_top S_bottom S_left S_right), ((b 11), aI cI 784 q_17.1), ((b 12), aI cI 784 q_17.2)]) rfl rfl rfl rfl rfl rfl rfl rfl rfl 3 rfl rfl rfl rfl (Nat.le_of_ble_eq_true rfl) dX5_plan_89 (fun H locs h => ?_)
      obtain ⟨l5_18, el5_18, hf⟩ := ol_some hf
      refine x_iinc C (pc := 92) (k := 4) (lw' := [(5, iv l5_18), (0, .ref (b 10)), (2, iv l2), (3, iv l3), (4, iv l4)]) dX5_plan_92 hl rfl el5_18 (Nat.le_of_ble_eq_true rfl) rfl (fun ls hl => ?_)
      refine lv_goto hx hb (pc := 95) (tgt := 73) dX5_plan_95 rfl ?_
      exact ih l5_18 q_17.1 q_17.2 _ _ _ (lv_sub hl [1, 2, 3, 4, 0] rfl) h hf
set_option maxHeartbeats 4000000 in
set_option maxRecDepth 100000 in
theorem w_sp_plan_60 {p : Program} {l : Launch} {e : Env} {s : State} {m : MethodId} {args : Array Value} {below : List Frame} {meth : Method} {c : Code} {Q : State → Prop} {D : va_G} {cI cJ cZ cO : ClassId} {A : Nat → Prop} {H0 : Heap} {w0 : Cond} (C : XC p s m args c cX5_plan 6 RX5 w0 D (xT cI cJ cZ cO)) (b : Nat → Nat) (D_rows : Int) (D_cols : Int) (D_cr : BitVec 64) (D_cb : BitVec 64) (D_cl : Int) (D_kl : Int) (P_all : BitVec 64) (P_jr : BitVec 64) (P_jb : BitVec 64) (P_count : Int) (P_cells : Int → BitVec 64) (Res : Int × BitVec 64 × Int × Int × Int × Int × (Int → Int) × (Int → Int)) (hret : XRV p l e rm_sp_plan s m args below meth c cX5_plan D A H0 Q [((b 3), oD (b 4) D_rows D_cols D_cr D_cb D_cl D_kl), ((b 7), oP b P_all P_jr P_jb P_count), ((b 8), aJ cJ 49 P_cells), ((b 10), oS b Res.1 Res.2.1 Res.2.2.1 Res.2.2.2.1 Res.2.2.2.2.1 Res.2.2.2.2.2.1), ((b 11), aI cI 784 Res.2.2.2.2.2.2.1), ((b 12), aI cI 784 Res.2.2.2.2.2.2.2)]) (N : Nat) (l2 : Int) (l3 : Int) (S_planned : Int) (S_cells : BitVec 64) (S_top : Int) (S_bottom : Int) (S_left : Int) (S_right : Int) (k36 : Int → (Int → Int) → (Int → Int) → Option (Int × BitVec 64 × Int × Int × Int × Int × (Int → Int) × (Int → Int))) (hk36 : ∀ (l2' : Int) (S_w' : Int → Int) (S_l' : Int → Int) (ls : Array Slot) (H : Heap) (locs : List Loc), lv_has ls 6 [(0, .ref (b 10)), (2, iv l2')] → XH D A H0 [((b 3), oD (b 4) D_rows D_cols D_cr D_cb D_cl D_kl), ((b 7), oP b P_all P_jr P_jb P_count), ((b 8), aJ cJ 49 P_cells), ((b 10), oS b S_planned S_cells S_top S_bottom S_left S_right), ((b 11), aI cI 784 S_w'), ((b 12), aI cI 784 S_l')] H locs → k36 l2' S_w' S_l' = some Res → W p l e rm_sp_plan s m args below meth c H locs 0 0 Q (F0 m 36 ls [])) (k46 : Int → (Int → Int) → (Int → Int) → Option (Int × BitVec 64 × Int × Int × Int × Int × (Int → Int) × (Int → Int))) (hk46 : ∀ (l3' : Int) (S_w' : Int → Int) (S_l' : Int → Int) (ls : Array Slot) (H : Heap) (locs : List Loc), lv_has ls 6 [(0, .ref (b 10)), (2, iv l2), (3, iv l3')] → XH D A H0 [((b 3), oD (b 4) D_rows D_cols D_cr D_cb D_cl D_kl), ((b 7), oP b P_all P_jr P_jb P_count), ((b 8), aJ cJ 49 P_cells), ((b 10), oS b S_planned S_cells S_top S_bottom S_left S_right), ((b 11), aI cI 784 S_w'), ((b 12), aI cI 784 S_l')] H locs → k46 l3' S_w' S_l' = some Res → W p l e rm_sp_plan s m args below meth c H locs 0 0 Q (F0 m 46 ls [])) : ∀ (n : Nat) (l4 : Int) (S_w : Int → Int) (S_l : Int → Int) (ls : Array Slot) (H : Heap) (locs : List Loc), lv_has ls 6 [(0, .ref (b 10)), (2, iv l2), (3, iv l3), (4, iv l4)] → XH D A H0 [((b 3), oD (b 4) D_rows D_cols D_cr D_cb D_cl D_kl), ((b 7), oP b P_all P_jr P_jb P_count), ((b 8), aJ cJ 49 P_cells), ((b 10), oS b S_planned S_cells S_top S_bottom S_left S_right), ((b 11), aI cI 784 S_w), ((b 12), aI cI 784 S_l)] H locs → f_sp_plan_60 N l2 l3 S_planned S_cells S_top S_bottom S_left S_right D_cl D_kl P_all P_jr P_jb k36 k46 n l4 S_w S_l = some Res → W p l e rm_sp_plan s m args below meth c H locs 0 0 Q (F0 m 60 ls []) := by
  have hx := C.1.1
  have hb := C.1.2.1
  intro n
  induction n with
  | zero => intro l4 S_w S_l ls H locs hl h hf; cases hf
  | succ n ih =>
    intro l4 S_w S_l ls H locs hl h hf
    rw [f_sp_plan_60.eq_2] at hf
    refine lv_iload hx hb (pc := 60) dX5_plan_60 (lv_at hl 3 rfl) ?_
    refine lv_aload_n hx hb (pc := 62) dX5_plan_62 rfl (lv_at hl 0 rfl) ?_
    refine x_get C h (pc := 63) xf_X5_28 3 rfl (v := iv S_right) rfl dX5_plan_63 ?_
    obtain ⟨g_11, hf⟩ := og_some hf
    obtain ⟨g_12, hf⟩ := og_some hf
    refine x_icmpgt C (pc := 66) (tgt := 104) g_11 g_12 dX5_plan_66 rfl (fun hc => ?_) (fun hc => ?_)
    · have hf := oi_t hf hc
      obtain ⟨l3_13, el3_13, hf⟩ := ol_some hf
      refine x_iinc C (pc := 104) (k := 2) (lw' := [(3, iv l3_13), (0, .ref (b 10)), (2, iv l2), (4, iv l4)]) dX5_plan_104 hl rfl el3_13 (Nat.le_of_ble_eq_true rfl) rfl (fun ls hl => ?_)
      refine lv_goto hx hb (pc := 107) (tgt := 46) dX5_plan_107 rfl ?_
      exact hk46 l3_13 S_w S_l _ _ _ (lv_sub hl [1, 2, 0] rfl) h hf
    · have hf := oi_f hf hc
      refine lv_iload hx hb (pc := 69) dX5_plan_69 (lv_at hl 3 rfl) ?_
      refine lv_istore hx hb (pc := 71) (lv' := [(5, iv l4), (0, .ref (b 10)), (2, iv l2), (3, iv l3), (4, iv l4)]) dX5_plan_71 hl (Nat.le_of_ble_eq_true rfl) rfl (fun ls hl => ?_)
      exact w_sp_plan_73 C b D_rows D_cols D_cr D_cb D_cl D_kl P_all P_jr P_jb P_count P_cells Res hret N l2 l3 l4 S_planned S_cells S_top S_bottom S_left S_right k36 hk36 k46 hk46 (f_sp_plan_60 N l2 l3 S_planned S_cells S_top S_bottom S_left S_right D_cl D_kl P_all P_jr P_jb k36 k46 n) ih N l4 S_w S_l _ _ _ (lv_sub hl [1, 2, 3, 4, 0] rfl) h hf
set_option maxHeartbeats 4000000 in
set_option maxRecDepth 100000 in
theorem w_sp_plan_46 {p : Program} {l : Launch} {e : Env} {s : State} {m : MethodId} {args : Array Value} {below : List Frame} {meth : Method} {c : Code} {Q : State → Prop} {D : va_G} {cI cJ cZ cO : ClassId} {A : Nat → Prop} {H0 : Heap} {w0 : Cond} (C : XC p s m args c cX5_plan 6 RX5 w0 D (xT cI cJ cZ cO)) (b : Nat → Nat) (D_rows : Int) (D_cols : Int) (D_cr : BitVec 64) (D_cb : BitVec 64) (D_cl : Int) (D_kl : Int) (P_all : BitVec 64) (P_jr : BitVec 64) (P_jb : BitVec 64) (P_count : Int) (P_cells : Int → BitVec 64) (Res : Int × BitVec 64 × Int × Int × Int × Int × (Int → Int) × (Int → Int)) (hret : XRV p l e rm_sp_plan s m args below meth c cX5_plan D A H0 Q [((b 3), oD (b 4) D_rows D_cols D_cr D_cb D_cl D_kl), ((b 7), oP b P_all P_jr P_jb P_count), ((b 8), aJ cJ 49 P_cells), ((b 10), oS b Res.1 Res.2.1 Res.2.2.1 Res.2.2.2.1 Res.2.2.2.2.1 Res.2.2.2.2.2.1), ((b 11), aI cI 784 Res.2.2.2.2.2.2.1), ((b 12), aI cI 784 Res.2.2.2.2.2.2.2)]) (N : Nat) (l2 : Int) (S_planned : Int) (S_cells : BitVec 64) (S_top : Int) (S_bottom : Int) (S_left : Int) (S_right : Int) (k36 : Int → (Int → Int) → (Int → Int) → Option (Int × BitVec 64 × Int × Int × Int × Int × (Int → Int) × (Int → Int))) (hk36 : ∀ (l2' : Int) (S_w' : Int → Int) (S_l' : Int → Int) (ls : Array Slot) (H : Heap) (locs : List Loc), lv_has ls 6 [(0, .ref (b 10)), (2, iv l2')] → XH D A H0 [((b 3), oD (b 4) D_rows D_cols D_cr D_cb D_cl D_kl), ((b 7), oP b P_all P_jr P_jb P_count), ((b 8), aJ cJ 49 P_cells), ((b 10), oS b S_planned S_cells S_top S_bottom S_left S_right), ((b 11), aI cI 784 S_w'), ((b 12), aI cI 784 S_l')] H locs → k36 l2' S_w' S_l' = some Res → W p l e rm_sp_plan s m args below meth c H locs 0 0 Q (F0 m 36 ls [])) : ∀ (n : Nat) (l3 : Int) (S_w : Int → Int) (S_l : Int → Int) (ls : Array Slot) (H : Heap) (locs : List Loc), lv_has ls 6 [(0, .ref (b 10)), (2, iv l2), (3, iv l3)] → XH D A H0 [((b 3), oD (b 4) D_rows D_cols D_cr D_cb D_cl D_kl), ((b 7), oP b P_all P_jr P_jb P_count), ((b 8), aJ cJ 49 P_cells), ((b 10), oS b S_planned S_cells S_top S_bottom S_left S_right), ((b 11), aI cI 784 S_w), ((b 12), aI cI 784 S_l)] H locs → f_sp_plan_46 N l2 S_planned S_cells S_top S_bottom S_left S_right D_cl D_kl P_all P_jr P_jb k36 n l3 S_w S_l = some Res → W p l e rm_sp_plan s m args below meth c H locs 0 0 Q (F0 m 46 ls []) := by
  have hx := C.1.1
  have hb := C.1.2.1
  intro n
  induction n with
  | zero => intro l3 S_w S_l ls H locs hl h hf; cases hf
  | succ n ih =>
    intro l3 S_w S_l ls H locs hl h hf
    rw [f_sp_plan_46.eq_2] at hf
    refine lv_iload_n hx hb (pc := 46) dX5_plan_46 rfl (lv_at hl 2 rfl) ?_
    refine lv_aload_n hx hb (pc := 47) dX5_plan_47 rfl (lv_at hl 0 rfl) ?_
    refine x_get C h (pc := 48) xf_X5_19 3 rfl (v := iv S_top) rfl dX5_plan_48 ?_
    obtain ⟨g_8, hf⟩ := og_some hf
    obtain ⟨g_9, hf⟩ := og_some hf
    refine x_icmplt C (pc := 51) (tgt := 110) g_8 g_9 dX5_plan_51 rfl (fun hc => ?_) (fun hc => ?_)
    · have hf := oi_t hf hc
      obtain ⟨l2_10, el2_10, hf⟩ := ol_some hf
      refine x_iinc C (pc := 110) (k := 1) (lw' := [(2, iv l2_10), (0, .ref (b 10)), (3, iv l3)]) dX5_plan_110 hl rfl el2_10 (Nat.le_of_ble_eq_true rfl) rfl (fun ls hl => ?_)
      refine lv_goto hx hb (pc := 113) (tgt := 36) dX5_plan_113 rfl ?_
      exact hk36 l2_10 S_w S_l _ _ _ (lv_sub hl [1, 0] rfl) h hf
    · have hf := oi_f hf hc
      refine lv_aload_n hx hb (pc := 54) dX5_plan_54 rfl (lv_at hl 0 rfl) ?_
      refine x_get C h (pc := 55) xf_X5_25 3 rfl (v := iv S_left) rfl dX5_plan_55 ?_
      refine lv_istore hx hb (pc := 58) (lv' := [(4, iv S_left), (0, .ref (b 10)), (2, iv l2), (3, iv l3)]) dX5_plan_58 hl (Nat.le_of_ble_eq_true rfl) rfl (fun ls hl => ?_)
      exact w_sp_plan_60 C b D_rows D_cols D_cr D_cb D_cl D_kl P_all P_jr P_jb P_count P_cells Res hret N l2 l3 S_planned S_cells S_top S_bottom S_left S_right k36 hk36 (f_sp_plan_46 N l2 S_planned S_cells S_top S_bottom S_left S_right D_cl D_kl P_all P_jr P_jb k36 n) ih N S_left S_w S_l _ _ _ (lv_sub hl [1, 2, 3, 0] rfl) h hf
set_option maxHeartbeats 4000000 in
set_option maxRecDepth 100000 in
theorem w_sp_plan_36 {p : Program} {l : Launch} {e : Env} {s : State} {m : MethodId} {args : Array Value} {below : List Frame} {meth : Method} {c : Code} {Q : State → Prop} {D : va_G} {cI cJ cZ cO : ClassId} {A : Nat → Prop} {H0 : Heap} {w0 : Cond} (C : XC p s m args c cX5_plan 6 RX5 w0 D (xT cI cJ cZ cO)) (b : Nat → Nat) (D_rows : Int) (D_cols : Int) (D_cr : BitVec 64) (D_cb : BitVec 64) (D_cl : Int) (D_kl : Int) (P_all : BitVec 64) (P_jr : BitVec 64) (P_jb : BitVec 64) (P_count : Int) (P_cells : Int → BitVec 64) (Res : Int × BitVec 64 × Int × Int × Int × Int × (Int → Int) × (Int → Int)) (hret : XRV p l e rm_sp_plan s m args below meth c cX5_plan D A H0 Q [((b 3), oD (b 4) D_rows D_cols D_cr D_cb D_cl D_kl), ((b 7), oP b P_all P_jr P_jb P_count), ((b 8), aJ cJ 49 P_cells), ((b 10), oS b Res.1 Res.2.1 Res.2.2.1 Res.2.2.2.1 Res.2.2.2.2.1 Res.2.2.2.2.2.1), ((b 11), aI cI 784 Res.2.2.2.2.2.2.1), ((b 12), aI cI 784 Res.2.2.2.2.2.2.2)]) (N : Nat) (S_planned : Int) (S_cells : BitVec 64) (S_top : Int) (S_bottom : Int) (S_left : Int) (S_right : Int) : ∀ (n : Nat) (l2 : Int) (S_w : Int → Int) (S_l : Int → Int) (ls : Array Slot) (H : Heap) (locs : List Loc), lv_has ls 6 [(0, .ref (b 10)), (2, iv l2)] → XH D A H0 [((b 3), oD (b 4) D_rows D_cols D_cr D_cb D_cl D_kl), ((b 7), oP b P_all P_jr P_jb P_count), ((b 8), aJ cJ 49 P_cells), ((b 10), oS b S_planned S_cells S_top S_bottom S_left S_right), ((b 11), aI cI 784 S_w), ((b 12), aI cI 784 S_l)] H locs → f_sp_plan_36 N S_planned S_cells S_top S_bottom S_left S_right D_cl D_kl P_all P_jr P_jb n l2 S_w S_l = some Res → W p l e rm_sp_plan s m args below meth c H locs 0 0 Q (F0 m 36 ls []) := by
  have hx := C.1.1
  have hb := C.1.2.1
  intro n
  induction n with
  | zero => intro l2 S_w S_l ls H locs hl h hf; cases hf
  | succ n ih =>
    intro l2 S_w S_l ls H locs hl h hf
    rw [f_sp_plan_36.eq_2] at hf
    refine lv_iload_n hx hb (pc := 36) dX5_plan_36 rfl (lv_at hl 1 rfl) ?_
    refine lv_aload_n hx hb (pc := 37) dX5_plan_37 rfl (lv_at hl 0 rfl) ?_
    refine x_get C h (pc := 38) xf_X5_22 3 rfl (v := iv S_bottom) rfl dX5_plan_38 ?_
    obtain ⟨g_6, hf⟩ := og_some hf
    obtain ⟨g_7, hf⟩ := og_some hf
    refine x_icmpgt C (pc := 41) (tgt := 116) g_6 g_7 dX5_plan_41 rfl (fun hc => ?_) (fun hc => ?_)
    · have hf := oi_t hf hc
      have e9 := Option.some.inj hf
      subst e9
      exact hret _ _ _ _ dX5_plan_116 h
    · have hf := oi_f hf hc
      refine lv_iload_n hx hb (pc := 44) dX5_plan_44 rfl (lv_at hl 1 rfl) ?_
      refine lv_istore_n hx hb (pc := 45) (lv' := [(3, iv l2), (0, .ref (b 10)), (2, iv l2)]) dX5_plan_45 rfl hl (Nat.le_of_ble_eq_true rfl) rfl (fun ls hl => ?_)
      exact w_sp_plan_46 C b D_rows D_cols D_cr D_cb D_cl D_kl P_all P_jr P_jb P_count P_cells Res hret N l2 S_planned S_cells S_top S_bottom S_left S_right (f_sp_plan_36 N S_planned S_cells S_top S_bottom S_left S_right D_cl D_kl P_all P_jr P_jb n) ih N l2 S_w S_l _ _ _ (lv_sub hl [1, 2, 0] rfl) h hf
set_option maxHeartbeats 4000000 in
set_option maxRecDepth 100000 in
theorem c_sp_plan (l : Launch) (D : va_G) (cI cJ cZ cO : ClassId) (b : Nat → Nat) (D_rows : Int) (D_cols : Int) (D_cr : BitVec 64) (D_cb : BitVec 64) (D_cl : Int) (D_kl : Int) (P_all : BitVec 64) (P_jr : BitVec 64) (P_jb : BitVec 64) (P_count : Int) (P_cells : Int → BitVec 64) (S_planned : Int) (S_cells : BitVec 64) (S_top : Int) (S_bottom : Int) (S_left : Int) (S_right : Int) (S_w : Int → Int) (S_l : Int → Int) (l1 : Int) (N : Nat) (Res : Int × BitVec 64 × Int × Int × Int × Int × (Int → Int) × (Int → Int)) (hf : f_sp_plan N l1 D_cl D_kl P_all P_jr P_jb P_cells S_planned S_cells S_top S_bottom S_left S_right S_w S_l = some Res) : CoV l D (xT cI cJ cZ cO) yX5_plan cX5_plan 6 none rm_sp_plan [.ref (b 10), iv l1] [((b 3), oD (b 4) D_rows D_cols D_cr D_cb D_cl D_kl), ((b 7), oP b P_all P_jr P_jb P_count), ((b 8), aJ cJ 49 P_cells), ((b 10), oS b S_planned S_cells S_top S_bottom S_left S_right), ((b 11), aI cI 784 S_w), ((b 12), aI cI 784 S_l)] [((b 3), oD (b 4) D_rows D_cols D_cr D_cb D_cl D_kl), ((b 7), oP b P_all P_jr P_jb P_count), ((b 8), aJ cJ 49 P_cells), ((b 10), oS b Res.1 Res.2.1 Res.2.2.1 Res.2.2.2.1 Res.2.2.2.2.1 Res.2.2.2.2.2.1), ((b 11), aI cI 784 Res.2.2.2.2.2.2.1), ((b 12), aI cI 784 Res.2.2.2.2.2.2.2)] := by
  refine co_v (by decide) ⟨rfl, rfl⟩ (Nat.le_of_ble_eq_true rfl) ?_
  intro p e s m args below meth c A Q ls C hret hl h
  have hx := C.1.1
  have hb := C.1.2.1
  have hl : lv_has ls 6 [(0, .ref (b 10)), (1, iv l1)] := hl
  unfold f_sp_plan at hf
  refine lv_iload_n hx hb (pc := 0) dX5_plan_0 rfl (lv_at hl 1 rfl) ?_
  refine lv_aload_n hx hb (pc := 1) dX5_plan_1 rfl (lv_at hl 0 rfl) ?_
  refine x_get C h (pc := 2) xf_X5_11 3 rfl (v := iv S_planned) rfl dX5_plan_2 ?_
  obtain ⟨g_1, hf⟩ := og_some hf
  obtain ⟨g_2, hf⟩ := og_some hf
  refine x_icmpne C (pc := 5) (tgt := 9) g_1 g_2 dX5_plan_5 rfl (fun hc => ?_) (fun hc => ?_)
  · have hf := oi_f hf hc
    refine lv_aload_n hx hb (pc := 9) dX5_plan_9 rfl (lv_at hl 0 rfl) ?_
    refine lv_iload_n hx hb (pc := 10) dX5_plan_10 rfl (lv_at hl 1 rfl) ?_
    refine x_puti C h (pc := 11) (ws' := [((b 3), oD (b 4) D_rows D_cols D_cr D_cb D_cl D_kl), ((b 7), oP b P_all P_jr P_jb P_count), ((b 8), aJ cJ 49 P_cells), ((b 10), oS b l1 S_cells S_top S_bottom S_left S_right), ((b 11), aI cI 784 S_w), ((b 12), aI cI 784 S_l)]) xf_X5_11 xp_X5 rfl 3 rfl rfl (Nat.le_of_ble_eq_true rfl) rfl dX5_plan_11 (fun H locs h => ?_)
    refine lv_aload_n hx hb (pc := 14) dX5_plan_14 rfl (lv_at hl 0 rfl) ?_
    refine lv_aload_n hx hb (pc := 15) dX5_plan_15 rfl (lv_at hl 0 rfl) ?_
    refine x_get C h (pc := 16) xf_X5_38 3 rfl (v := .ref (b 7)) rfl dX5_plan_16 ?_
    refine x_get C h (pc := 19) xf_X5_46 1 rfl (v := .ref (b 8)) rfl dX5_plan_19 ?_
    refine lv_iload_n hx hb (pc := 22) dX5_plan_22 rfl (lv_at hl 1 rfl) ?_
    obtain ⟨g_3, hf⟩ := og_some hf
    refine x_lald C h (pc := 23) 2 1 rfl rfl (Nat.le_of_ble_eq_true rfl) g_3 dX5_plan_23 ?_
    obtain ⟨S_cells_4, eS_cells_4, hf⟩ := ol_some hf
    refine x_topl eS_cells_4 ?_
    refine x_putl C h (pc := 24) (ws' := [((b 3), oD (b 4) D_rows D_cols D_cr D_cb D_cl D_kl), ((b 7), oP b P_all P_jr P_jb P_count), ((b 8), aJ cJ 49 P_cells), ((b 10), oS b l1 S_cells_4 S_top S_bottom S_left S_right), ((b 11), aI cI 784 S_w), ((b 12), aI cI 784 S_l)]) xf_X5_15 xp_X5 rfl 3 rfl rfl (Nat.le_of_ble_eq_true rfl) rfl dX5_plan_24 (fun H locs h => ?_)
    refine lv_aload_n hx hb (pc := 27) dX5_plan_27 rfl (lv_at hl 0 rfl) ?_
    obtain ⟨q_5, hq_5, hf⟩ := ob_some hf
    refine x_callVv C h (pc := 28) hl (c_sp_frame l D cI cJ cZ cO b l1 S_cells_4 S_top S_bottom S_left S_right N q_5 hq_5) xv_X5_frame lk_X5_51 ⟨(Nat.le_of_ble_eq_true rfl), (Nat.le_of_ble_eq_true rfl)⟩ rfl [3] [0, 1, 2, 4, 5] (nw := 6) (wr := [((b 3), oD (b 4) D_rows D_cols D_cr D_cb D_cl D_kl), ((b 7), oP b P_all P_jr P_jb P_count), ((b 8), aJ cJ 49 P_cells), ((b 11), aI cI 784 S_w), ((b 12), aI cI 784 S_l)]) (as := [(b 3), (b 7), (b 8), (b 10), (b 11), (b 12)]) (ws' := [((b 3), oD (b 4) D_rows D_cols D_cr D_cb D_cl D_kl), ((b 7), oP b P_all P_jr P_jb P_count), ((b 8), aJ cJ 49 P_cells), ((b 10), oS b l1 S_cells_4 q_5.1 q_5.2.1 q_5.2.2.1 q_5.2.2.2), ((b 11), aI cI 784 S_w), ((b 12), aI cI 784 S_l)]) rfl rfl rfl rfl rfl rfl rfl rfl rfl 3 rfl rfl rfl rfl (Nat.le_of_ble_eq_true rfl) dX5_plan_28 (fun H locs h => ?_)
    refine lv_aload_n hx hb (pc := 31) dX5_plan_31 rfl (lv_at hl 0 rfl) ?_
    refine x_get C h (pc := 32) xf_X5_19 3 rfl (v := iv q_5.1) rfl dX5_plan_32 ?_
    refine lv_istore_n hx hb (pc := 35) (lv' := [(2, iv q_5.1), (0, .ref (b 10)), (1, iv l1)]) dX5_plan_35 rfl hl (Nat.le_of_ble_eq_true rfl) rfl (fun ls hl => ?_)
    exact w_sp_plan_36 C b D_rows D_cols D_cr D_cb D_cl D_kl P_all P_jr P_jb P_count P_cells Res hret N l1 S_cells_4 q_5.1 q_5.2.1 q_5.2.2.1 q_5.2.2.2 N q_5.1 S_w S_l _ _ _ (lv_sub hl [1, 0] rfl) h hf
  · have hf := oi_t hf hc
    have e9 := Option.some.inj hf
    subst e9
    exact hret _ _ _ _ dX5_plan_8 h
abbrev rm_sp_cutPart (d : Nat) : Room := { frames := 2 + d, cells := 0, slots := 0, locals := 44 + 30 * d }
set_option maxHeartbeats 4000000 in
set_option maxRecDepth 100000 in
theorem c_sp_cutPart_d (l : Launch) (D : va_G) (cI cJ cZ cO : ClassId) (b : Nat → Nat) (D_rows : Int) (D_cols : Int) (D_cl : Int) (D_kl : Int) (P_all : BitVec 64) (P_jr : BitVec 64) (P_jb : BitVec 64) (P_count : Int) (S_planned : Int) (S_cells : BitVec 64) (S_top : Int) (S_bottom : Int) (S_left : Int) (S_right : Int) (S_l : Int → Int) (N : Nat) : ∀ (dd : Nat) (D_cr : BitVec 64) (D_cb : BitVec 64) (l2 : Int) (l3 : Int) (l4 : Int) (l5 : Int) (l6 : Int) (Res : BitVec 64 × BitVec 64), f_sp_cutPart N dd l2 l3 l4 l5 l6 D_cr D_cb P_jr P_jb S_cells S_l = some Res → CoV l D (xT cI cJ cZ cO) yX5_cutPart cX5_cutPart 11 none (rm_sp_cutPart dd) [.ref (b 10), .ref (b 3), iv l2, iv l3, iv l4, iv l5, iv l6] [((b 3), oD (b 4) D_rows D_cols D_cr D_cb D_cl D_kl), ((b 7), oP b P_all P_jr P_jb P_count), ((b 10), oS b S_planned S_cells S_top S_bottom S_left S_right), ((b 12), aI cI 784 S_l)] [((b 3), oD (b 4) D_rows D_cols Res.1 Res.2 D_cl D_kl), ((b 7), oP b P_all P_jr P_jb P_count), ((b 10), oS b S_planned S_cells S_top S_bottom S_left S_right), ((b 12), aI cI 784 S_l)] := by
  intro dd
  induction dd with
  | zero => intro D_cr D_cb l2 l3 l4 l5 l6 Res hf; cases hf
  | succ d0 ihd =>
    intro D_cr D_cb l2 l3 l4 l5 l6 Res hf
    rw [f_sp_cutPart.eq_2] at hf
    refine co_v (by decide) ⟨rfl, rfl⟩ (Nat.le_of_ble_eq_true rfl) ?_
    intro p e s m args below meth c A Q ls C hret hl h
    have hx := C.1.1
    have hb := C.1.2.1
    have hl : lv_has ls 11 [(0, .ref (b 10)), (1, .ref (b 3)), (2, iv l2), (3, iv l3), (4, iv l4), (5, iv l5), (6, iv l6)] := hl
    have hrc := ihd
    have hroom : (rm_sp_cutPart d0).frames + 1 ≤ (rm_sp_cutPart (d0 + 1)).frames ∧ 8 + (11 + 11) + (rm_sp_cutPart d0).locals ≤ (rm_sp_cutPart (d0 + 1)).locals := by simp only [rm_sp_cutPart]; omega
    generalize hrcd : f_sp_cutPart N d0 = rc at hf hrc
    refine lv_aload_n hx hb (pc := 0) dX5_cutPart_0 rfl (lv_at hl 0 rfl) ?_
    refine x_get C h (pc := 1) xf_X5_35 2 rfl (v := .ref (b 12)) rfl dX5_cutPart_1 ?_
    refine lv_iload_n hx hb (pc := 4) dX5_cutPart_4 rfl (lv_at hl 2 rfl) ?_
    refine lv_iload_n hx hb (pc := 5) dX5_cutPart_5 rfl (lv_at hl 3 rfl) ?_
    refine lv_iload hx hb (pc := 6) dX5_cutPart_6 (lv_at hl 4 rfl) ?_
    refine lv_iload hx hb (pc := 8) dX5_cutPart_8 (lv_at hl 5 rfl) ?_
    obtain ⟨q_1, hq_1, hf⟩ := ob_some hf
    refine x_callSi C h (pc := 10) hl (c_sp_place l D cI cJ cZ cO b l2 l3 l4 l5 N q_1 hq_1) xs_X5_place lk_X5_42 ⟨by simp only [rm_sp_cutPart, rm_sp_place]; omega, by simp only [rm_sp_cutPart, rm_sp_place]; omega⟩ rfl [] [0, 1, 2, 3] (nw := 4) (wr := [((b 3), oD (b 4) D_rows D_cols D_cr D_cb D_cl D_kl), ((b 7), oP b P_all P_jr P_jb P_count), ((b 10), oS b S_planned S_cells S_top S_bottom S_left S_right), ((b 12), aI cI 784 S_l)]) (as := [(b 3), (b 7), (b 10), (b 12)]) (ws' := [((b 3), oD (b 4) D_rows D_cols D_cr D_cb D_cl D_kl), ((b 7), oP b P_all P_jr P_jb P_count), ((b 10), oS b S_planned S_cells S_top S_bottom S_left S_right), ((b 12), aI cI 784 S_l)]) rfl rfl rfl rfl rfl rfl rfl rfl rfl rfl (Nat.le_of_ble_eq_true rfl) dX5_cutPart_10 (fun H locs h => ?_)
    obtain ⟨g_2, hf⟩ := og_some hf
    refine x_iald C h (pc := 13) 3 0 rfl rfl (Nat.le_of_ble_eq_true rfl) g_2 dX5_cutPart_13 ?_
    obtain ⟨l7_3, el7_3, hf⟩ := ol_some hf
    refine x_topi el7_3 ?_
    refine lv_istore hx hb (pc := 14) (lv' := [(7, iv l7_3), (0, .ref (b 10)), (1, .ref (b 3)), (2, iv l2), (3, iv l3), (4, iv l4), (5, iv l5), (6, iv l6)]) dX5_cutPart_14 hl (Nat.le_of_ble_eq_true rfl) rfl (fun ls hl => ?_)
    refine lv_iload hx hb (pc := 16) dX5_cutPart_16 (lv_at hl 0 rfl) ?_
    refine x_iconst C (pc := 18) dX5_cutPart_18 ?_
    obtain ⟨g_4, hf⟩ := og_some hf
    refine x_icmpeq C (pc := 19) (tgt := 29) g_4 ⟨by decide, by decide⟩ dX5_cutPart_19 rfl (fun hc => ?_) (fun hc => ?_)
    · have hf := oi_t hf hc
      have e9 := Option.some.inj hf
      subst e9
      exact hret _ _ _ _ dX5_cutPart_29 h
    · have hf := oi_f hf hc
      refine lv_iload hx hb (pc := 22) dX5_cutPart_22 (lv_at hl 7 rfl) ?_
      refine x_bipush C (pc := 24) dX5_cutPart_24 (by decide) ?_
      obtain ⟨g_5, hf⟩ := og_some hf
      refine x_icmple C (pc := 26) (tgt := 30) g_5 ⟨by decide, by decide⟩ dX5_cutPart_26 rfl (fun hc => ?_) (fun hc => ?_)
      · have hf := oi_t hf hc
        refine lv_aload_n hx hb (pc := 30) dX5_cutPart_30 rfl (lv_at hl 1 rfl) ?_
        refine x_get C h (pc := 31) xf_X5_15 2 rfl (v := lv S_cells) rfl dX5_cutPart_31 ?_
        refine lv_iload_n hx hb (pc := 34) dX5_cutPart_34 rfl (lv_at hl 3 rfl) ?_
        refine lv_iload_n hx hb (pc := 35) dX5_cutPart_35 rfl (lv_at hl 4 rfl) ?_
        refine lv_iload hx hb (pc := 36) dX5_cutPart_36 (lv_at hl 5 rfl) ?_
        refine lv_iload hx hb (pc := 38) dX5_cutPart_38 (lv_at hl 6 rfl) ?_
        obtain ⟨q_6, hq_6, hf⟩ := ob_some hf
        refine x_callSl C h (pc := 40) hl (c_ce_block l D cI cJ cZ cO l2 l3 l4 l5 N q_6 hq_6) xs_X0_block lk_X5_71 ⟨by simp only [rm_sp_cutPart, rm_ce_block]; omega, by simp only [rm_sp_cutPart, rm_ce_block]; omega⟩ rfl [] [0, 1, 2, 3] (nw := 4) (wr := [((b 3), oD (b 4) D_rows D_cols D_cr D_cb D_cl D_kl), ((b 7), oP b P_all P_jr P_jb P_count), ((b 10), oS b S_planned S_cells S_top S_bottom S_left S_right), ((b 12), aI cI 784 S_l)]) (as := [(b 3), (b 7), (b 10), (b 12)]) (ws' := [((b 3), oD (b 4) D_rows D_cols D_cr D_cb D_cl D_kl), ((b 7), oP b P_all P_jr P_jb P_count), ((b 10), oS b S_planned S_cells S_top S_bottom S_left S_right), ((b 12), aI cI 784 S_l)]) rfl rfl rfl rfl rfl rfl rfl rfl rfl rfl (Nat.le_of_ble_eq_true rfl) dX5_cutPart_40 (fun H locs h => ?_)
        refine x_land C (pc := 43) dX5_cutPart_43 ?_
        obtain ⟨l8_7, el8_7, hf⟩ := ol_some hf
        refine x_topl el8_7 ?_
        refine lv_lstore hx hb (pc := 44) (lv' := [(8, lv l8_7), (7, iv l7_3), (0, .ref (b 10)), (1, .ref (b 3)), (2, iv l2), (3, iv l3), (4, iv l4), (5, iv l5), (6, iv l6)]) dX5_cutPart_44 hl (Nat.le_of_ble_eq_true rfl) rfl (fun ls hl => ?_)
        refine lv_iload hx hb (pc := 46) dX5_cutPart_46 (lv_at hl 1 rfl) ?_
        refine x_bipush C (pc := 48) dX5_cutPart_48 (by decide) ?_
        refine x_icmpge C (pc := 50) (tgt := 107) g_4 ⟨by decide, by decide⟩ dX5_cutPart_50 rfl (fun hc => ?_) (fun hc => ?_)
        · have hf := oi_t hf hc
          refine lv_iload hx hb (pc := 107) dX5_cutPart_107 (lv_at hl 1 rfl) ?_
          refine x_bipush C (pc := 109) dX5_cutPart_109 (by decide) ?_
          refine x_isub C (pc := 111) dX5_cutPart_111 ?_
          obtain ⟨l10_8, el10_8, hf⟩ := ol_some hf
          refine x_topi el10_8 ?_
          refine lv_istore hx hb (pc := 112) (lv' := [(10, iv l10_8), (8, lv l8_7), (7, iv l7_3), (0, .ref (b 10)), (1, .ref (b 3)), (2, iv l2), (3, iv l3), (4, iv l4), (5, iv l5), (6, iv l6)]) dX5_cutPart_112 hl (Nat.le_of_ble_eq_true rfl) rfl (fun ls hl => ?_)
          refine lv_aload_n hx hb (pc := 114) dX5_cutPart_114 rfl (lv_at hl 4 rfl) ?_
          refine lv_dup hx hb (pc := 115) dX5_cutPart_115 rfl ?_
          refine x_get C h (pc := 116) xf_X5_111 0 rfl (v := lv D_cr) rfl dX5_cutPart_116 ?_
          refine lv_aload_n hx hb (pc := 119) dX5_cutPart_119 rfl (lv_at hl 3 rfl) ?_
          refine lv_lload hx hb (pc := 120) dX5_cutPart_120 (lv_at hl 1 rfl) ?_
          refine lv_iload hx hb (pc := 122) dX5_cutPart_122 (lv_at hl 0 rfl) ?_
          obtain ⟨q_9, hq_9, hf⟩ := ob_some hf
          refine x_callVl C h (pc := 124) hl (c_sp_crossedRight l D cI cJ cZ cO b P_all P_jr P_jb P_count S_planned S_cells S_top S_bottom S_left S_right l8_7 l10_8 N q_9 hq_9) xv_X5_crossedRight lk_X5_93 ⟨by simp only [rm_sp_cutPart, rm_sp_crossedRight]; omega, by simp only [rm_sp_cutPart, rm_sp_crossedRight]; omega⟩ rfl [1, 2] [0, 3] (nw := 4) (wr := [((b 3), oD (b 4) D_rows D_cols D_cr D_cb D_cl D_kl), ((b 12), aI cI 784 S_l)]) (as := [(b 3), (b 7), (b 10), (b 12)]) (ws' := [((b 3), oD (b 4) D_rows D_cols D_cr D_cb D_cl D_kl), ((b 7), oP b P_all P_jr P_jb P_count), ((b 10), oS b S_planned S_cells S_top S_bottom S_left S_right), ((b 12), aI cI 784 S_l)]) rfl rfl rfl rfl rfl rfl rfl rfl rfl 2 rfl rfl rfl rfl (Nat.le_of_ble_eq_true rfl) dX5_cutPart_124 (fun H locs h => ?_)
          refine x_lor C (pc := 127) dX5_cutPart_127 ?_
          obtain ⟨D_cr_10, eD_cr_10, hf⟩ := ol_some hf
          refine x_topl eD_cr_10 ?_
          refine x_putl C h (pc := 128) (ws' := [((b 3), oD (b 4) D_rows D_cols D_cr_10 D_cb D_cl D_kl), ((b 7), oP b P_all P_jr P_jb P_count), ((b 10), oS b S_planned S_cells S_top S_bottom S_left S_right), ((b 12), aI cI 784 S_l)]) xf_X5_111 xp_X2 rfl 0 rfl rfl (Nat.le_of_ble_eq_true rfl) rfl dX5_cutPart_128 (fun H locs h => ?_)
          refine lv_aload_n hx hb (pc := 131) dX5_cutPart_131 rfl (lv_at hl 3 rfl) ?_
          refine lv_aload_n hx hb (pc := 132) dX5_cutPart_132 rfl (lv_at hl 4 rfl) ?_
          refine lv_iload_n hx hb (pc := 133) dX5_cutPart_133 rfl (lv_at hl 5 rfl) ?_
          refine lv_iload_n hx hb (pc := 134) dX5_cutPart_134 rfl (lv_at hl 6 rfl) ?_
          refine lv_iload hx hb (pc := 135) dX5_cutPart_135 (lv_at hl 7 rfl) ?_
          refine lv_iload hx hb (pc := 137) dX5_cutPart_137 (lv_at hl 0 rfl) ?_
          refine lv_iload hx hb (pc := 139) dX5_cutPart_139 (lv_at hl 9 rfl) ?_
          refine x_iconst C (pc := 141) dX5_cutPart_141 ?_
          refine x_iadd C (pc := 142) dX5_cutPart_142 ?_
          obtain ⟨q_11, hq_11, hf⟩ := ob_some hf
          refine x_callVv C h (pc := 143) hl (hrc D_cr_10 D_cb l2 l3 l4 l10_8 (l6 + 1) q_11 hq_11) xv_X5_cutPart lk_X5_102 (hroom) rfl [0, 1, 2, 3] [] (nw := 4) (wr := []) (as := [(b 3), (b 7), (b 10), (b 12)]) (ws' := [((b 3), oD (b 4) D_rows D_cols q_11.1 q_11.2 D_cl D_kl), ((b 7), oP b P_all P_jr P_jb P_count), ((b 10), oS b S_planned S_cells S_top S_bottom S_left S_right), ((b 12), aI cI 784 S_l)]) rfl rfl rfl rfl rfl rfl rfl rfl rfl 2 rfl rfl rfl rfl (Nat.le_of_ble_eq_true rfl) dX5_cutPart_143 (fun H locs h => ?_)
          refine lv_aload_n hx hb (pc := 146) dX5_cutPart_146 rfl (lv_at hl 3 rfl) ?_
          refine lv_aload_n hx hb (pc := 147) dX5_cutPart_147 rfl (lv_at hl 4 rfl) ?_
          refine lv_iload_n hx hb (pc := 148) dX5_cutPart_148 rfl (lv_at hl 5 rfl) ?_
          refine lv_iload_n hx hb (pc := 149) dX5_cutPart_149 rfl (lv_at hl 6 rfl) ?_
          refine lv_iload hx hb (pc := 150) dX5_cutPart_150 (lv_at hl 0 rfl) ?_
          refine x_iconst C (pc := 152) dX5_cutPart_152 ?_
          refine x_iadd C (pc := 153) dX5_cutPart_153 ?_
          refine lv_iload hx hb (pc := 154) dX5_cutPart_154 (lv_at hl 8 rfl) ?_
          refine lv_iload hx hb (pc := 156) dX5_cutPart_156 (lv_at hl 9 rfl) ?_
          refine x_iconst C (pc := 158) dX5_cutPart_158 ?_
          refine x_iadd C (pc := 159) dX5_cutPart_159 ?_
          obtain ⟨q_12, hq_12, hf⟩ := ob_some hf
          refine x_callVv C h (pc := 160) hl (hrc q_11.1 q_11.2 l2 l3 (l10_8 + 1) l5 (l6 + 1) q_12 hq_12) xv_X5_cutPart lk_X5_102 (hroom) rfl [0, 1, 2, 3] [] (nw := 4) (wr := []) (as := [(b 3), (b 7), (b 10), (b 12)]) (ws' := [((b 3), oD (b 4) D_rows D_cols q_12.1 q_12.2 D_cl D_kl), ((b 7), oP b P_all P_jr P_jb P_count), ((b 10), oS b S_planned S_cells S_top S_bottom S_left S_right), ((b 12), aI cI 784 S_l)]) rfl rfl rfl rfl rfl rfl rfl rfl rfl 2 rfl rfl rfl rfl (Nat.le_of_ble_eq_true rfl) dX5_cutPart_160 (fun H locs h => ?_)
          have e9 := Option.some.inj hf
          subst e9
          exact hret _ _ _ _ dX5_cutPart_163 h
        · have hf := oi_f hf hc
          refine lv_aload_n hx hb (pc := 53) dX5_cutPart_53 rfl (lv_at hl 3 rfl) ?_
          refine lv_dup hx hb (pc := 54) dX5_cutPart_54 rfl ?_
          refine x_get C h (pc := 55) xf_X5_106 0 rfl (v := lv D_cb) rfl dX5_cutPart_55 ?_
          refine lv_aload_n hx hb (pc := 58) dX5_cutPart_58 rfl (lv_at hl 2 rfl) ?_
          refine lv_lload hx hb (pc := 59) dX5_cutPart_59 (lv_at hl 0 rfl) ?_
          refine lv_iload hx hb (pc := 61) dX5_cutPart_61 (lv_at hl 1 rfl) ?_
          obtain ⟨q_13, hq_13, hf⟩ := ob_some hf
          refine x_callVl C h (pc := 63) hl (c_sp_crossedBelow l D cI cJ cZ cO b P_all P_jr P_jb P_count S_planned S_cells S_top S_bottom S_left S_right l8_7 l7_3 N q_13 hq_13) xv_X5_crossedBelow lk_X5_80 ⟨by simp only [rm_sp_cutPart, rm_sp_crossedBelow]; omega, by simp only [rm_sp_cutPart, rm_sp_crossedBelow]; omega⟩ rfl [1, 2] [0, 3] (nw := 4) (wr := [((b 3), oD (b 4) D_rows D_cols D_cr D_cb D_cl D_kl), ((b 12), aI cI 784 S_l)]) (as := [(b 3), (b 7), (b 10), (b 12)]) (ws' := [((b 3), oD (b 4) D_rows D_cols D_cr D_cb D_cl D_kl), ((b 7), oP b P_all P_jr P_jb P_count), ((b 10), oS b S_planned S_cells S_top S_bottom S_left S_right), ((b 12), aI cI 784 S_l)]) rfl rfl rfl rfl rfl rfl rfl rfl rfl 2 rfl rfl rfl rfl (Nat.le_of_ble_eq_true rfl) dX5_cutPart_63 (fun H locs h => ?_)
          refine x_lor C (pc := 66) dX5_cutPart_66 ?_
          obtain ⟨D_cb_14, eD_cb_14, hf⟩ := ol_some hf
          refine x_topl eD_cb_14 ?_
          refine x_putl C h (pc := 67) (ws' := [((b 3), oD (b 4) D_rows D_cols D_cr D_cb_14 D_cl D_kl), ((b 7), oP b P_all P_jr P_jb P_count), ((b 10), oS b S_planned S_cells S_top S_bottom S_left S_right), ((b 12), aI cI 784 S_l)]) xf_X5_106 xp_X2 rfl 0 rfl rfl (Nat.le_of_ble_eq_true rfl) rfl dX5_cutPart_67 (fun H locs h => ?_)
          refine lv_aload_n hx hb (pc := 70) dX5_cutPart_70 rfl (lv_at hl 2 rfl) ?_
          refine lv_aload_n hx hb (pc := 71) dX5_cutPart_71 rfl (lv_at hl 3 rfl) ?_
          refine lv_iload_n hx hb (pc := 72) dX5_cutPart_72 rfl (lv_at hl 4 rfl) ?_
          refine lv_iload hx hb (pc := 73) dX5_cutPart_73 (lv_at hl 1 rfl) ?_
          refine lv_iload hx hb (pc := 75) dX5_cutPart_75 (lv_at hl 6 rfl) ?_
          refine lv_iload hx hb (pc := 77) dX5_cutPart_77 (lv_at hl 7 rfl) ?_
          refine lv_iload hx hb (pc := 79) dX5_cutPart_79 (lv_at hl 8 rfl) ?_
          refine x_iconst C (pc := 81) dX5_cutPart_81 ?_
          refine x_iadd C (pc := 82) dX5_cutPart_82 ?_
          obtain ⟨q_15, hq_15, hf⟩ := ob_some hf
          refine x_callVv C h (pc := 83) hl (hrc D_cr D_cb_14 l2 l7_3 l4 l5 (l6 + 1) q_15 hq_15) xv_X5_cutPart lk_X5_102 (hroom) rfl [0, 1, 2, 3] [] (nw := 4) (wr := []) (as := [(b 3), (b 7), (b 10), (b 12)]) (ws' := [((b 3), oD (b 4) D_rows D_cols q_15.1 q_15.2 D_cl D_kl), ((b 7), oP b P_all P_jr P_jb P_count), ((b 10), oS b S_planned S_cells S_top S_bottom S_left S_right), ((b 12), aI cI 784 S_l)]) rfl rfl rfl rfl rfl rfl rfl rfl rfl 2 rfl rfl rfl rfl (Nat.le_of_ble_eq_true rfl) dX5_cutPart_83 (fun H locs h => ?_)
          refine lv_aload_n hx hb (pc := 86) dX5_cutPart_86 rfl (lv_at hl 2 rfl) ?_
          refine lv_aload_n hx hb (pc := 87) dX5_cutPart_87 rfl (lv_at hl 3 rfl) ?_
          refine lv_iload hx hb (pc := 88) dX5_cutPart_88 (lv_at hl 1 rfl) ?_
          refine x_iconst C (pc := 90) dX5_cutPart_90 ?_
          refine x_iadd C (pc := 91) dX5_cutPart_91 ?_
          refine lv_iload_n hx hb (pc := 92) dX5_cutPart_92 rfl (lv_at hl 5 rfl) ?_
          refine lv_iload hx hb (pc := 93) dX5_cutPart_93 (lv_at hl 6 rfl) ?_
          refine lv_iload hx hb (pc := 95) dX5_cutPart_95 (lv_at hl 7 rfl) ?_
          refine lv_iload hx hb (pc := 97) dX5_cutPart_97 (lv_at hl 8 rfl) ?_
          refine x_iconst C (pc := 99) dX5_cutPart_99 ?_
          refine x_iadd C (pc := 100) dX5_cutPart_100 ?_
          obtain ⟨q_16, hq_16, hf⟩ := ob_some hf
          refine x_callVv C h (pc := 101) hl (hrc q_15.1 q_15.2 (l7_3 + 1) l3 l4 l5 (l6 + 1) q_16 hq_16) xv_X5_cutPart lk_X5_102 (hroom) rfl [0, 1, 2, 3] [] (nw := 4) (wr := []) (as := [(b 3), (b 7), (b 10), (b 12)]) (ws' := [((b 3), oD (b 4) D_rows D_cols q_16.1 q_16.2 D_cl D_kl), ((b 7), oP b P_all P_jr P_jb P_count), ((b 10), oS b S_planned S_cells S_top S_bottom S_left S_right), ((b 12), aI cI 784 S_l)]) rfl rfl rfl rfl rfl rfl rfl rfl rfl 2 rfl rfl rfl rfl (Nat.le_of_ble_eq_true rfl) dX5_cutPart_101 (fun H locs h => ?_)
          refine lv_goto hx hb (pc := 104) (tgt := 163) dX5_cutPart_104 rfl ?_
          have e9 := Option.some.inj hf
          subst e9
          exact hret _ _ _ _ dX5_cutPart_163 h
      · have hf := oi_f hf hc
        have e9 := Option.some.inj hf
        subst e9
        exact hret _ _ _ _ dX5_cutPart_29 h
theorem c_sp_cutPart (l : Launch) (D : va_G) (cI cJ cZ cO : ClassId) (b : Nat → Nat) (D_rows : Int) (D_cols : Int) (D_cr : BitVec 64) (D_cb : BitVec 64) (D_cl : Int) (D_kl : Int) (P_all : BitVec 64) (P_jr : BitVec 64) (P_jb : BitVec 64) (P_count : Int) (S_planned : Int) (S_cells : BitVec 64) (S_top : Int) (S_bottom : Int) (S_left : Int) (S_right : Int) (S_l : Int → Int) (l2 : Int) (l3 : Int) (l4 : Int) (l5 : Int) (l6 : Int) (N : Nat) (Res : BitVec 64 × BitVec 64) (hf : f_sp_cutPart N 20 l2 l3 l4 l5 l6 D_cr D_cb P_jr P_jb S_cells S_l = some Res) : CoV l D (xT cI cJ cZ cO) yX5_cutPart cX5_cutPart 11 none (rm_sp_cutPart 20) [.ref (b 10), .ref (b 3), iv l2, iv l3, iv l4, iv l5, iv l6] [((b 3), oD (b 4) D_rows D_cols D_cr D_cb D_cl D_kl), ((b 7), oP b P_all P_jr P_jb P_count), ((b 10), oS b S_planned S_cells S_top S_bottom S_left S_right), ((b 12), aI cI 784 S_l)] [((b 3), oD (b 4) D_rows D_cols Res.1 Res.2 D_cl D_kl), ((b 7), oP b P_all P_jr P_jb P_count), ((b 10), oS b S_planned S_cells S_top S_bottom S_left S_right), ((b 12), aI cI 784 S_l)] := c_sp_cutPart_d l D cI cJ cZ cO b D_rows D_cols D_cl D_kl P_all P_jr P_jb P_count S_planned S_cells S_top S_bottom S_left S_right S_l N 20 D_cr D_cb l2 l3 l4 l5 l6 Res hf
abbrev rm_sp_cut : Room := { frames := 23, cells := 0, slots := 0, locals := 674 }
set_option maxHeartbeats 4000000 in
set_option maxRecDepth 100000 in
theorem c_sp_cut (l : Launch) (D : va_G) (cI cJ cZ cO : ClassId) (b : Nat → Nat) (D_rows : Int) (D_cols : Int) (D_cr : BitVec 64) (D_cb : BitVec 64) (D_cl : Int) (D_kl : Int) (P_all : BitVec 64) (P_jr : BitVec 64) (P_jb : BitVec 64) (P_count : Int) (S_planned : Int) (S_cells : BitVec 64) (S_top : Int) (S_bottom : Int) (S_left : Int) (S_right : Int) (S_l : Int → Int) (N : Nat) (Res : BitVec 64 × BitVec 64) (hf : f_sp_cut N D_cr D_cb P_jr P_jb S_cells S_top S_bottom S_left S_right S_l = some Res) : CoV l D (xT cI cJ cZ cO) yX5_cut cX5_cut 2 none rm_sp_cut [.ref (b 10), .ref (b 3)] [((b 3), oD (b 4) D_rows D_cols D_cr D_cb D_cl D_kl), ((b 7), oP b P_all P_jr P_jb P_count), ((b 10), oS b S_planned S_cells S_top S_bottom S_left S_right), ((b 12), aI cI 784 S_l)] [((b 3), oD (b 4) D_rows D_cols Res.1 Res.2 D_cl D_kl), ((b 7), oP b P_all P_jr P_jb P_count), ((b 10), oS b S_planned S_cells S_top S_bottom S_left S_right), ((b 12), aI cI 784 S_l)] := by
  refine co_v (by decide) ⟨rfl, rfl⟩ (Nat.le_of_ble_eq_true rfl) ?_
  intro p e s m args below meth c A Q ls C hret hl h
  have hx := C.1.1
  have hb := C.1.2.1
  have hl : lv_has ls 2 [(0, .ref (b 10)), (1, .ref (b 3))] := hl
  unfold f_sp_cut at hf
  refine lv_aload_n hx hb (pc := 0) dX5_cut_0 rfl (lv_at hl 0 rfl) ?_
  refine lv_aload_n hx hb (pc := 1) dX5_cut_1 rfl (lv_at hl 1 rfl) ?_
  refine lv_aload_n hx hb (pc := 2) dX5_cut_2 rfl (lv_at hl 0 rfl) ?_
  refine x_get C h (pc := 3) xf_X5_19 2 rfl (v := iv S_top) rfl dX5_cut_3 ?_
  refine lv_aload_n hx hb (pc := 6) dX5_cut_6 rfl (lv_at hl 0 rfl) ?_
  refine x_get C h (pc := 7) xf_X5_22 2 rfl (v := iv S_bottom) rfl dX5_cut_7 ?_
  refine lv_aload_n hx hb (pc := 10) dX5_cut_10 rfl (lv_at hl 0 rfl) ?_
  refine x_get C h (pc := 11) xf_X5_25 2 rfl (v := iv S_left) rfl dX5_cut_11 ?_
  refine lv_aload_n hx hb (pc := 14) dX5_cut_14 rfl (lv_at hl 0 rfl) ?_
  refine x_get C h (pc := 15) xf_X5_28 2 rfl (v := iv S_right) rfl dX5_cut_15 ?_
  refine x_iconst C (pc := 18) dX5_cut_18 ?_
  obtain ⟨q_1, hq_1, hf⟩ := ob_some hf
  refine x_callVv C h (pc := 19) hl (c_sp_cutPart l D cI cJ cZ cO b D_rows D_cols D_cr D_cb D_cl D_kl P_all P_jr P_jb P_count S_planned S_cells S_top S_bottom S_left S_right S_l S_top S_bottom S_left S_right 0 N q_1 hq_1) xv_X5_cutPart lk_X5_102 ⟨(Nat.le_of_ble_eq_true rfl), (Nat.le_of_ble_eq_true rfl)⟩ rfl [0, 1, 2, 3] [] (nw := 4) (wr := []) (as := [(b 3), (b 7), (b 10), (b 12)]) (ws' := [((b 3), oD (b 4) D_rows D_cols q_1.1 q_1.2 D_cl D_kl), ((b 7), oP b P_all P_jr P_jb P_count), ((b 10), oS b S_planned S_cells S_top S_bottom S_left S_right), ((b 12), aI cI 784 S_l)]) rfl rfl rfl rfl rfl rfl rfl rfl rfl 2 rfl rfl rfl rfl (Nat.le_of_ble_eq_true rfl) dX5_cut_19 (fun H locs h => ?_)
  have e9 := Option.some.inj hf
  subst e9
  exact hret _ _ _ _ dX5_cut_22 h
