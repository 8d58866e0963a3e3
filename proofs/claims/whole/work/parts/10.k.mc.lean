abbrev rm_mo_box : Room := { frames := 0, cells := 0, slots := 0, locals := 0 }
set_option maxHeartbeats 4000000 in
set_option maxRecDepth 100000 in
theorem c_mo_box (l : Launch) (D : va_G) (cI cJ cZ cO : ClassId) (a : Nat → Nat) (l0 : Int) (l1 : Int) (l2 : Int) (l3 : Int) (N : Nat) (Res : Int) (hf : f_mo_box N l0 l1 l2 l3 = some Res) : CoI l D (xT cI cJ cZ cO) yX8_box cX8_box 4 (some .int) rm_mo_box [iv l0, iv l1, iv l2, iv l3] [] Res [] := by
  refine co_i (by decide) ⟨rfl, rfl⟩ (Nat.le_of_ble_eq_true rfl) ?_
  intro p e s m args below meth c A Q ls C hret hl h
  have hx := C.1.1
  have hb := C.1.2.1
  have hl : lv_has ls 4 [(0, iv l0), (1, iv l1), (2, iv l2), (3, iv l3)] := hl
  unfold f_mo_box at hf
  refine lv_iload_n hx hb (pc := 0) dX8_box_0 rfl (lv_at hl 0 rfl) ?_
  refine x_bipush C (pc := 1) dX8_box_1 (by decide) ?_
  refine x_imul C (pc := 3) dX8_box_3 ?_
  refine lv_iload_n hx hb (pc := 4) dX8_box_4 rfl (lv_at hl 1 rfl) ?_
  refine x_iadd C (pc := 5) dX8_box_5 ?_
  refine x_bipush C (pc := 6) dX8_box_6 (by decide) ?_
  refine x_imul C (pc := 8) dX8_box_8 ?_
  refine lv_iload_n hx hb (pc := 9) dX8_box_9 rfl (lv_at hl 2 rfl) ?_
  refine x_iadd C (pc := 10) dX8_box_10 ?_
  refine x_bipush C (pc := 11) dX8_box_11 (by decide) ?_
  refine x_imul C (pc := 13) dX8_box_13 ?_
  refine lv_iload_n hx hb (pc := 14) dX8_box_14 rfl (lv_at hl 3 rfl) ?_
  refine x_iadd C (pc := 15) dX8_box_15 ?_
  have e9 := Option.some.inj hf
  subst e9
  exact hret _ _ _ _ dX8_box_16 h
abbrev rm_mo_easyMany : Room := { frames := 5, cells := 0, slots := 0, locals := 121 }
set_option maxHeartbeats 4000000 in
set_option maxRecDepth 100000 in
theorem w_mo_easyMany_144 {p : Program} {l : Launch} {e : Env} {s : State} {m : MethodId} {args : Array Value} {below : List Frame} {meth : Method} {c : Code} {Q : State → Prop} {D : va_G} {cI cJ cZ cO : ClassId} {A : Nat → Prop} {H0 : Heap} {w0 : Cond} (C : XC p s m args c cX8_easyMany 7 RX8 w0 D (xT cI cJ cZ cO)) (a : Nat → Nat) (M_edits : Int) (M_typed : Int) (M_readRows : Int) (M_readColumns : Int) (M_top : Int) (M_bottom : Int) (M_left : Int) (M_right : Int) (M_panes : Int) (M_now : Int → Int) (M_pane : Int → Int) (Res : Int × (Int → Int) × (Int → Int) × (Int → Int)) (hret : XRI p l e rm_mo_easyMany s m args below meth c cX8_easyMany D A H0 Q Res.1 [((a 0), oM a M_edits M_typed M_readRows M_readColumns M_top M_bottom M_left M_right M_panes), ((a 1), aI cI 151 M_now), ((a 5), aI cI 49 Res.2.1), ((a 6), aI cI 49 M_pane), ((a 7), aI cI 49 Res.2.2.1), ((a 9), aI cZ 49 Res.2.2.2)]) (N : Nat) : ∀ (l2 : Int) (l3 : Int) (M_queue : Int → Int) (M_fragment : Int → Int) (M_seen : Int → Int) (ls : Array Slot) (H : Heap) (locs : List Loc), lv_has ls 7 [(2, iv l2), (3, iv l3)] → XH D A H0 [((a 0), oM a M_edits M_typed M_readRows M_readColumns M_top M_bottom M_left M_right M_panes), ((a 1), aI cI 151 M_now), ((a 5), aI cI 49 M_queue), ((a 6), aI cI 49 M_pane), ((a 7), aI cI 49 M_fragment), ((a 9), aI cZ 49 M_seen)] H locs → f_mo_easyMany_144 N l2 l3 M_queue M_fragment M_seen = some Res → W p l e rm_mo_easyMany s m args below meth c H locs 0 0 Q (F0 m 144 ls []) := by
  have hx := C.1.1
  have hb := C.1.2.1
  intro l2 l3 M_queue M_fragment M_seen ls H locs hl h hf
  unfold f_mo_easyMany_144 at hf
  refine lv_iload_n hx hb (pc := 144) dX8_easyMany_144 rfl (lv_at hl 1 rfl) ?_
  obtain ⟨g_48, hf⟩ := og_some hf
  refine x_ifeq C (pc := 145) (tgt := 152) g_48 dX8_easyMany_145 rfl (fun hc => ?_) (fun hc => ?_)
  · have hf := oi_t hf hc
    refine x_iconst C (pc := 152) dX8_easyMany_152 ?_
    have e9 := Option.some.inj hf
    subst e9
    exact hret _ _ _ _ dX8_easyMany_153 h
  · have hf := oi_f hf hc
    refine lv_iload_n hx hb (pc := 148) dX8_easyMany_148 rfl (lv_at hl 0 rfl) ?_
    refine lv_goto hx hb (pc := 149) (tgt := 153) dX8_easyMany_149 rfl ?_
    have e9 := Option.some.inj hf
    subst e9
    exact hret _ _ _ _ dX8_easyMany_153 h
set_option maxHeartbeats 4000000 in
set_option maxRecDepth 100000 in
theorem w_mo_easyMany_28 {p : Program} {l : Launch} {e : Env} {s : State} {m : MethodId} {args : Array Value} {below : List Frame} {meth : Method} {c : Code} {Q : State → Prop} {D : va_G} {cI cJ cZ cO : ClassId} {A : Nat → Prop} {H0 : Heap} {w0 : Cond} (C : XC p s m args c cX8_easyMany 7 RX8 w0 D (xT cI cJ cZ cO)) (a : Nat → Nat) (M_edits : Int) (M_typed : Int) (M_readRows : Int) (M_readColumns : Int) (M_top : Int) (M_bottom : Int) (M_left : Int) (M_right : Int) (M_panes : Int) (M_now : Int → Int) (M_pane : Int → Int) (Res : Int × (Int → Int) × (Int → Int) × (Int → Int)) (hret : XRI p l e rm_mo_easyMany s m args below meth c cX8_easyMany D A H0 Q Res.1 [((a 0), oM a M_edits M_typed M_readRows M_readColumns M_top M_bottom M_left M_right M_panes), ((a 1), aI cI 151 M_now), ((a 5), aI cI 49 Res.2.1), ((a 6), aI cI 49 M_pane), ((a 7), aI cI 49 Res.2.2.1), ((a 9), aI cZ 49 Res.2.2.2)]) (N : Nat) (l1 : Int) : ∀ (n : Nat) (l2 : Int) (l3 : Int) (l4 : Int) (M_queue : Int → Int) (M_fragment : Int → Int) (M_seen : Int → Int) (ls : Array Slot) (H : Heap) (locs : List Loc), lv_has ls 7 [(0, .ref (a 0)), (1, iv l1), (2, iv l2), (3, iv l3), (4, iv l4)] → XH D A H0 [((a 0), oM a M_edits M_typed M_readRows M_readColumns M_top M_bottom M_left M_right M_panes), ((a 1), aI cI 151 M_now), ((a 5), aI cI 49 M_queue), ((a 6), aI cI 49 M_pane), ((a 7), aI cI 49 M_fragment), ((a 9), aI cZ 49 M_seen)] H locs → f_mo_easyMany_28 N l1 M_top M_bottom M_left M_right M_now M_pane n l2 l3 l4 M_queue M_fragment M_seen = some Res → W p l e rm_mo_easyMany s m args below meth c H locs 0 0 Q (F0 m 28 ls []) := by
  have hx := C.1.1
  have hb := C.1.2.1
  intro n
  induction n with
  | zero => intro l2 l3 l4 M_queue M_fragment M_seen ls H locs hl h hf; cases hf
  | succ n ih =>
    intro l2 l3 l4 M_queue M_fragment M_seen ls H locs hl h hf
    rw [f_mo_easyMany_28.eq_2] at hf
    refine lv_iload hx hb (pc := 28) dX8_easyMany_28 (lv_at hl 4 rfl) ?_
    refine x_bipush C (pc := 30) dX8_easyMany_30 (by decide) ?_
    obtain ⟨g_29, hf⟩ := og_some hf
    refine x_icmpge C (pc := 32) (tgt := 144) g_29 ⟨by decide, by decide⟩ dX8_easyMany_32 rfl (fun hc => ?_) (fun hc => ?_)
    · have hf := oi_t hf hc
      exact w_mo_easyMany_144 C a M_edits M_typed M_readRows M_readColumns M_top M_bottom M_left M_right M_panes M_now M_pane Res hret N l2 l3 M_queue M_fragment M_seen _ _ _ (lv_sub hl [2, 3] rfl) h hf
    · have hf := oi_f hf hc
      refine lv_iload_n hx hb (pc := 35) dX8_easyMany_35 rfl (lv_at hl 3 rfl) ?_
      obtain ⟨g_30, hf⟩ := og_some hf
      refine x_ifeq C (pc := 36) (tgt := 144) g_30 dX8_easyMany_36 rfl (fun hc => ?_) (fun hc => ?_)
      · have hf := oi_t hf hc
        exact w_mo_easyMany_144 C a M_edits M_typed M_readRows M_readColumns M_top M_bottom M_left M_right M_panes M_now M_pane Res hret N l2 l3 M_queue M_fragment M_seen _ _ _ (lv_sub hl [2, 3] rfl) h hf
      · have hf := oi_f hf hc
        refine lv_iload hx hb (pc := 39) dX8_easyMany_39 (lv_at hl 4 rfl) ?_
        refine x_bipush C (pc := 41) dX8_easyMany_41 (by decide) ?_
        obtain ⟨g_31, hf⟩ := og_some hf
        refine x_idiv C (pc := 43) g_31 ⟨by decide, by decide⟩ dX8_easyMany_43 ?_
        refine lv_aload_n hx hb (pc := 44) dX8_easyMany_44 rfl (lv_at hl 0 rfl) ?_
        refine x_get C h (pc := 45) xf_X8_125 0 rfl (v := iv M_top) rfl dX8_easyMany_45 ?_
        refine lv_aload_n hx hb (pc := 48) dX8_easyMany_48 rfl (lv_at hl 0 rfl) ?_
        refine x_get C h (pc := 49) xf_X8_119 0 rfl (v := iv M_bottom) rfl dX8_easyMany_49 ?_
        obtain ⟨q_32, hq_32, hf⟩ := ob_some hf
        refine x_callSi C h (pc := 52) hl (c_mo_in l D cI cJ cZ cO a (l4 / 7) M_top M_bottom N q_32 hq_32) xs_X8_in lk_X8_65 ⟨(Nat.le_of_ble_eq_true rfl), (Nat.le_of_ble_eq_true rfl)⟩ rfl [] [0, 1, 2, 3, 4, 5] (nw := 6) (wr := [((a 0), oM a M_edits M_typed M_readRows M_readColumns M_top M_bottom M_left M_right M_panes), ((a 1), aI cI 151 M_now), ((a 5), aI cI 49 M_queue), ((a 6), aI cI 49 M_pane), ((a 7), aI cI 49 M_fragment), ((a 9), aI cZ 49 M_seen)]) (as := [(a 0), (a 1), (a 5), (a 6), (a 7), (a 9)]) (ws' := [((a 0), oM a M_edits M_typed M_readRows M_readColumns M_top M_bottom M_left M_right M_panes), ((a 1), aI cI 151 M_now), ((a 5), aI cI 49 M_queue), ((a 6), aI cI 49 M_pane), ((a 7), aI cI 49 M_fragment), ((a 9), aI cZ 49 M_seen)]) rfl rfl rfl rfl rfl rfl rfl rfl rfl rfl (Nat.le_of_ble_eq_true rfl) dX8_easyMany_52 (fun H locs h => ?_)
        obtain ⟨g_33, hf⟩ := og_some hf
        obtain ⟨r_40, hrr_40, hf⟩ := ob_some hf
        have Jr_40 : ∀ (ls : Array Slot) (H : Heap) (locs : List Loc), lv_has ls 7 [(0, .ref (a 0)), (1, iv l1), (2, iv l2), (3, iv l3), (4, iv l4)] → XH D A H0 [((a 0), oM a M_edits M_typed M_readRows M_readColumns M_top M_bottom M_left M_right M_panes), ((a 1), aI cI 151 M_now), ((a 5), aI cI 49 M_queue), ((a 6), aI cI 49 M_pane), ((a 7), aI cI 49 M_fragment), ((a 9), aI cZ 49 M_seen)] H locs → W p l e rm_mo_easyMany s m args below meth c H locs 0 0 Q (F0 m 103 ls [iv r_40]) := by
          intro ls H locs hl h
          refine lv_istore hx hb (pc := 103) (lv' := [(5, iv r_40), (0, .ref (a 0)), (1, iv l1), (2, iv l2), (3, iv l3), (4, iv l4)]) dX8_easyMany_103 hl (Nat.le_of_ble_eq_true rfl) rfl (fun ls hl => ?_)
          refine lv_iload hx hb (pc := 105) dX8_easyMany_105 (lv_at hl 0 rfl) ?_
          obtain ⟨g_41, hf⟩ := og_some hf
          obtain ⟨r_47, hrr_47, hf⟩ := ob_some hf
          have Jr_47 : ∀ (ls : Array Slot) (H : Heap) (locs : List Loc), lv_has ls 7 [(0, .ref (a 0)), (1, iv l1), (2, iv r_47.1), (3, iv r_47.2.1), (4, iv r_47.2.2.1)] → XH D A H0 [((a 0), oM a M_edits M_typed M_readRows M_readColumns M_top M_bottom M_left M_right M_panes), ((a 1), aI cI 151 M_now), ((a 5), aI cI 49 r_47.2.2.2.1), ((a 6), aI cI 49 M_pane), ((a 7), aI cI 49 r_47.2.2.2.2.1), ((a 9), aI cZ 49 r_47.2.2.2.2.2)] H locs → W p l e rm_mo_easyMany s m args below meth c H locs 0 0 Q (F0 m 28 ls []) := by
            intro ls H locs hl h
            exact ih r_47.1 r_47.2.1 r_47.2.2.1 r_47.2.2.2.1 r_47.2.2.2.2.1 r_47.2.2.2.2.2 _ _ _ (lv_sub hl [0, 1, 2, 3, 4] rfl) h hf
          clear hf
          have hf := hrr_47
          refine x_ifeq C (pc := 107) (tgt := 138) g_41 dX8_easyMany_107 rfl (fun hc => ?_) (fun hc => ?_)
          · have hf := oi_t hf hc
            obtain ⟨l4_42, el4_42, hf⟩ := ol_some hf
            refine x_iinc C (pc := 138) (k := 5) (lw' := [(4, iv l4_42), (5, iv r_40), (0, .ref (a 0)), (1, iv l1), (2, iv l2), (3, iv l3)]) dX8_easyMany_138 hl rfl el4_42 (Nat.le_of_ble_eq_true rfl) rfl (fun ls hl => ?_)
            refine lv_goto hx hb (pc := 141) (tgt := 28) dX8_easyMany_141 rfl ?_
            have e9 := Option.some.inj hf
            subst e9
            exact Jr_47 _ _ _ (lv_sub hl [2, 3, 4, 5, 0] rfl) h
          · have hf := oi_f hf hc
            refine lv_aload_n hx hb (pc := 110) dX8_easyMany_110 rfl (lv_at hl 1 rfl) ?_
            refine lv_aload_n hx hb (pc := 111) dX8_easyMany_111 rfl (lv_at hl 1 rfl) ?_
            refine x_get C h (pc := 112) xf_X8_28 0 rfl (v := .ref (a 7)) rfl dX8_easyMany_112 ?_
            refine lv_iload hx hb (pc := 115) dX8_easyMany_115 (lv_at hl 5 rfl) ?_
            refine lv_iload_n hx hb (pc := 117) dX8_easyMany_117 rfl (lv_at hl 3 rfl) ?_
            obtain ⟨q_43, hq_43, hf⟩ := ob_some hf
            refine x_callVi C h (pc := 118) hl (c_mo_spread l D cI cJ cZ cO a (a 7) M_edits M_typed M_readRows M_readColumns M_top M_bottom M_left M_right M_panes M_now M_queue M_fragment l4 l2 N q_43 hq_43) xv_X8_spread lk_X8_134 ⟨(Nat.le_of_ble_eq_true rfl), (Nat.le_of_ble_eq_true rfl)⟩ rfl [0, 1, 2, 4] [3, 5] (nw := 6) (wr := [((a 6), aI cI 49 M_pane), ((a 9), aI cZ 49 M_seen)]) (as := [(a 0), (a 1), (a 5), (a 6), (a 7), (a 9)]) (ws' := [((a 0), oM a M_edits M_typed M_readRows M_readColumns M_top M_bottom M_left M_right M_panes), ((a 1), aI cI 151 M_now), ((a 5), aI cI 49 q_43.2.1), ((a 6), aI cI 49 M_pane), ((a 7), aI cI 49 q_43.2.2), ((a 9), aI cZ 49 M_seen)]) rfl rfl rfl rfl rfl rfl rfl rfl rfl 0 rfl rfl rfl rfl (Nat.le_of_ble_eq_true rfl) dX8_easyMany_118 (fun H locs h => ?_)
            refine lv_istore hx hb (pc := 121) (lv' := [(6, iv q_43.1), (5, iv r_40), (0, .ref (a 0)), (1, iv l1), (2, iv l2), (3, iv l3), (4, iv l4)]) dX8_easyMany_121 hl (Nat.le_of_ble_eq_true rfl) rfl (fun ls hl => ?_)
            refine lv_aload_n hx hb (pc := 123) dX8_easyMany_123 rfl (lv_at hl 2 rfl) ?_
            refine lv_aload_n hx hb (pc := 124) dX8_easyMany_124 rfl (lv_at hl 2 rfl) ?_
            refine x_get C h (pc := 125) xf_X8_28 0 rfl (v := .ref (a 7)) rfl dX8_easyMany_125 ?_
            refine lv_iload_n hx hb (pc := 128) dX8_easyMany_128 rfl (lv_at hl 4 rfl) ?_
            refine lv_iload hx hb (pc := 129) dX8_easyMany_129 (lv_at hl 0 rfl) ?_
            obtain ⟨q_44, hq_44, hf⟩ := ob_some hf
            refine x_callVi C h (pc := 131) hl (c_mo_isEasy l D cI cJ cZ cO a (a 7) M_edits M_typed M_readRows M_readColumns M_top M_bottom M_left M_right M_panes M_now q_43.2.1 M_seen q_43.2.2 l2 q_43.1 N q_44 hq_44) xv_X8_isEasy lk_X8_153 ⟨(Nat.le_of_ble_eq_true rfl), (Nat.le_of_ble_eq_true rfl)⟩ rfl [0, 1, 2, 5, 4] [3] (nw := 6) (wr := [((a 6), aI cI 49 M_pane)]) (as := [(a 0), (a 1), (a 5), (a 6), (a 7), (a 9)]) (ws' := [((a 0), oM a M_edits M_typed M_readRows M_readColumns M_top M_bottom M_left M_right M_panes), ((a 1), aI cI 151 M_now), ((a 5), aI cI 49 q_44.2.1), ((a 6), aI cI 49 M_pane), ((a 7), aI cI 49 q_43.2.2), ((a 9), aI cZ 49 q_44.2.2)]) rfl rfl rfl rfl rfl rfl rfl rfl rfl 0 rfl rfl rfl rfl (Nat.le_of_ble_eq_true rfl) dX8_easyMany_131 (fun H locs h => ?_)
            refine lv_istore_n hx hb (pc := 134) (lv' := [(3, iv q_44.1), (6, iv q_43.1), (5, iv r_40), (0, .ref (a 0)), (1, iv l1), (2, iv l2), (4, iv l4)]) dX8_easyMany_134 rfl hl (Nat.le_of_ble_eq_true rfl) rfl (fun ls hl => ?_)
            obtain ⟨l2_45, el2_45, hf⟩ := ol_some hf
            refine x_iinc C (pc := 135) (k := 5) (lw' := [(2, iv l2_45), (3, iv q_44.1), (6, iv q_43.1), (5, iv r_40), (0, .ref (a 0)), (1, iv l1), (4, iv l4)]) dX8_easyMany_135 hl rfl el2_45 (Nat.le_of_ble_eq_true rfl) rfl (fun ls hl => ?_)
            obtain ⟨l4_46, el4_46, hf⟩ := ol_some hf
            refine x_iinc C (pc := 138) (k := 6) (lw' := [(4, iv l4_46), (2, iv l2_45), (3, iv q_44.1), (6, iv q_43.1), (5, iv r_40), (0, .ref (a 0)), (1, iv l1)]) dX8_easyMany_138 hl rfl el4_46 (Nat.le_of_ble_eq_true rfl) rfl (fun ls hl => ?_)
            refine lv_goto hx hb (pc := 141) (tgt := 28) dX8_easyMany_141 rfl ?_
            have e9 := Option.some.inj hf
            subst e9
            exact Jr_47 _ _ _ (lv_sub hl [5, 6, 1, 2, 0] rfl) h
        clear hf
        have hf := hrr_40
        refine x_ifeq C (pc := 55) (tgt := 102) g_33 dX8_easyMany_55 rfl (fun hc => ?_) (fun hc => ?_)
        · have hf := oi_t hf hc
          refine x_iconst C (pc := 102) dX8_easyMany_102 ?_
          have e9 := Option.some.inj hf
          subst e9
          exact Jr_40 _ _ _ (lv_sub hl [0, 1, 2, 3, 4] rfl) h
        · have hf := oi_f hf hc
          refine lv_iload hx hb (pc := 58) dX8_easyMany_58 (lv_at hl 4 rfl) ?_
          refine x_bipush C (pc := 60) dX8_easyMany_60 (by decide) ?_
          refine x_irem C (pc := 62) g_31 ⟨by decide, by decide⟩ dX8_easyMany_62 ?_
          refine lv_aload_n hx hb (pc := 63) dX8_easyMany_63 rfl (lv_at hl 0 rfl) ?_
          refine x_get C h (pc := 64) xf_X8_122 0 rfl (v := iv M_left) rfl dX8_easyMany_64 ?_
          refine lv_aload_n hx hb (pc := 67) dX8_easyMany_67 rfl (lv_at hl 0 rfl) ?_
          refine x_get C h (pc := 68) xf_X8_116 0 rfl (v := iv M_right) rfl dX8_easyMany_68 ?_
          obtain ⟨q_34, hq_34, hf⟩ := ob_some hf
          refine x_callSi C h (pc := 71) hl (c_mo_in l D cI cJ cZ cO a (l4 % 7) M_left M_right N q_34 hq_34) xs_X8_in lk_X8_65 ⟨(Nat.le_of_ble_eq_true rfl), (Nat.le_of_ble_eq_true rfl)⟩ rfl [] [0, 1, 2, 3, 4, 5] (nw := 6) (wr := [((a 0), oM a M_edits M_typed M_readRows M_readColumns M_top M_bottom M_left M_right M_panes), ((a 1), aI cI 151 M_now), ((a 5), aI cI 49 M_queue), ((a 6), aI cI 49 M_pane), ((a 7), aI cI 49 M_fragment), ((a 9), aI cZ 49 M_seen)]) (as := [(a 0), (a 1), (a 5), (a 6), (a 7), (a 9)]) (ws' := [((a 0), oM a M_edits M_typed M_readRows M_readColumns M_top M_bottom M_left M_right M_panes), ((a 1), aI cI 151 M_now), ((a 5), aI cI 49 M_queue), ((a 6), aI cI 49 M_pane), ((a 7), aI cI 49 M_fragment), ((a 9), aI cZ 49 M_seen)]) rfl rfl rfl rfl rfl rfl rfl rfl rfl rfl (Nat.le_of_ble_eq_true rfl) dX8_easyMany_71 (fun H locs h => ?_)
          obtain ⟨g_35, hf⟩ := og_some hf
          refine x_ifeq C (pc := 74) (tgt := 102) g_35 dX8_easyMany_74 rfl (fun hc => ?_) (fun hc => ?_)
          · have hf := oi_t hf hc
            refine x_iconst C (pc := 102) dX8_easyMany_102 ?_
            have e9 := Option.some.inj hf
            subst e9
            exact Jr_40 _ _ _ (lv_sub hl [0, 1, 2, 3, 4] rfl) h
          · have hf := oi_f hf hc
            refine lv_aload_n hx hb (pc := 77) dX8_easyMany_77 rfl (lv_at hl 0 rfl) ?_
            refine x_get C h (pc := 78) xf_X8_25 0 rfl (v := .ref (a 6)) rfl dX8_easyMany_78 ?_
            refine lv_iload hx hb (pc := 81) dX8_easyMany_81 (lv_at hl 4 rfl) ?_
            obtain ⟨g_36, hf⟩ := og_some hf
            refine x_iald C h (pc := 83) 3 0 rfl rfl (Nat.le_of_ble_eq_true rfl) g_36 dX8_easyMany_83 ?_
            refine lv_iload_n hx hb (pc := 84) dX8_easyMany_84 rfl (lv_at hl 1 rfl) ?_
            obtain ⟨g_37, hf⟩ := og_some hf
            obtain ⟨g_38, hf⟩ := og_some hf
            refine x_icmpne C (pc := 85) (tgt := 102) g_37 g_38 dX8_easyMany_85 rfl (fun hc => ?_) (fun hc => ?_)
            · have hf := oi_f hf hc
              refine x_iconst C (pc := 102) dX8_easyMany_102 ?_
              have e9 := Option.some.inj hf
              subst e9
              exact Jr_40 _ _ _ (lv_sub hl [0, 1, 2, 3, 4] rfl) h
            · have hf := oi_t hf hc
              refine lv_aload_n hx hb (pc := 88) dX8_easyMany_88 rfl (lv_at hl 0 rfl) ?_
              refine x_get C h (pc := 89) xf_X8_28 0 rfl (v := .ref (a 7)) rfl dX8_easyMany_89 ?_
              refine lv_iload hx hb (pc := 92) dX8_easyMany_92 (lv_at hl 4 rfl) ?_
              refine x_iald C h (pc := 94) 4 0 rfl rfl (Nat.le_of_ble_eq_true rfl) g_36 dX8_easyMany_94 ?_
              obtain ⟨g_39, hf⟩ := og_some hf
              refine x_ifge C (pc := 95) (tgt := 102) g_39 dX8_easyMany_95 rfl (fun hc => ?_) (fun hc => ?_)
              · have hf := oi_t hf hc
                refine x_iconst C (pc := 102) dX8_easyMany_102 ?_
                have e9 := Option.some.inj hf
                subst e9
                exact Jr_40 _ _ _ (lv_sub hl [0, 1, 2, 3, 4] rfl) h
              · have hf := oi_f hf hc
                refine x_iconst C (pc := 98) dX8_easyMany_98 ?_
                refine lv_goto hx hb (pc := 99) (tgt := 103) dX8_easyMany_99 rfl ?_
                have e9 := Option.some.inj hf
                subst e9
                exact Jr_40 _ _ _ (lv_sub hl [0, 1, 2, 3, 4] rfl) h
set_option maxHeartbeats 4000000 in
set_option maxRecDepth 100000 in
theorem w_mo_easyMany_2 {p : Program} {l : Launch} {e : Env} {s : State} {m : MethodId} {args : Array Value} {below : List Frame} {meth : Method} {c : Code} {Q : State → Prop} {D : va_G} {cI cJ cZ cO : ClassId} {A : Nat → Prop} {H0 : Heap} {w0 : Cond} (C : XC p s m args c cX8_easyMany 7 RX8 w0 D (xT cI cJ cZ cO)) (a : Nat → Nat) (M_edits : Int) (M_typed : Int) (M_readRows : Int) (M_readColumns : Int) (M_top : Int) (M_bottom : Int) (M_left : Int) (M_right : Int) (M_panes : Int) (M_now : Int → Int) (M_pane : Int → Int) (Res : Int × (Int → Int) × (Int → Int) × (Int → Int)) (hret : XRI p l e rm_mo_easyMany s m args below meth c cX8_easyMany D A H0 Q Res.1 [((a 0), oM a M_edits M_typed M_readRows M_readColumns M_top M_bottom M_left M_right M_panes), ((a 1), aI cI 151 M_now), ((a 5), aI cI 49 Res.2.1), ((a 6), aI cI 49 M_pane), ((a 7), aI cI 49 Res.2.2.1), ((a 9), aI cZ 49 Res.2.2.2)]) (N : Nat) (l1 : Int) (M_queue : Int → Int) (M_seen : Int → Int) : ∀ (n : Nat) (l2 : Int) (M_fragment : Int → Int) (ls : Array Slot) (H : Heap) (locs : List Loc), lv_has ls 7 [(0, .ref (a 0)), (1, iv l1), (2, iv l2)] → XH D A H0 [((a 0), oM a M_edits M_typed M_readRows M_readColumns M_top M_bottom M_left M_right M_panes), ((a 1), aI cI 151 M_now), ((a 5), aI cI 49 M_queue), ((a 6), aI cI 49 M_pane), ((a 7), aI cI 49 M_fragment), ((a 9), aI cZ 49 M_seen)] H locs → f_mo_easyMany_2 N l1 M_queue M_seen M_top M_bottom M_left M_right M_now M_pane n l2 M_fragment = some Res → W p l e rm_mo_easyMany s m args below meth c H locs 0 0 Q (F0 m 2 ls []) := by
  have hx := C.1.1
  have hb := C.1.2.1
  intro n
  induction n with
  | zero => intro l2 M_fragment ls H locs hl h hf; cases hf
  | succ n ih =>
    intro l2 M_fragment ls H locs hl h hf
    rw [f_mo_easyMany_2.eq_2] at hf
    refine lv_iload_n hx hb (pc := 2) dX8_easyMany_2 rfl (lv_at hl 2 rfl) ?_
    refine x_bipush C (pc := 3) dX8_easyMany_3 (by decide) ?_
    obtain ⟨g_25, hf⟩ := og_some hf
    refine x_icmpge C (pc := 5) (tgt := 21) g_25 ⟨by decide, by decide⟩ dX8_easyMany_5 rfl (fun hc => ?_) (fun hc => ?_)
    · have hf := oi_t hf hc
      refine x_iconst C (pc := 21) dX8_easyMany_21 ?_
      refine lv_istore_n hx hb (pc := 22) (lv' := [(2, iv 0), (0, .ref (a 0)), (1, iv l1)]) dX8_easyMany_22 rfl hl (Nat.le_of_ble_eq_true rfl) rfl (fun ls hl => ?_)
      refine x_iconst C (pc := 23) dX8_easyMany_23 ?_
      refine lv_istore_n hx hb (pc := 24) (lv' := [(3, iv 1), (2, iv 0), (0, .ref (a 0)), (1, iv l1)]) dX8_easyMany_24 rfl hl (Nat.le_of_ble_eq_true rfl) rfl (fun ls hl => ?_)
      refine x_iconst C (pc := 25) dX8_easyMany_25 ?_
      refine lv_istore hx hb (pc := 26) (lv' := [(4, iv 0), (3, iv 1), (2, iv 0), (0, .ref (a 0)), (1, iv l1)]) dX8_easyMany_26 hl (Nat.le_of_ble_eq_true rfl) rfl (fun ls hl => ?_)
      exact w_mo_easyMany_28 C a M_edits M_typed M_readRows M_readColumns M_top M_bottom M_left M_right M_panes M_now M_pane Res hret N l1 N 0 1 0 M_queue M_fragment M_seen _ _ _ (lv_sub hl [3, 4, 2, 1, 0] rfl) h hf
    · have hf := oi_f hf hc
      refine lv_aload_n hx hb (pc := 8) dX8_easyMany_8 rfl (lv_at hl 0 rfl) ?_
      refine x_get C h (pc := 9) xf_X8_28 0 rfl (v := .ref (a 7)) rfl dX8_easyMany_9 ?_
      refine lv_iload_n hx hb (pc := 12) dX8_easyMany_12 rfl (lv_at hl 2 rfl) ?_
      refine x_iconst C (pc := 13) dX8_easyMany_13 ?_
      obtain ⟨g_26, hf⟩ := og_some hf
      obtain ⟨M_fragment_27, eM_fragment_27, hf⟩ := ol_some hf
      refine x_iast C h (pc := 14) (ws' := [((a 0), oM a M_edits M_typed M_readRows M_readColumns M_top M_bottom M_left M_right M_panes), ((a 1), aI cI 151 M_now), ((a 5), aI cI 49 M_queue), ((a 6), aI cI 49 M_pane), ((a 7), aI cI 49 M_fragment_27), ((a 9), aI cZ 49 M_seen)]) 4 0 rfl rfl (Nat.le_of_ble_eq_true rfl) g_26 eM_fragment_27 rfl dX8_easyMany_14 (fun H locs h => ?_)
      obtain ⟨l2_28, el2_28, hf⟩ := ol_some hf
      refine x_iinc C (pc := 15) (k := 2) (lw' := [(2, iv l2_28), (0, .ref (a 0)), (1, iv l1)]) dX8_easyMany_15 hl rfl el2_28 (Nat.le_of_ble_eq_true rfl) rfl (fun ls hl => ?_)
      refine lv_goto hx hb (pc := 18) (tgt := 2) dX8_easyMany_18 rfl ?_
      exact ih l2_28 M_fragment_27 _ _ _ (lv_sub hl [1, 2, 0] rfl) h hf
set_option maxHeartbeats 4000000 in
set_option maxRecDepth 100000 in
theorem c_mo_easyMany (l : Launch) (D : va_G) (cI cJ cZ cO : ClassId) (a : Nat → Nat) (M_edits : Int) (M_typed : Int) (M_readRows : Int) (M_readColumns : Int) (M_top : Int) (M_bottom : Int) (M_left : Int) (M_right : Int) (M_panes : Int) (M_now : Int → Int) (M_queue : Int → Int) (M_pane : Int → Int) (M_fragment : Int → Int) (M_seen : Int → Int) (l1 : Int) (N : Nat) (Res : Int × (Int → Int) × (Int → Int) × (Int → Int)) (hf : f_mo_easyMany N l1 M_top M_bottom M_left M_right M_now M_queue M_pane M_fragment M_seen = some Res) : CoI l D (xT cI cJ cZ cO) yX8_easyMany cX8_easyMany 7 (some .int) rm_mo_easyMany [.ref (a 0), iv l1] [((a 0), oM a M_edits M_typed M_readRows M_readColumns M_top M_bottom M_left M_right M_panes), ((a 1), aI cI 151 M_now), ((a 5), aI cI 49 M_queue), ((a 6), aI cI 49 M_pane), ((a 7), aI cI 49 M_fragment), ((a 9), aI cZ 49 M_seen)] Res.1 [((a 0), oM a M_edits M_typed M_readRows M_readColumns M_top M_bottom M_left M_right M_panes), ((a 1), aI cI 151 M_now), ((a 5), aI cI 49 Res.2.1), ((a 6), aI cI 49 M_pane), ((a 7), aI cI 49 Res.2.2.1), ((a 9), aI cZ 49 Res.2.2.2)] := by
  refine co_i (by decide) ⟨rfl, rfl⟩ (Nat.le_of_ble_eq_true rfl) ?_
  intro p e s m args below meth c A Q ls C hret hl h
  have hx := C.1.1
  have hb := C.1.2.1
  have hl : lv_has ls 7 [(0, .ref (a 0)), (1, iv l1)] := hl
  unfold f_mo_easyMany at hf
  refine x_iconst C (pc := 0) dX8_easyMany_0 ?_
  refine lv_istore_n hx hb (pc := 1) (lv' := [(2, iv 0), (0, .ref (a 0)), (1, iv l1)]) dX8_easyMany_1 rfl hl (Nat.le_of_ble_eq_true rfl) rfl (fun ls hl => ?_)
  exact w_mo_easyMany_2 C a M_edits M_typed M_readRows M_readColumns M_top M_bottom M_left M_right M_panes M_now M_pane Res hret N l1 M_queue M_seen N 0 M_fragment _ _ _ (lv_sub hl [1, 2, 0] rfl) h hf
abbrev rm_mo_apartBelow : Room := { frames := 2, cells := 0, slots := 0, locals := 44 }
set_option maxHeartbeats 4000000 in
set_option maxRecDepth 100000 in
theorem w_mo_apartBelow_6 {p : Program} {l : Launch} {e : Env} {s : State} {m : MethodId} {args : Array Value} {below : List Frame} {meth : Method} {c : Code} {Q : State → Prop} {D : va_G} {cI cJ cZ cO : ClassId} {A : Nat → Prop} {H0 : Heap} {w0 : Cond} (C : XC p s m args c cX8_apartBelow 7 RX8 w0 D (xT cI cJ cZ cO)) (a : Nat → Nat) (M_edits : Int) (M_typed : Int) (M_readRows : Int) (M_readColumns : Int) (M_top : Int) (M_bottom : Int) (M_left : Int) (M_right : Int) (M_panes : Int) (M_now : Int → Int) (M_pane : Int → Int) (Res : Int) (hret : XRI p l e rm_mo_apartBelow s m args below meth c cX8_apartBelow D A H0 Q Res [((a 0), oM a M_edits M_typed M_readRows M_readColumns M_top M_bottom M_left M_right M_panes), ((a 1), aI cI 151 M_now), ((a 6), aI cI 49 M_pane)]) (N : Nat) (l1 : Int) (l2 : Int) (l4 : Int) : ∀ (n : Nat) (l5 : Int) (l6 : Int) (ls : Array Slot) (H : Heap) (locs : List Loc), lv_has ls 7 [(0, .ref (a 0)), (1, iv l1), (2, iv l2), (4, iv l4), (5, iv l5), (6, iv l6)] → XH D A H0 [((a 0), oM a M_edits M_typed M_readRows M_readColumns M_top M_bottom M_left M_right M_panes), ((a 1), aI cI 151 M_now), ((a 6), aI cI 49 M_pane)] H locs → f_mo_apartBelow_6 N l1 l2 l4 M_now M_pane n l5 l6 = some Res → W p l e rm_mo_apartBelow s m args below meth c H locs 0 0 Q (F0 m 6 ls []) := by
  have hx := C.1.1
  have hb := C.1.2.1
  intro n
  induction n with
  | zero => intro l5 l6 ls H locs hl h hf; cases hf
  | succ n ih =>
    intro l5 l6 ls H locs hl h hf
    rw [f_mo_apartBelow_6.eq_2] at hf
    refine lv_iload hx hb (pc := 6) dX8_apartBelow_6 (lv_at hl 5 rfl) ?_
    refine lv_iload hx hb (pc := 8) dX8_apartBelow_8 (lv_at hl 3 rfl) ?_
    obtain ⟨g_11, hf⟩ := og_some hf
    obtain ⟨g_12, hf⟩ := og_some hf
    refine x_icmpgt C (pc := 10) (tgt := 60) g_11 g_12 dX8_apartBelow_10 rfl (fun hc => ?_) (fun hc => ?_)
    · have hf := oi_t hf hc
      refine lv_iload hx hb (pc := 60) dX8_apartBelow_60 (lv_at hl 4 rfl) ?_
      have e9 := Option.some.inj hf
      subst e9
      exact hret _ _ _ _ dX8_apartBelow_62 h
    · have hf := oi_f hf hc
      refine lv_iload hx hb (pc := 13) dX8_apartBelow_13 (lv_at hl 4 rfl) ?_
      refine lv_aload_n hx hb (pc := 15) dX8_apartBelow_15 rfl (lv_at hl 0 rfl) ?_
      refine x_get C h (pc := 16) xf_X8_25 0 rfl (v := .ref (a 6)) rfl dX8_apartBelow_16 ?_
      refine x_bipush C (pc := 19) dX8_apartBelow_19 (by decide) ?_
      refine lv_iload_n hx hb (pc := 21) dX8_apartBelow_21 rfl (lv_at hl 2 rfl) ?_
      refine x_imul C (pc := 22) dX8_apartBelow_22 ?_
      refine lv_iload hx hb (pc := 23) dX8_apartBelow_23 (lv_at hl 5 rfl) ?_
      refine x_iadd C (pc := 25) dX8_apartBelow_25 ?_
      obtain ⟨g_13, hf⟩ := og_some hf
      refine x_iald C h (pc := 26) 2 0 rfl rfl (Nat.le_of_ble_eq_true rfl) g_13 dX8_apartBelow_26 ?_
      refine lv_iload_n hx hb (pc := 27) dX8_apartBelow_27 rfl (lv_at hl 1 rfl) ?_
      obtain ⟨g_14, hf⟩ := og_some hf
      obtain ⟨g_15, hf⟩ := og_some hf
      obtain ⟨r_18, hrr_18, hf⟩ := ob_some hf
      have Jr_18 : ∀ (ls : Array Slot) (H : Heap) (locs : List Loc), lv_has ls 7 [(0, .ref (a 0)), (1, iv l1), (2, iv l2), (4, iv l4), (6, iv l6)] → XH D A H0 [((a 0), oM a M_edits M_typed M_readRows M_readColumns M_top M_bottom M_left M_right M_panes), ((a 1), aI cI 151 M_now), ((a 6), aI cI 49 M_pane)] H locs → W p l e rm_mo_apartBelow s m args below meth c H locs 0 0 Q (F0 m 51 ls [iv r_18, iv l5]) := by
        intro ls H locs hl h
        refine x_iadd C (pc := 51) dX8_apartBelow_51 ?_
        obtain ⟨l5_19, el5_19, hf⟩ := ol_some hf
        refine x_topi el5_19 ?_
        refine lv_istore hx hb (pc := 52) (lv' := [(5, iv l5_19), (0, .ref (a 0)), (1, iv l1), (2, iv l2), (4, iv l4), (6, iv l6)]) dX8_apartBelow_52 hl (Nat.le_of_ble_eq_true rfl) rfl (fun ls hl => ?_)
        obtain ⟨l6_20, el6_20, hf⟩ := ol_some hf
        refine x_iinc C (pc := 54) (k := 5) (lw' := [(6, iv l6_20), (5, iv l5_19), (0, .ref (a 0)), (1, iv l1), (2, iv l2), (4, iv l4)]) dX8_apartBelow_54 hl rfl el6_20 (Nat.le_of_ble_eq_true rfl) rfl (fun ls hl => ?_)
        refine lv_goto hx hb (pc := 57) (tgt := 6) dX8_apartBelow_57 rfl ?_
        exact ih l5_19 l6_20 _ _ _ (lv_sub hl [2, 3, 4, 5, 1, 0] rfl) h hf
      clear hf
      have hf := hrr_18
      refine x_icmpne C (pc := 28) (tgt := 50) g_14 g_15 dX8_apartBelow_28 rfl (fun hc => ?_) (fun hc => ?_)
      · have hf := oi_f hf hc
        refine x_iconst C (pc := 50) dX8_apartBelow_50 ?_
        have e9 := Option.some.inj hf
        subst e9
        exact Jr_18 _ _ _ (lv_sub hl [0, 1, 2, 3, 5] rfl) h
      · have hf := oi_t hf hc
        refine lv_aload_n hx hb (pc := 31) dX8_apartBelow_31 rfl (lv_at hl 0 rfl) ?_
        refine x_bipush C (pc := 32) dX8_apartBelow_32 (by decide) ?_
        refine lv_iload_n hx hb (pc := 34) dX8_apartBelow_34 rfl (lv_at hl 2 rfl) ?_
        refine x_imul C (pc := 35) dX8_apartBelow_35 ?_
        refine lv_iload hx hb (pc := 36) dX8_apartBelow_36 (lv_at hl 5 rfl) ?_
        refine x_iadd C (pc := 38) dX8_apartBelow_38 ?_
        refine x_iconst C (pc := 39) dX8_apartBelow_39 ?_
        obtain ⟨q_16, hq_16, hf⟩ := ob_some hf
        refine x_callVi C h (pc := 40) hl (c_mo_joins l D cI cJ cZ cO a M_edits M_typed M_readRows M_readColumns M_top M_bottom M_left M_right M_panes M_now ((7 * l2) + l6) 1 N q_16 hq_16) xv_X8_joins lk_X8_128 ⟨(Nat.le_of_ble_eq_true rfl), (Nat.le_of_ble_eq_true rfl)⟩ rfl [0, 1] [2] (nw := 3) (wr := [((a 6), aI cI 49 M_pane)]) (as := [(a 0), (a 1), (a 6)]) (ws' := [((a 0), oM a M_edits M_typed M_readRows M_readColumns M_top M_bottom M_left M_right M_panes), ((a 1), aI cI 151 M_now), ((a 6), aI cI 49 M_pane)]) rfl rfl rfl rfl rfl rfl rfl rfl rfl 0 rfl rfl rfl rfl (Nat.le_of_ble_eq_true rfl) dX8_apartBelow_40 (fun H locs h => ?_)
        obtain ⟨g_17, hf⟩ := og_some hf
        refine x_ifeq C (pc := 43) (tgt := 50) g_17 dX8_apartBelow_43 rfl (fun hc => ?_) (fun hc => ?_)
        · have hf := oi_t hf hc
          refine x_iconst C (pc := 50) dX8_apartBelow_50 ?_
          have e9 := Option.some.inj hf
          subst e9
          exact Jr_18 _ _ _ (lv_sub hl [0, 1, 2, 3, 5] rfl) h
        · have hf := oi_f hf hc
          refine x_iconst C (pc := 46) dX8_apartBelow_46 ?_
          refine lv_goto hx hb (pc := 47) (tgt := 51) dX8_apartBelow_47 rfl ?_
          have e9 := Option.some.inj hf
          subst e9
          exact Jr_18 _ _ _ (lv_sub hl [0, 1, 2, 3, 5] rfl) h
set_option maxHeartbeats 4000000 in
set_option maxRecDepth 100000 in
theorem c_mo_apartBelow (l : Launch) (D : va_G) (cI cJ cZ cO : ClassId) (a : Nat → Nat) (M_edits : Int) (M_typed : Int) (M_readRows : Int) (M_readColumns : Int) (M_top : Int) (M_bottom : Int) (M_left : Int) (M_right : Int) (M_panes : Int) (M_now : Int → Int) (M_pane : Int → Int) (l1 : Int) (l2 : Int) (l3 : Int) (l4 : Int) (N : Nat) (Res : Int) (hf : f_mo_apartBelow N l1 l2 l3 l4 M_now M_pane = some Res) : CoI l D (xT cI cJ cZ cO) yX8_apartBelow cX8_apartBelow 7 (some .int) rm_mo_apartBelow [.ref (a 0), iv l1, iv l2, iv l3, iv l4] [((a 0), oM a M_edits M_typed M_readRows M_readColumns M_top M_bottom M_left M_right M_panes), ((a 1), aI cI 151 M_now), ((a 6), aI cI 49 M_pane)] Res [((a 0), oM a M_edits M_typed M_readRows M_readColumns M_top M_bottom M_left M_right M_panes), ((a 1), aI cI 151 M_now), ((a 6), aI cI 49 M_pane)] := by
  refine co_i (by decide) ⟨rfl, rfl⟩ (Nat.le_of_ble_eq_true rfl) ?_
  intro p e s m args below meth c A Q ls C hret hl h
  have hx := C.1.1
  have hb := C.1.2.1
  have hl : lv_has ls 7 [(0, .ref (a 0)), (1, iv l1), (2, iv l2), (3, iv l3), (4, iv l4)] := hl
  unfold f_mo_apartBelow at hf
  refine x_iconst C (pc := 0) dX8_apartBelow_0 ?_
  refine lv_istore hx hb (pc := 1) (lv' := [(5, iv 0), (0, .ref (a 0)), (1, iv l1), (2, iv l2), (3, iv l3), (4, iv l4)]) dX8_apartBelow_1 hl (Nat.le_of_ble_eq_true rfl) rfl (fun ls hl => ?_)
  refine lv_iload_n hx hb (pc := 3) dX8_apartBelow_3 rfl (lv_at hl 4 rfl) ?_
  refine lv_istore hx hb (pc := 4) (lv' := [(6, iv l3), (5, iv 0), (0, .ref (a 0)), (1, iv l1), (2, iv l2), (3, iv l3), (4, iv l4)]) dX8_apartBelow_4 hl (Nat.le_of_ble_eq_true rfl) rfl (fun ls hl => ?_)
  exact w_mo_apartBelow_6 C a M_edits M_typed M_readRows M_readColumns M_top M_bottom M_left M_right M_panes M_now M_pane Res hret N l1 l2 l4 N 0 l3 _ _ _ (lv_sub hl [2, 3, 4, 6, 1, 0] rfl) h hf
abbrev rm_mo_apartRight : Room := { frames := 2, cells := 0, slots := 0, locals := 44 }
set_option maxHeartbeats 4000000 in
set_option maxRecDepth 100000 in
theorem w_mo_apartRight_6 {p : Program} {l : Launch} {e : Env} {s : State} {m : MethodId} {args : Array Value} {below : List Frame} {meth : Method} {c : Code} {Q : State → Prop} {D : va_G} {cI cJ cZ cO : ClassId} {A : Nat → Prop} {H0 : Heap} {w0 : Cond} (C : XC p s m args c cX8_apartRight 7 RX8 w0 D (xT cI cJ cZ cO)) (a : Nat → Nat) (M_edits : Int) (M_typed : Int) (M_readRows : Int) (M_readColumns : Int) (M_top : Int) (M_bottom : Int) (M_left : Int) (M_right : Int) (M_panes : Int) (M_now : Int → Int) (M_pane : Int → Int) (Res : Int) (hret : XRI p l e rm_mo_apartRight s m args below meth c cX8_apartRight D A H0 Q Res [((a 0), oM a M_edits M_typed M_readRows M_readColumns M_top M_bottom M_left M_right M_panes), ((a 1), aI cI 151 M_now), ((a 6), aI cI 49 M_pane)]) (N : Nat) (l1 : Int) (l2 : Int) (l4 : Int) : ∀ (n : Nat) (l5 : Int) (l6 : Int) (ls : Array Slot) (H : Heap) (locs : List Loc), lv_has ls 7 [(0, .ref (a 0)), (1, iv l1), (2, iv l2), (4, iv l4), (5, iv l5), (6, iv l6)] → XH D A H0 [((a 0), oM a M_edits M_typed M_readRows M_readColumns M_top M_bottom M_left M_right M_panes), ((a 1), aI cI 151 M_now), ((a 6), aI cI 49 M_pane)] H locs → f_mo_apartRight_6 N l1 l2 l4 M_now M_pane n l5 l6 = some Res → W p l e rm_mo_apartRight s m args below meth c H locs 0 0 Q (F0 m 6 ls []) := by
  have hx := C.1.1
  have hb := C.1.2.1
  intro n
  induction n with
  | zero => intro l5 l6 ls H locs hl h hf; cases hf
  | succ n ih =>
    intro l5 l6 ls H locs hl h hf
    rw [f_mo_apartRight_6.eq_2] at hf
    refine lv_iload hx hb (pc := 6) dX8_apartRight_6 (lv_at hl 5 rfl) ?_
    refine lv_iload hx hb (pc := 8) dX8_apartRight_8 (lv_at hl 3 rfl) ?_
    obtain ⟨g_11, hf⟩ := og_some hf
    obtain ⟨g_12, hf⟩ := og_some hf
    refine x_icmpgt C (pc := 10) (tgt := 60) g_11 g_12 dX8_apartRight_10 rfl (fun hc => ?_) (fun hc => ?_)
    · have hf := oi_t hf hc
      refine lv_iload hx hb (pc := 60) dX8_apartRight_60 (lv_at hl 4 rfl) ?_
      have e9 := Option.some.inj hf
      subst e9
      exact hret _ _ _ _ dX8_apartRight_62 h
    · have hf := oi_f hf hc
      refine lv_iload hx hb (pc := 13) dX8_apartRight_13 (lv_at hl 4 rfl) ?_
      refine lv_aload_n hx hb (pc := 15) dX8_apartRight_15 rfl (lv_at hl 0 rfl) ?_
      refine x_get C h (pc := 16) xf_X8_25 0 rfl (v := .ref (a 6)) rfl dX8_apartRight_16 ?_
      refine x_bipush C (pc := 19) dX8_apartRight_19 (by decide) ?_
      refine lv_iload hx hb (pc := 21) dX8_apartRight_21 (lv_at hl 5 rfl) ?_
      refine x_imul C (pc := 23) dX8_apartRight_23 ?_
      refine lv_iload_n hx hb (pc := 24) dX8_apartRight_24 rfl (lv_at hl 2 rfl) ?_
      refine x_iadd C (pc := 25) dX8_apartRight_25 ?_
      obtain ⟨g_13, hf⟩ := og_some hf
      refine x_iald C h (pc := 26) 2 0 rfl rfl (Nat.le_of_ble_eq_true rfl) g_13 dX8_apartRight_26 ?_
      refine lv_iload_n hx hb (pc := 27) dX8_apartRight_27 rfl (lv_at hl 1 rfl) ?_
      obtain ⟨g_14, hf⟩ := og_some hf
      obtain ⟨g_15, hf⟩ := og_some hf
      obtain ⟨r_18, hrr_18, hf⟩ := ob_some hf
      have Jr_18 : ∀ (ls : Array Slot) (H : Heap) (locs : List Loc), lv_has ls 7 [(0, .ref (a 0)), (1, iv l1), (2, iv l2), (4, iv l4), (6, iv l6)] → XH D A H0 [((a 0), oM a M_edits M_typed M_readRows M_readColumns M_top M_bottom M_left M_right M_panes), ((a 1), aI cI 151 M_now), ((a 6), aI cI 49 M_pane)] H locs → W p l e rm_mo_apartRight s m args below meth c H locs 0 0 Q (F0 m 51 ls [iv r_18, iv l5]) := by
        intro ls H locs hl h
        refine x_iadd C (pc := 51) dX8_apartRight_51 ?_
        obtain ⟨l5_19, el5_19, hf⟩ := ol_some hf
        refine x_topi el5_19 ?_
        refine lv_istore hx hb (pc := 52) (lv' := [(5, iv l5_19), (0, .ref (a 0)), (1, iv l1), (2, iv l2), (4, iv l4), (6, iv l6)]) dX8_apartRight_52 hl (Nat.le_of_ble_eq_true rfl) rfl (fun ls hl => ?_)
        obtain ⟨l6_20, el6_20, hf⟩ := ol_some hf
        refine x_iinc C (pc := 54) (k := 5) (lw' := [(6, iv l6_20), (5, iv l5_19), (0, .ref (a 0)), (1, iv l1), (2, iv l2), (4, iv l4)]) dX8_apartRight_54 hl rfl el6_20 (Nat.le_of_ble_eq_true rfl) rfl (fun ls hl => ?_)
        refine lv_goto hx hb (pc := 57) (tgt := 6) dX8_apartRight_57 rfl ?_
        exact ih l5_19 l6_20 _ _ _ (lv_sub hl [2, 3, 4, 5, 1, 0] rfl) h hf
      clear hf
      have hf := hrr_18
      refine x_icmpne C (pc := 28) (tgt := 50) g_14 g_15 dX8_apartRight_28 rfl (fun hc => ?_) (fun hc => ?_)
      · have hf := oi_f hf hc
        refine x_iconst C (pc := 50) dX8_apartRight_50 ?_
        have e9 := Option.some.inj hf
        subst e9
        exact Jr_18 _ _ _ (lv_sub hl [0, 1, 2, 3, 5] rfl) h
      · have hf := oi_t hf hc
        refine lv_aload_n hx hb (pc := 31) dX8_apartRight_31 rfl (lv_at hl 0 rfl) ?_
        refine x_bipush C (pc := 32) dX8_apartRight_32 (by decide) ?_
        refine lv_iload hx hb (pc := 34) dX8_apartRight_34 (lv_at hl 5 rfl) ?_
        refine x_imul C (pc := 36) dX8_apartRight_36 ?_
        refine lv_iload_n hx hb (pc := 37) dX8_apartRight_37 rfl (lv_at hl 2 rfl) ?_
        refine x_iadd C (pc := 38) dX8_apartRight_38 ?_
        refine x_iconst C (pc := 39) dX8_apartRight_39 ?_
        obtain ⟨q_16, hq_16, hf⟩ := ob_some hf
        refine x_callVi C h (pc := 40) hl (c_mo_joins l D cI cJ cZ cO a M_edits M_typed M_readRows M_readColumns M_top M_bottom M_left M_right M_panes M_now ((7 * l6) + l2) 0 N q_16 hq_16) xv_X8_joins lk_X8_128 ⟨(Nat.le_of_ble_eq_true rfl), (Nat.le_of_ble_eq_true rfl)⟩ rfl [0, 1] [2] (nw := 3) (wr := [((a 6), aI cI 49 M_pane)]) (as := [(a 0), (a 1), (a 6)]) (ws' := [((a 0), oM a M_edits M_typed M_readRows M_readColumns M_top M_bottom M_left M_right M_panes), ((a 1), aI cI 151 M_now), ((a 6), aI cI 49 M_pane)]) rfl rfl rfl rfl rfl rfl rfl rfl rfl 0 rfl rfl rfl rfl (Nat.le_of_ble_eq_true rfl) dX8_apartRight_40 (fun H locs h => ?_)
        obtain ⟨g_17, hf⟩ := og_some hf
        refine x_ifeq C (pc := 43) (tgt := 50) g_17 dX8_apartRight_43 rfl (fun hc => ?_) (fun hc => ?_)
        · have hf := oi_t hf hc
          refine x_iconst C (pc := 50) dX8_apartRight_50 ?_
          have e9 := Option.some.inj hf
          subst e9
          exact Jr_18 _ _ _ (lv_sub hl [0, 1, 2, 3, 5] rfl) h
        · have hf := oi_f hf hc
          refine x_iconst C (pc := 46) dX8_apartRight_46 ?_
          refine lv_goto hx hb (pc := 47) (tgt := 51) dX8_apartRight_47 rfl ?_
          have e9 := Option.some.inj hf
          subst e9
          exact Jr_18 _ _ _ (lv_sub hl [0, 1, 2, 3, 5] rfl) h
set_option maxHeartbeats 4000000 in
set_option maxRecDepth 100000 in
theorem c_mo_apartRight (l : Launch) (D : va_G) (cI cJ cZ cO : ClassId) (a : Nat → Nat) (M_edits : Int) (M_typed : Int) (M_readRows : Int) (M_readColumns : Int) (M_top : Int) (M_bottom : Int) (M_left : Int) (M_right : Int) (M_panes : Int) (M_now : Int → Int) (M_pane : Int → Int) (l1 : Int) (l2 : Int) (l3 : Int) (l4 : Int) (N : Nat) (Res : Int) (hf : f_mo_apartRight N l1 l2 l3 l4 M_now M_pane = some Res) : CoI l D (xT cI cJ cZ cO) yX8_apartRight cX8_apartRight 7 (some .int) rm_mo_apartRight [.ref (a 0), iv l1, iv l2, iv l3, iv l4] [((a 0), oM a M_edits M_typed M_readRows M_readColumns M_top M_bottom M_left M_right M_panes), ((a 1), aI cI 151 M_now), ((a 6), aI cI 49 M_pane)] Res [((a 0), oM a M_edits M_typed M_readRows M_readColumns M_top M_bottom M_left M_right M_panes), ((a 1), aI cI 151 M_now), ((a 6), aI cI 49 M_pane)] := by
  refine co_i (by decide) ⟨rfl, rfl⟩ (Nat.le_of_ble_eq_true rfl) ?_
  intro p e s m args below meth c A Q ls C hret hl h
  have hx := C.1.1
  have hb := C.1.2.1
  have hl : lv_has ls 7 [(0, .ref (a 0)), (1, iv l1), (2, iv l2), (3, iv l3), (4, iv l4)] := hl
  unfold f_mo_apartRight at hf
  refine x_iconst C (pc := 0) dX8_apartRight_0 ?_
  refine lv_istore hx hb (pc := 1) (lv' := [(5, iv 0), (0, .ref (a 0)), (1, iv l1), (2, iv l2), (3, iv l3), (4, iv l4)]) dX8_apartRight_1 hl (Nat.le_of_ble_eq_true rfl) rfl (fun ls hl => ?_)
  refine lv_iload_n hx hb (pc := 3) dX8_apartRight_3 rfl (lv_at hl 4 rfl) ?_
  refine lv_istore hx hb (pc := 4) (lv' := [(6, iv l3), (5, iv 0), (0, .ref (a 0)), (1, iv l1), (2, iv l2), (3, iv l3), (4, iv l4)]) dX8_apartRight_4 hl (Nat.le_of_ble_eq_true rfl) rfl (fun ls hl => ?_)
  exact w_mo_apartRight_6 C a M_edits M_typed M_readRows M_readColumns M_top M_bottom M_left M_right M_panes M_now M_pane Res hret N l1 l2 l4 N 0 l3 _ _ _ (lv_sub hl [2, 3, 4, 6, 1, 0] rfl) h hf
abbrev rm_mo_tries : Room := { frames := 0, cells := 0, slots := 0, locals := 0 }
set_option maxHeartbeats 4000000 in
set_option maxRecDepth 100000 in
theorem w_mo_tries_78 {p : Program} {l : Launch} {e : Env} {s : State} {m : MethodId} {args : Array Value} {below : List Frame} {meth : Method} {c : Code} {Q : State → Prop} {D : va_G} {cI cJ cZ cO : ClassId} {A : Nat → Prop} {H0 : Heap} {w0 : Cond} (C : XC p s m args c cX8_tries 8 RX8 w0 D (xT cI cJ cZ cO)) (a : Nat → Nat) (M_edits : Int) (M_typed : Int) (M_readRows : Int) (M_readColumns : Int) (M_top : Int) (M_bottom : Int) (M_left : Int) (M_right : Int) (M_panes : Int) (Res : (Int → Int) × (Int → Int) × (Int → Int)) (hret : XRV p l e rm_mo_tries s m args below meth c cX8_tries D A H0 Q [((a 0), oM a M_edits M_typed M_readRows M_readColumns M_top M_bottom M_left M_right M_panes), ((a 12), aI cI 2401 Res.1), ((a 13), aI cI 2401 Res.2.1), ((a 14), aI cI 2401 Res.2.2)]) (N : Nat) : ∀ (l1 : Int) (l2 : Int) (l6 : Int) (l7 : Int) (M_pieces : Int → Int) (M_leads : Int → Int) (M_line : Int → Int) (ls : Array Slot) (H : Heap) (locs : List Loc), lv_has ls 8 [(0, .ref (a 0)), (1, iv l1), (2, iv l2), (6, iv l6), (7, iv l7)] → XH D A H0 [((a 0), oM a M_edits M_typed M_readRows M_readColumns M_top M_bottom M_left M_right M_panes), ((a 12), aI cI 2401 M_pieces), ((a 13), aI cI 2401 M_leads), ((a 14), aI cI 2401 M_line)] H locs → f_mo_tries_78 N l1 l2 l6 l7 M_pieces M_leads M_line = some Res → W p l e rm_mo_tries s m args below meth c H locs 0 0 Q (F0 m 78 ls []) := by
  have hx := C.1.1
  have hb := C.1.2.1
  intro l1 l2 l6 l7 M_pieces M_leads M_line ls H locs hl h hf
  unfold f_mo_tries_78 at hf
  refine lv_aload_n hx hb (pc := 78) dX8_tries_78 rfl (lv_at hl 0 rfl) ?_
  refine x_get C h (pc := 79) xf_X8_44 0 rfl (v := .ref (a 12)) rfl dX8_tries_79 ?_
  refine lv_iload_n hx hb (pc := 82) dX8_tries_82 rfl (lv_at hl 1 rfl) ?_
  refine lv_iload hx hb (pc := 83) dX8_tries_83 (lv_at hl 3 rfl) ?_
  obtain ⟨g_11, hf⟩ := og_some hf
  obtain ⟨M_pieces_12, eM_pieces_12, hf⟩ := ol_some hf
  refine x_iast C h (pc := 85) (ws' := [((a 0), oM a M_edits M_typed M_readRows M_readColumns M_top M_bottom M_left M_right M_panes), ((a 12), aI cI 2401 M_pieces_12), ((a 13), aI cI 2401 M_leads), ((a 14), aI cI 2401 M_line)]) 1 0 rfl rfl (Nat.le_of_ble_eq_true rfl) g_11 eM_pieces_12 rfl dX8_tries_85 (fun H locs h => ?_)
  refine lv_aload_n hx hb (pc := 86) dX8_tries_86 rfl (lv_at hl 0 rfl) ?_
  refine x_get C h (pc := 87) xf_X8_47 0 rfl (v := .ref (a 13)) rfl dX8_tries_87 ?_
  refine lv_iload_n hx hb (pc := 90) dX8_tries_90 rfl (lv_at hl 1 rfl) ?_
  refine lv_iload hx hb (pc := 91) dX8_tries_91 (lv_at hl 4 rfl) ?_
  obtain ⟨M_leads_13, eM_leads_13, hf⟩ := ol_some hf
  refine x_iast C h (pc := 93) (ws' := [((a 0), oM a M_edits M_typed M_readRows M_readColumns M_top M_bottom M_left M_right M_panes), ((a 12), aI cI 2401 M_pieces_12), ((a 13), aI cI 2401 M_leads_13), ((a 14), aI cI 2401 M_line)]) 2 0 rfl rfl (Nat.le_of_ble_eq_true rfl) g_11 eM_leads_13 rfl dX8_tries_93 (fun H locs h => ?_)
  refine lv_aload_n hx hb (pc := 94) dX8_tries_94 rfl (lv_at hl 0 rfl) ?_
  refine x_get C h (pc := 95) xf_X8_50 0 rfl (v := .ref (a 14)) rfl dX8_tries_95 ?_
  refine lv_iload_n hx hb (pc := 98) dX8_tries_98 rfl (lv_at hl 1 rfl) ?_
  refine lv_iload_n hx hb (pc := 99) dX8_tries_99 rfl (lv_at hl 2 rfl) ?_
  obtain ⟨M_line_14, eM_line_14, hf⟩ := ol_some hf
  refine x_iast C h (pc := 100) (ws' := [((a 0), oM a M_edits M_typed M_readRows M_readColumns M_top M_bottom M_left M_right M_panes), ((a 12), aI cI 2401 M_pieces_12), ((a 13), aI cI 2401 M_leads_13), ((a 14), aI cI 2401 M_line_14)]) 3 0 rfl rfl (Nat.le_of_ble_eq_true rfl) g_11 eM_line_14 rfl dX8_tries_100 (fun H locs h => ?_)
  have e9 := Option.some.inj hf
  subst e9
  exact hret _ _ _ _ dX8_tries_101 h
set_option maxHeartbeats 4000000 in
set_option maxRecDepth 100000 in
theorem c_mo_tries (l : Launch) (D : va_G) (cI cJ cZ cO : ClassId) (a : Nat → Nat) (M_edits : Int) (M_typed : Int) (M_readRows : Int) (M_readColumns : Int) (M_top : Int) (M_bottom : Int) (M_left : Int) (M_right : Int) (M_panes : Int) (M_pieces : Int → Int) (M_leads : Int → Int) (M_line : Int → Int) (l1 : Int) (l2 : Int) (l3 : Int) (l4 : Int) (l5 : Int) (N : Nat) (Res : (Int → Int) × (Int → Int) × (Int → Int)) (hf : f_mo_tries N l1 l2 l3 l4 l5 M_pieces M_leads M_line = some Res) : CoV l D (xT cI cJ cZ cO) yX8_tries cX8_tries 8 none rm_mo_tries [.ref (a 0), iv l1, iv l2, iv l3, iv l4, iv l5] [((a 0), oM a M_edits M_typed M_readRows M_readColumns M_top M_bottom M_left M_right M_panes), ((a 12), aI cI 2401 M_pieces), ((a 13), aI cI 2401 M_leads), ((a 14), aI cI 2401 M_line)] [((a 0), oM a M_edits M_typed M_readRows M_readColumns M_top M_bottom M_left M_right M_panes), ((a 12), aI cI 2401 Res.1), ((a 13), aI cI 2401 Res.2.1), ((a 14), aI cI 2401 Res.2.2)] := by
  refine co_v (by decide) ⟨rfl, rfl⟩ (Nat.le_of_ble_eq_true rfl) ?_
  intro p e s m args below meth c A Q ls C hret hl h
  have hx := C.1.1
  have hb := C.1.2.1
  have hl : lv_has ls 8 [(0, .ref (a 0)), (1, iv l1), (2, iv l2), (3, iv l3), (4, iv l4), (5, iv l5)] := hl
  unfold f_mo_tries at hf
  refine lv_aload_n hx hb (pc := 0) dX8_tries_0 rfl (lv_at hl 0 rfl) ?_
  refine x_get C h (pc := 1) xf_X8_44 0 rfl (v := .ref (a 12)) rfl dX8_tries_1 ?_
  refine lv_iload_n hx hb (pc := 4) dX8_tries_4 rfl (lv_at hl 3 rfl) ?_
  obtain ⟨g_1, hf⟩ := og_some hf
  refine x_iald C h (pc := 5) 1 0 rfl rfl (Nat.le_of_ble_eq_true rfl) g_1 dX8_tries_5 ?_
  refine lv_aload_n hx hb (pc := 6) dX8_tries_6 rfl (lv_at hl 0 rfl) ?_
  refine x_get C h (pc := 7) xf_X8_44 0 rfl (v := .ref (a 12)) rfl dX8_tries_7 ?_
  refine lv_iload hx hb (pc := 10) dX8_tries_10 (lv_at hl 4 rfl) ?_
  obtain ⟨g_2, hf⟩ := og_some hf
  refine x_iald C h (pc := 12) 1 0 rfl rfl (Nat.le_of_ble_eq_true rfl) g_2 dX8_tries_12 ?_
  refine x_iadd C (pc := 13) dX8_tries_13 ?_
  obtain ⟨l6_3, el6_3, hf⟩ := ol_some hf
  refine x_topi el6_3 ?_
  refine lv_istore hx hb (pc := 14) (lv' := [(6, iv l6_3), (0, .ref (a 0)), (1, iv l1), (2, iv l2), (3, iv l3), (4, iv l4), (5, iv l5)]) dX8_tries_14 hl (Nat.le_of_ble_eq_true rfl) rfl (fun ls hl => ?_)
  refine lv_aload_n hx hb (pc := 16) dX8_tries_16 rfl (lv_at hl 1 rfl) ?_
  refine x_get C h (pc := 17) xf_X8_47 0 rfl (v := .ref (a 13)) rfl dX8_tries_17 ?_
  refine lv_iload_n hx hb (pc := 20) dX8_tries_20 rfl (lv_at hl 4 rfl) ?_
  refine x_iald C h (pc := 21) 2 0 rfl rfl (Nat.le_of_ble_eq_true rfl) g_1 dX8_tries_21 ?_
  refine lv_aload_n hx hb (pc := 22) dX8_tries_22 rfl (lv_at hl 1 rfl) ?_
  refine x_get C h (pc := 23) xf_X8_47 0 rfl (v := .ref (a 13)) rfl dX8_tries_23 ?_
  refine lv_iload hx hb (pc := 26) dX8_tries_26 (lv_at hl 5 rfl) ?_
  refine x_iald C h (pc := 28) 2 0 rfl rfl (Nat.le_of_ble_eq_true rfl) g_2 dX8_tries_28 ?_
  refine x_iadd C (pc := 29) dX8_tries_29 ?_
  refine lv_iload hx hb (pc := 30) dX8_tries_30 (lv_at hl 6 rfl) ?_
  refine x_iadd C (pc := 32) dX8_tries_32 ?_
  obtain ⟨l7_4, el7_4, hf⟩ := ol_some hf
  refine x_topi el7_4 ?_
  refine lv_istore hx hb (pc := 33) (lv' := [(7, iv l7_4), (6, iv l6_3), (0, .ref (a 0)), (1, iv l1), (2, iv l2), (3, iv l3), (4, iv l4), (5, iv l5)]) dX8_tries_33 hl (Nat.le_of_ble_eq_true rfl) rfl (fun ls hl => ?_)
  refine lv_aload_n hx hb (pc := 35) dX8_tries_35 rfl (lv_at hl 2 rfl) ?_
  refine x_get C h (pc := 36) xf_X8_50 0 rfl (v := .ref (a 14)) rfl dX8_tries_36 ?_
  refine lv_iload_n hx hb (pc := 39) dX8_tries_39 rfl (lv_at hl 3 rfl) ?_
  obtain ⟨g_5, hf⟩ := og_some hf
  refine x_iald C h (pc := 40) 3 0 rfl rfl (Nat.le_of_ble_eq_true rfl) g_5 dX8_tries_40 ?_
  refine x_iconst C (pc := 41) dX8_tries_41 ?_
  obtain ⟨g_6, hf⟩ := og_some hf
  refine x_icmpeq C (pc := 42) (tgt := 78) g_6 ⟨by decide, by decide⟩ dX8_tries_42 rfl (fun hc => ?_) (fun hc => ?_)
  · have hf := oi_t hf hc
    exact w_mo_tries_78 C a M_edits M_typed M_readRows M_readColumns M_top M_bottom M_left M_right M_panes Res hret N l1 l2 l6_3 l7_4 M_pieces M_leads M_line _ _ _ (lv_sub hl [2, 3, 4, 1, 0] rfl) h hf
  · have hf := oi_f hf hc
    refine lv_iload hx hb (pc := 45) dX8_tries_45 (lv_at hl 1 rfl) ?_
    refine lv_aload_n hx hb (pc := 47) dX8_tries_47 rfl (lv_at hl 2 rfl) ?_
    refine x_get C h (pc := 48) xf_X8_44 0 rfl (v := .ref (a 12)) rfl dX8_tries_48 ?_
    refine lv_iload_n hx hb (pc := 51) dX8_tries_51 rfl (lv_at hl 3 rfl) ?_
    refine x_iald C h (pc := 52) 1 0 rfl rfl (Nat.le_of_ble_eq_true rfl) g_5 dX8_tries_52 ?_
    obtain ⟨g_7, hf⟩ := og_some hf
    obtain ⟨g_8, hf⟩ := og_some hf
    refine x_icmplt C (pc := 53) (tgt := 78) g_7 g_8 dX8_tries_53 rfl (fun hc => ?_) (fun hc => ?_)
    · have hf := oi_t hf hc
      exact w_mo_tries_78 C a M_edits M_typed M_readRows M_readColumns M_top M_bottom M_left M_right M_panes Res hret N l1 l2 l6_3 l7_4 M_pieces M_leads M_line _ _ _ (lv_sub hl [2, 3, 4, 1, 0] rfl) h hf
    · have hf := oi_f hf hc
      refine lv_iload hx hb (pc := 56) dX8_tries_56 (lv_at hl 1 rfl) ?_
      refine lv_aload_n hx hb (pc := 58) dX8_tries_58 rfl (lv_at hl 2 rfl) ?_
      refine x_get C h (pc := 59) xf_X8_44 0 rfl (v := .ref (a 12)) rfl dX8_tries_59 ?_
      refine lv_iload_n hx hb (pc := 62) dX8_tries_62 rfl (lv_at hl 3 rfl) ?_
      refine x_iald C h (pc := 63) 1 0 rfl rfl (Nat.le_of_ble_eq_true rfl) g_5 dX8_tries_63 ?_
      refine x_icmpne C (pc := 64) (tgt := 101) g_7 g_8 dX8_tries_64 rfl (fun hc => ?_) (fun hc => ?_)
      · have hf := oi_f hf hc
        have e9 := Option.some.inj hf
        subst e9
        exact hret _ _ _ _ dX8_tries_101 h
      · have hf := oi_t hf hc
        refine lv_iload hx hb (pc := 67) dX8_tries_67 (lv_at hl 0 rfl) ?_
        refine lv_aload_n hx hb (pc := 69) dX8_tries_69 rfl (lv_at hl 2 rfl) ?_
        refine x_get C h (pc := 70) xf_X8_47 0 rfl (v := .ref (a 13)) rfl dX8_tries_70 ?_
        refine lv_iload_n hx hb (pc := 73) dX8_tries_73 rfl (lv_at hl 3 rfl) ?_
        refine x_iald C h (pc := 74) 2 0 rfl rfl (Nat.le_of_ble_eq_true rfl) g_5 dX8_tries_74 ?_
        obtain ⟨g_9, hf⟩ := og_some hf
        obtain ⟨g_10, hf⟩ := og_some hf
        refine x_icmpge C (pc := 75) (tgt := 101) g_9 g_10 dX8_tries_75 rfl (fun hc => ?_) (fun hc => ?_)
        · have hf := oi_t hf hc
          have e9 := Option.some.inj hf
          subst e9
          exact hret _ _ _ _ dX8_tries_101 h
        · have hf := oi_f hf hc
          exact w_mo_tries_78 C a M_edits M_typed M_readRows M_readColumns M_top M_bottom M_left M_right M_panes Res hret N l1 l2 l6_3 l7_4 M_pieces M_leads M_line _ _ _ (lv_sub hl [2, 3, 4, 1, 0] rfl) h hf
abbrev rm_mo_layBox : Room := { frames := 6, cells := 0, slots := 0, locals := 147 }
set_option maxHeartbeats 4000000 in
set_option maxRecDepth 100000 in
theorem w_mo_layBox_140 {p : Program} {l : Launch} {e : Env} {s : State} {m : MethodId} {args : Array Value} {below : List Frame} {meth : Method} {c : Code} {Q : State → Prop} {D : va_G} {cI cJ cZ cO : ClassId} {A : Nat → Prop} {H0 : Heap} {w0 : Cond} (C : XC p s m args c cX8_layBox 11 RX8 w0 D (xT cI cJ cZ cO)) (a : Nat → Nat) (M_edits : Int) (M_typed : Int) (M_readRows : Int) (M_readColumns : Int) (M_top : Int) (M_bottom : Int) (M_left : Int) (M_right : Int) (M_panes : Int) (M_now : Int → Int) (M_pane : Int → Int) (Res : (Int → Int) × (Int → Int) × (Int → Int) × (Int → Int) × (Int → Int) × (Int → Int)) (hret : XRV p l e rm_mo_layBox s m args below meth c cX8_layBox D A H0 Q [((a 0), oM a M_edits M_typed M_readRows M_readColumns M_top M_bottom M_left M_right M_panes), ((a 1), aI cI 151 M_now), ((a 5), aI cI 49 Res.1), ((a 6), aI cI 49 M_pane), ((a 7), aI cI 49 Res.2.1), ((a 9), aI cZ 49 Res.2.2.1), ((a 12), aI cI 2401 Res.2.2.2.1), ((a 13), aI cI 2401 Res.2.2.2.2.1), ((a 14), aI cI 2401 Res.2.2.2.2.2)]) (N : Nat) (l1 : Int) (l2 : Int) (l3 : Int) (l4 : Int) (l5 : Int) (l6 : Int) (M_queue : Int → Int) (M_fragment : Int → Int) (M_seen : Int → Int) : ∀ (n : Nat) (l8 : Int) (M_pieces : Int → Int) (M_leads : Int → Int) (M_line : Int → Int) (ls : Array Slot) (H : Heap) (locs : List Loc), lv_has ls 11 [(0, .ref (a 0)), (1, iv l1), (2, iv l2), (3, iv l3), (4, iv l4), (5, iv l5), (6, iv l6), (8, iv l8)] → XH D A H0 [((a 0), oM a M_edits M_typed M_readRows M_readColumns M_top M_bottom M_left M_right M_panes), ((a 1), aI cI 151 M_now), ((a 5), aI cI 49 M_queue), ((a 6), aI cI 49 M_pane), ((a 7), aI cI 49 M_fragment), ((a 9), aI cZ 49 M_seen), ((a 12), aI cI 2401 M_pieces), ((a 13), aI cI 2401 M_leads), ((a 14), aI cI 2401 M_line)] H locs → f_mo_layBox_140 N l1 l2 l3 l4 l5 l6 M_queue M_fragment M_seen M_now M_pane n l8 M_pieces M_leads M_line = some Res → W p l e rm_mo_layBox s m args below meth c H locs 0 0 Q (F0 m 140 ls []) := by
  have hx := C.1.1
  have hb := C.1.2.1
  intro n
  induction n with
  | zero => intro l8 M_pieces M_leads M_line ls H locs hl h hf; cases hf
  | succ n ih =>
    intro l8 M_pieces M_leads M_line ls H locs hl h hf
    rw [f_mo_layBox_140.eq_2] at hf
    refine lv_iload hx hb (pc := 140) dX8_layBox_140 (lv_at hl 7 rfl) ?_
    refine lv_iload hx hb (pc := 142) dX8_layBox_142 (lv_at hl 5 rfl) ?_
    obtain ⟨g_15, hf⟩ := og_some hf
    obtain ⟨g_16, hf⟩ := og_some hf
    refine x_icmpge C (pc := 144) (tgt := 201) g_15 g_16 dX8_layBox_144 rfl (fun hc => ?_) (fun hc => ?_)
    · have hf := oi_t hf hc
      have e9 := Option.some.inj hf
      subst e9
      exact hret _ _ _ _ dX8_layBox_201 h
    · have hf := oi_f hf hc
      refine lv_iload_n hx hb (pc := 147) dX8_layBox_147 rfl (lv_at hl 2 rfl) ?_
      refine lv_iload_n hx hb (pc := 148) dX8_layBox_148 rfl (lv_at hl 3 rfl) ?_
      refine lv_iload hx hb (pc := 149) dX8_layBox_149 (lv_at hl 4 rfl) ?_
      refine lv_iload hx hb (pc := 151) dX8_layBox_151 (lv_at hl 7 rfl) ?_
      obtain ⟨q_17, hq_17, hf⟩ := ob_some hf
      refine x_callSi C h (pc := 153) hl (c_mo_box l D cI cJ cZ cO a l2 l3 l4 l8 N q_17 hq_17) xs_X8_box lk_X8_171 ⟨(Nat.le_of_ble_eq_true rfl), (Nat.le_of_ble_eq_true rfl)⟩ rfl [] [0, 1, 2, 3, 4, 5, 6, 7, 8] (nw := 9) (wr := [((a 0), oM a M_edits M_typed M_readRows M_readColumns M_top M_bottom M_left M_right M_panes), ((a 1), aI cI 151 M_now), ((a 5), aI cI 49 M_queue), ((a 6), aI cI 49 M_pane), ((a 7), aI cI 49 M_fragment), ((a 9), aI cZ 49 M_seen), ((a 12), aI cI 2401 M_pieces), ((a 13), aI cI 2401 M_leads), ((a 14), aI cI 2401 M_line)]) (as := [(a 0), (a 1), (a 5), (a 6), (a 7), (a 9), (a 12), (a 13), (a 14)]) (ws' := [((a 0), oM a M_edits M_typed M_readRows M_readColumns M_top M_bottom M_left M_right M_panes), ((a 1), aI cI 151 M_now), ((a 5), aI cI 49 M_queue), ((a 6), aI cI 49 M_pane), ((a 7), aI cI 49 M_fragment), ((a 9), aI cZ 49 M_seen), ((a 12), aI cI 2401 M_pieces), ((a 13), aI cI 2401 M_leads), ((a 14), aI cI 2401 M_line)]) rfl rfl rfl rfl rfl rfl rfl rfl rfl rfl (Nat.le_of_ble_eq_true rfl) dX8_layBox_153 (fun H locs h => ?_)
      refine lv_istore hx hb (pc := 156) (lv' := [(9, iv q_17), (0, .ref (a 0)), (1, iv l1), (2, iv l2), (3, iv l3), (4, iv l4), (5, iv l5), (6, iv l6), (8, iv l8)]) dX8_layBox_156 hl (Nat.le_of_ble_eq_true rfl) rfl (fun ls hl => ?_)
      refine lv_iload_n hx hb (pc := 158) dX8_layBox_158 rfl (lv_at hl 3 rfl) ?_
      refine lv_iload_n hx hb (pc := 159) dX8_layBox_159 rfl (lv_at hl 4 rfl) ?_
      refine lv_iload hx hb (pc := 160) dX8_layBox_160 (lv_at hl 8 rfl) ?_
      refine x_iconst C (pc := 162) dX8_layBox_162 ?_
      refine x_iadd C (pc := 163) dX8_layBox_163 ?_
      refine lv_iload hx hb (pc := 164) dX8_layBox_164 (lv_at hl 6 rfl) ?_
      obtain ⟨q_18, hq_18, hf⟩ := ob_some hf
      refine x_callSi C h (pc := 166) hl (c_mo_box l D cI cJ cZ cO a l2 l3 (l8 + 1) l5 N q_18 hq_18) xs_X8_box lk_X8_171 ⟨(Nat.le_of_ble_eq_true rfl), (Nat.le_of_ble_eq_true rfl)⟩ rfl [] [0, 1, 2, 3, 4, 5, 6, 7, 8] (nw := 9) (wr := [((a 0), oM a M_edits M_typed M_readRows M_readColumns M_top M_bottom M_left M_right M_panes), ((a 1), aI cI 151 M_now), ((a 5), aI cI 49 M_queue), ((a 6), aI cI 49 M_pane), ((a 7), aI cI 49 M_fragment), ((a 9), aI cZ 49 M_seen), ((a 12), aI cI 2401 M_pieces), ((a 13), aI cI 2401 M_leads), ((a 14), aI cI 2401 M_line)]) (as := [(a 0), (a 1), (a 5), (a 6), (a 7), (a 9), (a 12), (a 13), (a 14)]) (ws' := [((a 0), oM a M_edits M_typed M_readRows M_readColumns M_top M_bottom M_left M_right M_panes), ((a 1), aI cI 151 M_now), ((a 5), aI cI 49 M_queue), ((a 6), aI cI 49 M_pane), ((a 7), aI cI 49 M_fragment), ((a 9), aI cZ 49 M_seen), ((a 12), aI cI 2401 M_pieces), ((a 13), aI cI 2401 M_leads), ((a 14), aI cI 2401 M_line)]) rfl rfl rfl rfl rfl rfl rfl rfl rfl rfl (Nat.le_of_ble_eq_true rfl) dX8_layBox_166 (fun H locs h => ?_)
      refine lv_istore hx hb (pc := 169) (lv' := [(10, iv q_18), (9, iv q_17), (0, .ref (a 0)), (1, iv l1), (2, iv l2), (3, iv l3), (4, iv l4), (5, iv l5), (6, iv l6), (8, iv l8)]) dX8_layBox_169 hl (Nat.le_of_ble_eq_true rfl) rfl (fun ls hl => ?_)
      refine lv_aload_n hx hb (pc := 171) dX8_layBox_171 rfl (lv_at hl 2 rfl) ?_
      refine lv_iload hx hb (pc := 172) dX8_layBox_172 (lv_at hl 8 rfl) ?_
      refine x_bipush C (pc := 174) dX8_layBox_174 (by decide) ?_
      refine lv_iload hx hb (pc := 176) dX8_layBox_176 (lv_at hl 9 rfl) ?_
      refine x_iadd C (pc := 178) dX8_layBox_178 ?_
      refine lv_iload hx hb (pc := 179) dX8_layBox_179 (lv_at hl 1 rfl) ?_
      refine lv_iload hx hb (pc := 181) dX8_layBox_181 (lv_at hl 0 rfl) ?_
      refine lv_aload_n hx hb (pc := 183) dX8_layBox_183 rfl (lv_at hl 2 rfl) ?_
      refine lv_iload_n hx hb (pc := 184) dX8_layBox_184 rfl (lv_at hl 3 rfl) ?_
      refine lv_iload hx hb (pc := 185) dX8_layBox_185 (lv_at hl 9 rfl) ?_
      refine lv_iload_n hx hb (pc := 187) dX8_layBox_187 rfl (lv_at hl 4 rfl) ?_
      refine lv_iload_n hx hb (pc := 188) dX8_layBox_188 rfl (lv_at hl 5 rfl) ?_
      obtain ⟨q_19, hq_19, hf⟩ := ob_some hf
      refine x_callVi C h (pc := 189) hl (c_mo_apartRight l D cI cJ cZ cO a M_edits M_typed M_readRows M_readColumns M_top M_bottom M_left M_right M_panes M_now M_pane l1 l8 l2 l3 N q_19 hq_19) xv_X8_apartRight lk_X8_185 ⟨(Nat.le_of_ble_eq_true rfl), (Nat.le_of_ble_eq_true rfl)⟩ rfl [0, 1, 3] [2, 4, 5, 6, 7, 8] (nw := 9) (wr := [((a 5), aI cI 49 M_queue), ((a 7), aI cI 49 M_fragment), ((a 9), aI cZ 49 M_seen), ((a 12), aI cI 2401 M_pieces), ((a 13), aI cI 2401 M_leads), ((a 14), aI cI 2401 M_line)]) (as := [(a 0), (a 1), (a 5), (a 6), (a 7), (a 9), (a 12), (a 13), (a 14)]) (ws' := [((a 0), oM a M_edits M_typed M_readRows M_readColumns M_top M_bottom M_left M_right M_panes), ((a 1), aI cI 151 M_now), ((a 5), aI cI 49 M_queue), ((a 6), aI cI 49 M_pane), ((a 7), aI cI 49 M_fragment), ((a 9), aI cZ 49 M_seen), ((a 12), aI cI 2401 M_pieces), ((a 13), aI cI 2401 M_leads), ((a 14), aI cI 2401 M_line)]) rfl rfl rfl rfl rfl rfl rfl rfl rfl 0 rfl rfl rfl rfl (Nat.le_of_ble_eq_true rfl) dX8_layBox_189 (fun H locs h => ?_)
      obtain ⟨q_20, hq_20, hf⟩ := ob_some hf
      refine x_callVv C h (pc := 192) hl (c_mo_tries l D cI cJ cZ cO a M_edits M_typed M_readRows M_readColumns M_top M_bottom M_left M_right M_panes M_pieces M_leads M_line l6 (7 + l8) q_17 q_18 q_19 N q_20 hq_20) xv_X8_tries lk_X8_181 ⟨(Nat.le_of_ble_eq_true rfl), (Nat.le_of_ble_eq_true rfl)⟩ rfl [0, 6, 7, 8] [1, 2, 3, 4, 5] (nw := 9) (wr := [((a 1), aI cI 151 M_now), ((a 5), aI cI 49 M_queue), ((a 6), aI cI 49 M_pane), ((a 7), aI cI 49 M_fragment), ((a 9), aI cZ 49 M_seen)]) (as := [(a 0), (a 1), (a 5), (a 6), (a 7), (a 9), (a 12), (a 13), (a 14)]) (ws' := [((a 0), oM a M_edits M_typed M_readRows M_readColumns M_top M_bottom M_left M_right M_panes), ((a 1), aI cI 151 M_now), ((a 5), aI cI 49 M_queue), ((a 6), aI cI 49 M_pane), ((a 7), aI cI 49 M_fragment), ((a 9), aI cZ 49 M_seen), ((a 12), aI cI 2401 q_20.1), ((a 13), aI cI 2401 q_20.2.1), ((a 14), aI cI 2401 q_20.2.2)]) rfl rfl rfl rfl rfl rfl rfl rfl rfl 0 rfl rfl rfl rfl (Nat.le_of_ble_eq_true rfl) dX8_layBox_192 (fun H locs h => ?_)
      obtain ⟨l8_21, el8_21, hf⟩ := ol_some hf
      refine x_iinc C (pc := 195) (k := 9) (lw' := [(8, iv l8_21), (10, iv q_18), (9, iv q_17), (0, .ref (a 0)), (1, iv l1), (2, iv l2), (3, iv l3), (4, iv l4), (5, iv l5), (6, iv l6)]) dX8_layBox_195 hl rfl el8_21 (Nat.le_of_ble_eq_true rfl) rfl (fun ls hl => ?_)
      refine lv_goto hx hb (pc := 198) (tgt := 140) dX8_layBox_198 rfl ?_
      exact ih l8_21 q_20.1 q_20.2.1 q_20.2.2 _ _ _ (lv_sub hl [3, 4, 5, 6, 7, 8, 9, 0] rfl) h hf
set_option maxHeartbeats 4000000 in
set_option maxRecDepth 100000 in
theorem w_mo_layBox_75 {p : Program} {l : Launch} {e : Env} {s : State} {m : MethodId} {args : Array Value} {below : List Frame} {meth : Method} {c : Code} {Q : State → Prop} {D : va_G} {cI cJ cZ cO : ClassId} {A : Nat → Prop} {H0 : Heap} {w0 : Cond} (C : XC p s m args c cX8_layBox 11 RX8 w0 D (xT cI cJ cZ cO)) (a : Nat → Nat) (M_edits : Int) (M_typed : Int) (M_readRows : Int) (M_readColumns : Int) (M_top : Int) (M_bottom : Int) (M_left : Int) (M_right : Int) (M_panes : Int) (M_now : Int → Int) (M_pane : Int → Int) (Res : (Int → Int) × (Int → Int) × (Int → Int) × (Int → Int) × (Int → Int) × (Int → Int)) (hret : XRV p l e rm_mo_layBox s m args below meth c cX8_layBox D A H0 Q [((a 0), oM a M_edits M_typed M_readRows M_readColumns M_top M_bottom M_left M_right M_panes), ((a 1), aI cI 151 M_now), ((a 5), aI cI 49 Res.1), ((a 6), aI cI 49 M_pane), ((a 7), aI cI 49 Res.2.1), ((a 9), aI cZ 49 Res.2.2.1), ((a 12), aI cI 2401 Res.2.2.2.1), ((a 13), aI cI 2401 Res.2.2.2.2.1), ((a 14), aI cI 2401 Res.2.2.2.2.2)]) (N : Nat) (l1 : Int) (l2 : Int) (l3 : Int) (l4 : Int) (l5 : Int) (l6 : Int) (M_queue : Int → Int) (M_fragment : Int → Int) (M_seen : Int → Int) : ∀ (n : Nat) (l8 : Int) (M_pieces : Int → Int) (M_leads : Int → Int) (M_line : Int → Int) (ls : Array Slot) (H : Heap) (locs : List Loc), lv_has ls 11 [(0, .ref (a 0)), (1, iv l1), (2, iv l2), (3, iv l3), (4, iv l4), (5, iv l5), (6, iv l6), (8, iv l8)] → XH D A H0 [((a 0), oM a M_edits M_typed M_readRows M_readColumns M_top M_bottom M_left M_right M_panes), ((a 1), aI cI 151 M_now), ((a 5), aI cI 49 M_queue), ((a 6), aI cI 49 M_pane), ((a 7), aI cI 49 M_fragment), ((a 9), aI cZ 49 M_seen), ((a 12), aI cI 2401 M_pieces), ((a 13), aI cI 2401 M_leads), ((a 14), aI cI 2401 M_line)] H locs → f_mo_layBox_75 N l1 l2 l3 l4 l5 l6 M_queue M_fragment M_seen M_now M_pane n l8 M_pieces M_leads M_line = some Res → W p l e rm_mo_layBox s m args below meth c H locs 0 0 Q (F0 m 75 ls []) := by
  have hx := C.1.1
  have hb := C.1.2.1
  intro n
  induction n with
  | zero => intro l8 M_pieces M_leads M_line ls H locs hl h hf; cases hf
  | succ n ih =>
    intro l8 M_pieces M_leads M_line ls H locs hl h hf
    rw [f_mo_layBox_75.eq_2] at hf
    refine lv_iload hx hb (pc := 75) dX8_layBox_75 (lv_at hl 7 rfl) ?_
    refine lv_iload_n hx hb (pc := 77) dX8_layBox_77 rfl (lv_at hl 3 rfl) ?_
    obtain ⟨g_8, hf⟩ := og_some hf
    obtain ⟨g_9, hf⟩ := og_some hf
    refine x_icmpge C (pc := 78) (tgt := 136) g_8 g_9 dX8_layBox_78 rfl (fun hc => ?_) (fun hc => ?_)
    · have hf := oi_t hf hc
      refine lv_iload hx hb (pc := 136) dX8_layBox_136 (lv_at hl 4 rfl) ?_
      refine lv_istore hx hb (pc := 138) (lv' := [(8, iv l4), (0, .ref (a 0)), (1, iv l1), (2, iv l2), (3, iv l3), (4, iv l4), (5, iv l5), (6, iv l6)]) dX8_layBox_138 hl (Nat.le_of_ble_eq_true rfl) rfl (fun ls hl => ?_)
      exact w_mo_layBox_140 C a M_edits M_typed M_readRows M_readColumns M_top M_bottom M_left M_right M_panes M_now M_pane Res hret N l1 l2 l3 l4 l5 l6 M_queue M_fragment M_seen N l4 M_pieces M_leads M_line _ _ _ (lv_sub hl [1, 2, 3, 4, 5, 6, 7, 0] rfl) h hf
    · have hf := oi_f hf hc
      refine lv_iload_n hx hb (pc := 81) dX8_layBox_81 rfl (lv_at hl 2 rfl) ?_
      refine lv_iload hx hb (pc := 82) dX8_layBox_82 (lv_at hl 7 rfl) ?_
      refine lv_iload hx hb (pc := 84) dX8_layBox_84 (lv_at hl 4 rfl) ?_
      refine lv_iload hx hb (pc := 86) dX8_layBox_86 (lv_at hl 5 rfl) ?_
      obtain ⟨q_10, hq_10, hf⟩ := ob_some hf
      refine x_callSi C h (pc := 88) hl (c_mo_box l D cI cJ cZ cO a l2 l8 l4 l5 N q_10 hq_10) xs_X8_box lk_X8_171 ⟨(Nat.le_of_ble_eq_true rfl), (Nat.le_of_ble_eq_true rfl)⟩ rfl [] [0, 1, 2, 3, 4, 5, 6, 7, 8] (nw := 9) (wr := [((a 0), oM a M_edits M_typed M_readRows M_readColumns M_top M_bottom M_left M_right M_panes), ((a 1), aI cI 151 M_now), ((a 5), aI cI 49 M_queue), ((a 6), aI cI 49 M_pane), ((a 7), aI cI 49 M_fragment), ((a 9), aI cZ 49 M_seen), ((a 12), aI cI 2401 M_pieces), ((a 13), aI cI 2401 M_leads), ((a 14), aI cI 2401 M_line)]) (as := [(a 0), (a 1), (a 5), (a 6), (a 7), (a 9), (a 12), (a 13), (a 14)]) (ws' := [((a 0), oM a M_edits M_typed M_readRows M_readColumns M_top M_bottom M_left M_right M_panes), ((a 1), aI cI 151 M_now), ((a 5), aI cI 49 M_queue), ((a 6), aI cI 49 M_pane), ((a 7), aI cI 49 M_fragment), ((a 9), aI cZ 49 M_seen), ((a 12), aI cI 2401 M_pieces), ((a 13), aI cI 2401 M_leads), ((a 14), aI cI 2401 M_line)]) rfl rfl rfl rfl rfl rfl rfl rfl rfl rfl (Nat.le_of_ble_eq_true rfl) dX8_layBox_88 (fun H locs h => ?_)
      refine lv_istore hx hb (pc := 91) (lv' := [(9, iv q_10), (0, .ref (a 0)), (1, iv l1), (2, iv l2), (3, iv l3), (4, iv l4), (5, iv l5), (6, iv l6), (8, iv l8)]) dX8_layBox_91 hl (Nat.le_of_ble_eq_true rfl) rfl (fun ls hl => ?_)
      refine lv_iload hx hb (pc := 93) dX8_layBox_93 (lv_at hl 8 rfl) ?_
      refine x_iconst C (pc := 95) dX8_layBox_95 ?_
      refine x_iadd C (pc := 96) dX8_layBox_96 ?_
      refine lv_iload_n hx hb (pc := 97) dX8_layBox_97 rfl (lv_at hl 4 rfl) ?_
      refine lv_iload hx hb (pc := 98) dX8_layBox_98 (lv_at hl 5 rfl) ?_
      refine lv_iload hx hb (pc := 100) dX8_layBox_100 (lv_at hl 6 rfl) ?_
      obtain ⟨q_11, hq_11, hf⟩ := ob_some hf
      refine x_callSi C h (pc := 102) hl (c_mo_box l D cI cJ cZ cO a (l8 + 1) l3 l4 l5 N q_11 hq_11) xs_X8_box lk_X8_171 ⟨(Nat.le_of_ble_eq_true rfl), (Nat.le_of_ble_eq_true rfl)⟩ rfl [] [0, 1, 2, 3, 4, 5, 6, 7, 8] (nw := 9) (wr := [((a 0), oM a M_edits M_typed M_readRows M_readColumns M_top M_bottom M_left M_right M_panes), ((a 1), aI cI 151 M_now), ((a 5), aI cI 49 M_queue), ((a 6), aI cI 49 M_pane), ((a 7), aI cI 49 M_fragment), ((a 9), aI cZ 49 M_seen), ((a 12), aI cI 2401 M_pieces), ((a 13), aI cI 2401 M_leads), ((a 14), aI cI 2401 M_line)]) (as := [(a 0), (a 1), (a 5), (a 6), (a 7), (a 9), (a 12), (a 13), (a 14)]) (ws' := [((a 0), oM a M_edits M_typed M_readRows M_readColumns M_top M_bottom M_left M_right M_panes), ((a 1), aI cI 151 M_now), ((a 5), aI cI 49 M_queue), ((a 6), aI cI 49 M_pane), ((a 7), aI cI 49 M_fragment), ((a 9), aI cZ 49 M_seen), ((a 12), aI cI 2401 M_pieces), ((a 13), aI cI 2401 M_leads), ((a 14), aI cI 2401 M_line)]) rfl rfl rfl rfl rfl rfl rfl rfl rfl rfl (Nat.le_of_ble_eq_true rfl) dX8_layBox_102 (fun H locs h => ?_)
      refine lv_istore hx hb (pc := 105) (lv' := [(10, iv q_11), (9, iv q_10), (0, .ref (a 0)), (1, iv l1), (2, iv l2), (3, iv l3), (4, iv l4), (5, iv l5), (6, iv l6), (8, iv l8)]) dX8_layBox_105 hl (Nat.le_of_ble_eq_true rfl) rfl (fun ls hl => ?_)
      refine lv_aload_n hx hb (pc := 107) dX8_layBox_107 rfl (lv_at hl 2 rfl) ?_
      refine lv_iload hx hb (pc := 108) dX8_layBox_108 (lv_at hl 8 rfl) ?_
      refine lv_iload hx hb (pc := 110) dX8_layBox_110 (lv_at hl 9 rfl) ?_
      refine lv_iload hx hb (pc := 112) dX8_layBox_112 (lv_at hl 1 rfl) ?_
      refine lv_iload hx hb (pc := 114) dX8_layBox_114 (lv_at hl 0 rfl) ?_
      refine lv_aload_n hx hb (pc := 116) dX8_layBox_116 rfl (lv_at hl 2 rfl) ?_
      refine lv_iload_n hx hb (pc := 117) dX8_layBox_117 rfl (lv_at hl 3 rfl) ?_
      refine lv_iload hx hb (pc := 118) dX8_layBox_118 (lv_at hl 9 rfl) ?_
      refine lv_iload hx hb (pc := 120) dX8_layBox_120 (lv_at hl 6 rfl) ?_
      refine lv_iload hx hb (pc := 122) dX8_layBox_122 (lv_at hl 7 rfl) ?_
      obtain ⟨q_12, hq_12, hf⟩ := ob_some hf
      refine x_callVi C h (pc := 124) hl (c_mo_apartBelow l D cI cJ cZ cO a M_edits M_typed M_readRows M_readColumns M_top M_bottom M_left M_right M_panes M_now M_pane l1 l8 l4 l5 N q_12 hq_12) xv_X8_apartBelow lk_X8_178 ⟨(Nat.le_of_ble_eq_true rfl), (Nat.le_of_ble_eq_true rfl)⟩ rfl [0, 1, 3] [2, 4, 5, 6, 7, 8] (nw := 9) (wr := [((a 5), aI cI 49 M_queue), ((a 7), aI cI 49 M_fragment), ((a 9), aI cZ 49 M_seen), ((a 12), aI cI 2401 M_pieces), ((a 13), aI cI 2401 M_leads), ((a 14), aI cI 2401 M_line)]) (as := [(a 0), (a 1), (a 5), (a 6), (a 7), (a 9), (a 12), (a 13), (a 14)]) (ws' := [((a 0), oM a M_edits M_typed M_readRows M_readColumns M_top M_bottom M_left M_right M_panes), ((a 1), aI cI 151 M_now), ((a 5), aI cI 49 M_queue), ((a 6), aI cI 49 M_pane), ((a 7), aI cI 49 M_fragment), ((a 9), aI cZ 49 M_seen), ((a 12), aI cI 2401 M_pieces), ((a 13), aI cI 2401 M_leads), ((a 14), aI cI 2401 M_line)]) rfl rfl rfl rfl rfl rfl rfl rfl rfl 0 rfl rfl rfl rfl (Nat.le_of_ble_eq_true rfl) dX8_layBox_124 (fun H locs h => ?_)
      obtain ⟨q_13, hq_13, hf⟩ := ob_some hf
      refine x_callVv C h (pc := 127) hl (c_mo_tries l D cI cJ cZ cO a M_edits M_typed M_readRows M_readColumns M_top M_bottom M_left M_right M_panes M_pieces M_leads M_line l6 l8 q_10 q_11 q_12 N q_13 hq_13) xv_X8_tries lk_X8_181 ⟨(Nat.le_of_ble_eq_true rfl), (Nat.le_of_ble_eq_true rfl)⟩ rfl [0, 6, 7, 8] [1, 2, 3, 4, 5] (nw := 9) (wr := [((a 1), aI cI 151 M_now), ((a 5), aI cI 49 M_queue), ((a 6), aI cI 49 M_pane), ((a 7), aI cI 49 M_fragment), ((a 9), aI cZ 49 M_seen)]) (as := [(a 0), (a 1), (a 5), (a 6), (a 7), (a 9), (a 12), (a 13), (a 14)]) (ws' := [((a 0), oM a M_edits M_typed M_readRows M_readColumns M_top M_bottom M_left M_right M_panes), ((a 1), aI cI 151 M_now), ((a 5), aI cI 49 M_queue), ((a 6), aI cI 49 M_pane), ((a 7), aI cI 49 M_fragment), ((a 9), aI cZ 49 M_seen), ((a 12), aI cI 2401 q_13.1), ((a 13), aI cI 2401 q_13.2.1), ((a 14), aI cI 2401 q_13.2.2)]) rfl rfl rfl rfl rfl rfl rfl rfl rfl 0 rfl rfl rfl rfl (Nat.le_of_ble_eq_true rfl) dX8_layBox_127 (fun H locs h => ?_)
      obtain ⟨l8_14, el8_14, hf⟩ := ol_some hf
      refine x_iinc C (pc := 130) (k := 9) (lw' := [(8, iv l8_14), (10, iv q_11), (9, iv q_10), (0, .ref (a 0)), (1, iv l1), (2, iv l2), (3, iv l3), (4, iv l4), (5, iv l5), (6, iv l6)]) dX8_layBox_130 hl rfl el8_14 (Nat.le_of_ble_eq_true rfl) rfl (fun ls hl => ?_)
      refine lv_goto hx hb (pc := 133) (tgt := 75) dX8_layBox_133 rfl ?_
      exact ih l8_14 q_13.1 q_13.2.1 q_13.2.2 _ _ _ (lv_sub hl [3, 4, 5, 6, 7, 8, 9, 0] rfl) h hf
set_option maxHeartbeats 4000000 in
set_option maxRecDepth 100000 in
theorem c_mo_layBox (l : Launch) (D : va_G) (cI cJ cZ cO : ClassId) (a : Nat → Nat) (M_edits : Int) (M_typed : Int) (M_readRows : Int) (M_readColumns : Int) (M_top : Int) (M_bottom : Int) (M_left : Int) (M_right : Int) (M_panes : Int) (M_now : Int → Int) (M_queue : Int → Int) (M_pane : Int → Int) (M_fragment : Int → Int) (M_seen : Int → Int) (M_pieces : Int → Int) (M_leads : Int → Int) (M_line : Int → Int) (l1 : Int) (N : Nat) (Res : (Int → Int) × (Int → Int) × (Int → Int) × (Int → Int) × (Int → Int) × (Int → Int)) (hf : f_mo_layBox N l1 M_top M_bottom M_left M_right M_now M_queue M_pane M_fragment M_seen M_pieces M_leads M_line = some Res) : CoV l D (xT cI cJ cZ cO) yX8_layBox cX8_layBox 11 none rm_mo_layBox [.ref (a 0), iv l1] [((a 0), oM a M_edits M_typed M_readRows M_readColumns M_top M_bottom M_left M_right M_panes), ((a 1), aI cI 151 M_now), ((a 5), aI cI 49 M_queue), ((a 6), aI cI 49 M_pane), ((a 7), aI cI 49 M_fragment), ((a 9), aI cZ 49 M_seen), ((a 12), aI cI 2401 M_pieces), ((a 13), aI cI 2401 M_leads), ((a 14), aI cI 2401 M_line)] [((a 0), oM a M_edits M_typed M_readRows M_readColumns M_top M_bottom M_left M_right M_panes), ((a 1), aI cI 151 M_now), ((a 5), aI cI 49 Res.1), ((a 6), aI cI 49 M_pane), ((a 7), aI cI 49 Res.2.1), ((a 9), aI cZ 49 Res.2.2.1), ((a 12), aI cI 2401 Res.2.2.2.1), ((a 13), aI cI 2401 Res.2.2.2.2.1), ((a 14), aI cI 2401 Res.2.2.2.2.2)] := by
  refine co_v (by decide) ⟨rfl, rfl⟩ (Nat.le_of_ble_eq_true rfl) ?_
  intro p e s m args below meth c A Q ls C hret hl h
  have hx := C.1.1
  have hb := C.1.2.1
  have hl : lv_has ls 11 [(0, .ref (a 0)), (1, iv l1)] := hl
  unfold f_mo_layBox at hf
  refine lv_aload_n hx hb (pc := 0) dX8_layBox_0 rfl (lv_at hl 0 rfl) ?_
  refine x_get C h (pc := 1) xf_X8_125 0 rfl (v := iv M_top) rfl dX8_layBox_1 ?_
  refine lv_istore_n hx hb (pc := 4) (lv' := [(2, iv M_top), (0, .ref (a 0)), (1, iv l1)]) dX8_layBox_4 rfl hl (Nat.le_of_ble_eq_true rfl) rfl (fun ls hl => ?_)
  refine lv_aload_n hx hb (pc := 5) dX8_layBox_5 rfl (lv_at hl 1 rfl) ?_
  refine x_get C h (pc := 6) xf_X8_119 0 rfl (v := iv M_bottom) rfl dX8_layBox_6 ?_
  refine lv_istore_n hx hb (pc := 9) (lv' := [(3, iv M_bottom), (2, iv M_top), (0, .ref (a 0)), (1, iv l1)]) dX8_layBox_9 rfl hl (Nat.le_of_ble_eq_true rfl) rfl (fun ls hl => ?_)
  refine lv_aload_n hx hb (pc := 10) dX8_layBox_10 rfl (lv_at hl 2 rfl) ?_
  refine x_get C h (pc := 11) xf_X8_122 0 rfl (v := iv M_left) rfl dX8_layBox_11 ?_
  refine lv_istore hx hb (pc := 14) (lv' := [(4, iv M_left), (3, iv M_bottom), (2, iv M_top), (0, .ref (a 0)), (1, iv l1)]) dX8_layBox_14 hl (Nat.le_of_ble_eq_true rfl) rfl (fun ls hl => ?_)
  refine lv_aload_n hx hb (pc := 16) dX8_layBox_16 rfl (lv_at hl 3 rfl) ?_
  refine x_get C h (pc := 17) xf_X8_116 0 rfl (v := iv M_right) rfl dX8_layBox_17 ?_
  refine lv_istore hx hb (pc := 20) (lv' := [(5, iv M_right), (4, iv M_left), (3, iv M_bottom), (2, iv M_top), (0, .ref (a 0)), (1, iv l1)]) dX8_layBox_20 hl (Nat.le_of_ble_eq_true rfl) rfl (fun ls hl => ?_)
  refine lv_iload_n hx hb (pc := 22) dX8_layBox_22 rfl (lv_at hl 3 rfl) ?_
  refine lv_iload_n hx hb (pc := 23) dX8_layBox_23 rfl (lv_at hl 2 rfl) ?_
  refine lv_iload hx hb (pc := 24) dX8_layBox_24 (lv_at hl 1 rfl) ?_
  refine lv_iload hx hb (pc := 26) dX8_layBox_26 (lv_at hl 0 rfl) ?_
  obtain ⟨q_1, hq_1, hf⟩ := ob_some hf
  refine x_callSi C h (pc := 28) hl (c_mo_box l D cI cJ cZ cO a M_top M_bottom M_left M_right N q_1 hq_1) xs_X8_box lk_X8_171 ⟨(Nat.le_of_ble_eq_true rfl), (Nat.le_of_ble_eq_true rfl)⟩ rfl [] [0, 1, 2, 3, 4, 5, 6, 7, 8] (nw := 9) (wr := [((a 0), oM a M_edits M_typed M_readRows M_readColumns M_top M_bottom M_left M_right M_panes), ((a 1), aI cI 151 M_now), ((a 5), aI cI 49 M_queue), ((a 6), aI cI 49 M_pane), ((a 7), aI cI 49 M_fragment), ((a 9), aI cZ 49 M_seen), ((a 12), aI cI 2401 M_pieces), ((a 13), aI cI 2401 M_leads), ((a 14), aI cI 2401 M_line)]) (as := [(a 0), (a 1), (a 5), (a 6), (a 7), (a 9), (a 12), (a 13), (a 14)]) (ws' := [((a 0), oM a M_edits M_typed M_readRows M_readColumns M_top M_bottom M_left M_right M_panes), ((a 1), aI cI 151 M_now), ((a 5), aI cI 49 M_queue), ((a 6), aI cI 49 M_pane), ((a 7), aI cI 49 M_fragment), ((a 9), aI cZ 49 M_seen), ((a 12), aI cI 2401 M_pieces), ((a 13), aI cI 2401 M_leads), ((a 14), aI cI 2401 M_line)]) rfl rfl rfl rfl rfl rfl rfl rfl rfl rfl (Nat.le_of_ble_eq_true rfl) dX8_layBox_28 (fun H locs h => ?_)
  refine lv_istore hx hb (pc := 31) (lv' := [(6, iv q_1), (5, iv M_right), (4, iv M_left), (3, iv M_bottom), (2, iv M_top), (0, .ref (a 0)), (1, iv l1)]) dX8_layBox_31 hl (Nat.le_of_ble_eq_true rfl) rfl (fun ls hl => ?_)
  refine lv_aload_n hx hb (pc := 33) dX8_layBox_33 rfl (lv_at hl 5 rfl) ?_
  refine lv_iload_n hx hb (pc := 34) dX8_layBox_34 rfl (lv_at hl 6 rfl) ?_
  obtain ⟨q_2, hq_2, hf⟩ := ob_some hf
  refine x_callVi C h (pc := 35) hl (c_mo_easyMany l D cI cJ cZ cO a M_edits M_typed M_readRows M_readColumns M_top M_bottom M_left M_right M_panes M_now M_queue M_pane M_fragment M_seen l1 N q_2 hq_2) xv_X8_easyMany lk_X8_175 ⟨(Nat.le_of_ble_eq_true rfl), (Nat.le_of_ble_eq_true rfl)⟩ rfl [0, 1, 2, 3, 4, 5] [6, 7, 8] (nw := 9) (wr := [((a 12), aI cI 2401 M_pieces), ((a 13), aI cI 2401 M_leads), ((a 14), aI cI 2401 M_line)]) (as := [(a 0), (a 1), (a 5), (a 6), (a 7), (a 9), (a 12), (a 13), (a 14)]) (ws' := [((a 0), oM a M_edits M_typed M_readRows M_readColumns M_top M_bottom M_left M_right M_panes), ((a 1), aI cI 151 M_now), ((a 5), aI cI 49 q_2.2.1), ((a 6), aI cI 49 M_pane), ((a 7), aI cI 49 q_2.2.2.1), ((a 9), aI cZ 49 q_2.2.2.2), ((a 12), aI cI 2401 M_pieces), ((a 13), aI cI 2401 M_leads), ((a 14), aI cI 2401 M_line)]) rfl rfl rfl rfl rfl rfl rfl rfl rfl 0 rfl rfl rfl rfl (Nat.le_of_ble_eq_true rfl) dX8_layBox_35 (fun H locs h => ?_)
  refine lv_istore hx hb (pc := 38) (lv' := [(7, iv q_2.1), (6, iv q_1), (5, iv M_right), (4, iv M_left), (3, iv M_bottom), (2, iv M_top), (0, .ref (a 0)), (1, iv l1)]) dX8_layBox_38 hl (Nat.le_of_ble_eq_true rfl) rfl (fun ls hl => ?_)
  refine lv_aload_n hx hb (pc := 40) dX8_layBox_40 rfl (lv_at hl 6 rfl) ?_
  refine x_get C h (pc := 41) xf_X8_50 0 rfl (v := .ref (a 14)) rfl dX8_layBox_41 ?_
  refine lv_iload hx hb (pc := 44) dX8_layBox_44 (lv_at hl 1 rfl) ?_
  refine x_iconst C (pc := 46) dX8_layBox_46 ?_
  obtain ⟨g_3, hf⟩ := og_some hf
  obtain ⟨M_line_4, eM_line_4, hf⟩ := ol_some hf
  refine x_iast C h (pc := 47) (ws' := [((a 0), oM a M_edits M_typed M_readRows M_readColumns M_top M_bottom M_left M_right M_panes), ((a 1), aI cI 151 M_now), ((a 5), aI cI 49 q_2.2.1), ((a 6), aI cI 49 M_pane), ((a 7), aI cI 49 q_2.2.2.1), ((a 9), aI cZ 49 q_2.2.2.2), ((a 12), aI cI 2401 M_pieces), ((a 13), aI cI 2401 M_leads), ((a 14), aI cI 2401 M_line_4)]) 8 0 rfl rfl (Nat.le_of_ble_eq_true rfl) g_3 eM_line_4 rfl dX8_layBox_47 (fun H locs h => ?_)
  refine lv_aload_n hx hb (pc := 48) dX8_layBox_48 rfl (lv_at hl 6 rfl) ?_
  refine x_get C h (pc := 49) xf_X8_44 0 rfl (v := .ref (a 12)) rfl dX8_layBox_49 ?_
  refine lv_iload hx hb (pc := 52) dX8_layBox_52 (lv_at hl 1 rfl) ?_
  refine lv_iload hx hb (pc := 54) dX8_layBox_54 (lv_at hl 0 rfl) ?_
  obtain ⟨M_pieces_5, eM_pieces_5, hf⟩ := ol_some hf
  refine x_iast C h (pc := 56) (ws' := [((a 0), oM a M_edits M_typed M_readRows M_readColumns M_top M_bottom M_left M_right M_panes), ((a 1), aI cI 151 M_now), ((a 5), aI cI 49 q_2.2.1), ((a 6), aI cI 49 M_pane), ((a 7), aI cI 49 q_2.2.2.1), ((a 9), aI cZ 49 q_2.2.2.2), ((a 12), aI cI 2401 M_pieces_5), ((a 13), aI cI 2401 M_leads), ((a 14), aI cI 2401 M_line_4)]) 6 0 rfl rfl (Nat.le_of_ble_eq_true rfl) g_3 eM_pieces_5 rfl dX8_layBox_56 (fun H locs h => ?_)
  refine lv_aload_n hx hb (pc := 57) dX8_layBox_57 rfl (lv_at hl 6 rfl) ?_
  refine x_get C h (pc := 58) xf_X8_47 0 rfl (v := .ref (a 13)) rfl dX8_layBox_58 ?_
  refine lv_iload hx hb (pc := 61) dX8_layBox_61 (lv_at hl 1 rfl) ?_
  refine x_iconst C (pc := 63) dX8_layBox_63 ?_
  obtain ⟨M_leads_6, eM_leads_6, hf⟩ := ol_some hf
  refine x_iast C h (pc := 64) (ws' := [((a 0), oM a M_edits M_typed M_readRows M_readColumns M_top M_bottom M_left M_right M_panes), ((a 1), aI cI 151 M_now), ((a 5), aI cI 49 q_2.2.1), ((a 6), aI cI 49 M_pane), ((a 7), aI cI 49 q_2.2.2.1), ((a 9), aI cZ 49 q_2.2.2.2), ((a 12), aI cI 2401 M_pieces_5), ((a 13), aI cI 2401 M_leads_6), ((a 14), aI cI 2401 M_line_4)]) 7 0 rfl rfl (Nat.le_of_ble_eq_true rfl) g_3 eM_leads_6 rfl dX8_layBox_64 (fun H locs h => ?_)
  refine lv_iload hx hb (pc := 65) dX8_layBox_65 (lv_at hl 0 rfl) ?_
  refine x_iconst C (pc := 67) dX8_layBox_67 ?_
  obtain ⟨g_7, hf⟩ := og_some hf
  refine x_icmpeq C (pc := 68) (tgt := 72) g_7 ⟨by decide, by decide⟩ dX8_layBox_68 rfl (fun hc => ?_) (fun hc => ?_)
  · have hf := oi_t hf hc
    refine lv_iload_n hx hb (pc := 72) dX8_layBox_72 rfl (lv_at hl 5 rfl) ?_
    refine lv_istore hx hb (pc := 73) (lv' := [(8, iv M_top), (7, iv q_2.1), (6, iv q_1), (5, iv M_right), (4, iv M_left), (3, iv M_bottom), (2, iv M_top), (0, .ref (a 0)), (1, iv l1)]) dX8_layBox_73 hl (Nat.le_of_ble_eq_true rfl) rfl (fun ls hl => ?_)
    exact w_mo_layBox_75 C a M_edits M_typed M_readRows M_readColumns M_top M_bottom M_left M_right M_panes M_now M_pane Res hret N l1 M_top M_bottom M_left M_right q_1 q_2.2.1 q_2.2.2.1 q_2.2.2.2 N M_top M_pieces_5 M_leads_6 M_line_4 _ _ _ (lv_sub hl [7, 8, 6, 5, 4, 3, 2, 0] rfl) h hf
  · have hf := oi_f hf hc
    have e9 := Option.some.inj hf
    subst e9
    exact hret _ _ _ _ dX8_layBox_71 h
abbrev rm_mo_layPlan : Room := { frames := 7, cells := 0, slots := 0, locals := 177 }
set_option maxHeartbeats 4000000 in
set_option maxRecDepth 100000 in
theorem w_mo_layPlan_161 {p : Program} {l : Launch} {e : Env} {s : State} {m : MethodId} {args : Array Value} {below : List Frame} {meth : Method} {c : Code} {Q : State → Prop} {D : va_G} {cI cJ cZ cO : ClassId} {A : Nat → Prop} {H0 : Heap} {w0 : Cond} (C : XC p s m args c cX8_layPlan 10 RX8 w0 D (xT cI cJ cZ cO)) (a : Nat → Nat) (M_edits : Int) (M_typed : Int) (M_readRows : Int) (M_readColumns : Int) (M_panes : Int) (M_now : Int → Int) (M_pane : Int → Int) (Res : Int × Int × Int × Int × Int × (Int → Int) × (Int → Int) × (Int → Int) × (Int → Int) × (Int → Int) × (Int → Int)) (hret : XRI p l e rm_mo_layPlan s m args below meth c cX8_layPlan D A H0 Q Res.1 [((a 0), oM a M_edits M_typed M_readRows M_readColumns Res.2.1 Res.2.2.1 Res.2.2.2.1 Res.2.2.2.2.1 M_panes), ((a 1), aI cI 151 M_now), ((a 5), aI cI 49 Res.2.2.2.2.2.1), ((a 6), aI cI 49 M_pane), ((a 7), aI cI 49 Res.2.2.2.2.2.2.1), ((a 9), aI cZ 49 Res.2.2.2.2.2.2.2.1), ((a 12), aI cI 2401 Res.2.2.2.2.2.2.2.2.1), ((a 13), aI cI 2401 Res.2.2.2.2.2.2.2.2.2.1), ((a 14), aI cI 2401 Res.2.2.2.2.2.2.2.2.2.2)]) (N : Nat) (l1 : Int) (l2 : Int) (l3 : Int) (l4 : Int) (l5 : Int) (l6 : Int) (l7 : Int) (l8 : Int) (k124 : Int → Int → Int → Int → Int → (Int → Int) → (Int → Int) → (Int → Int) → (Int → Int) → (Int → Int) → (Int → Int) → Option (Int × Int × Int × Int × Int × (Int → Int) × (Int → Int) × (Int → Int) × (Int → Int) × (Int → Int) × (Int → Int))) (hk124 : ∀ (l6' : Int) (M_top' : Int) (M_bottom' : Int) (M_left' : Int) (M_right' : Int) (M_queue' : Int → Int) (M_fragment' : Int → Int) (M_seen' : Int → Int) (M_pieces' : Int → Int) (M_leads' : Int → Int) (M_line' : Int → Int) (ls : Array Slot) (H : Heap) (locs : List Loc), lv_has ls 10 [(0, .ref (a 0)), (1, iv l1), (2, iv l2), (3, iv l3), (4, iv l4), (5, iv l5), (6, iv l6')] → XH D A H0 [((a 0), oM a M_edits M_typed M_readRows M_readColumns M_top' M_bottom' M_left' M_right' M_panes), ((a 1), aI cI 151 M_now), ((a 5), aI cI 49 M_queue'), ((a 6), aI cI 49 M_pane), ((a 7), aI cI 49 M_fragment'), ((a 9), aI cZ 49 M_seen'), ((a 12), aI cI 2401 M_pieces'), ((a 13), aI cI 2401 M_leads'), ((a 14), aI cI 2401 M_line')] H locs → k124 l6' M_top' M_bottom' M_left' M_right' M_queue' M_fragment' M_seen' M_pieces' M_leads' M_line' = some Res → W p l e rm_mo_layPlan s m args below meth c H locs 0 0 Q (F0 m 124 ls [])) (k135 : Int → Int → Int → Int → Int → (Int → Int) → (Int → Int) → (Int → Int) → (Int → Int) → (Int → Int) → (Int → Int) → Option (Int × Int × Int × Int × Int × (Int → Int) × (Int → Int) × (Int → Int) × (Int → Int) × (Int → Int) × (Int → Int))) (hk135 : ∀ (l7' : Int) (M_top' : Int) (M_bottom' : Int) (M_left' : Int) (M_right' : Int) (M_queue' : Int → Int) (M_fragment' : Int → Int) (M_seen' : Int → Int) (M_pieces' : Int → Int) (M_leads' : Int → Int) (M_line' : Int → Int) (ls : Array Slot) (H : Heap) (locs : List Loc), lv_has ls 10 [(0, .ref (a 0)), (1, iv l1), (2, iv l2), (3, iv l3), (4, iv l4), (5, iv l5), (6, iv l6), (7, iv l7')] → XH D A H0 [((a 0), oM a M_edits M_typed M_readRows M_readColumns M_top' M_bottom' M_left' M_right' M_panes), ((a 1), aI cI 151 M_now), ((a 5), aI cI 49 M_queue'), ((a 6), aI cI 49 M_pane), ((a 7), aI cI 49 M_fragment'), ((a 9), aI cZ 49 M_seen'), ((a 12), aI cI 2401 M_pieces'), ((a 13), aI cI 2401 M_leads'), ((a 14), aI cI 2401 M_line')] H locs → k135 l7' M_top' M_bottom' M_left' M_right' M_queue' M_fragment' M_seen' M_pieces' M_leads' M_line' = some Res → W p l e rm_mo_layPlan s m args below meth c H locs 0 0 Q (F0 m 135 ls [])) (k148 : Int → Int → Int → Int → Int → (Int → Int) → (Int → Int) → (Int → Int) → (Int → Int) → (Int → Int) → (Int → Int) → Option (Int × Int × Int × Int × Int × (Int → Int) × (Int → Int) × (Int → Int) × (Int → Int) × (Int → Int) × (Int → Int))) (hk148 : ∀ (l8' : Int) (M_top' : Int) (M_bottom' : Int) (M_left' : Int) (M_right' : Int) (M_queue' : Int → Int) (M_fragment' : Int → Int) (M_seen' : Int → Int) (M_pieces' : Int → Int) (M_leads' : Int → Int) (M_line' : Int → Int) (ls : Array Slot) (H : Heap) (locs : List Loc), lv_has ls 10 [(0, .ref (a 0)), (1, iv l1), (2, iv l2), (3, iv l3), (4, iv l4), (5, iv l5), (6, iv l6), (7, iv l7), (8, iv l8')] → XH D A H0 [((a 0), oM a M_edits M_typed M_readRows M_readColumns M_top' M_bottom' M_left' M_right' M_panes), ((a 1), aI cI 151 M_now), ((a 5), aI cI 49 M_queue'), ((a 6), aI cI 49 M_pane), ((a 7), aI cI 49 M_fragment'), ((a 9), aI cZ 49 M_seen'), ((a 12), aI cI 2401 M_pieces'), ((a 13), aI cI 2401 M_leads'), ((a 14), aI cI 2401 M_line')] H locs → k148 l8' M_top' M_bottom' M_left' M_right' M_queue' M_fragment' M_seen' M_pieces' M_leads' M_line' = some Res → W p l e rm_mo_layPlan s m args below meth c H locs 0 0 Q (F0 m 148 ls [])) : ∀ (n : Nat) (l9 : Int) (M_top : Int) (M_bottom : Int) (M_left : Int) (M_right : Int) (M_queue : Int → Int) (M_fragment : Int → Int) (M_seen : Int → Int) (M_pieces : Int → Int) (M_leads : Int → Int) (M_line : Int → Int) (ls : Array Slot) (H : Heap) (locs : List Loc), lv_has ls 10 [(0, .ref (a 0)), (1, iv l1), (2, iv l2), (3, iv l3), (4, iv l4), (5, iv l5), (6, iv l6), (7, iv l7), (8, iv l8), (9, iv l9)] → XH D A H0 [((a 0), oM a M_edits M_typed M_readRows M_readColumns M_top M_bottom M_left M_right M_panes), ((a 1), aI cI 151 M_now), ((a 5), aI cI 49 M_queue), ((a 6), aI cI 49 M_pane), ((a 7), aI cI 49 M_fragment), ((a 9), aI cZ 49 M_seen), ((a 12), aI cI 2401 M_pieces), ((a 13), aI cI 2401 M_leads), ((a 14), aI cI 2401 M_line)] H locs → f_mo_layPlan_161 N l1 l2 l3 l4 l5 l6 l7 l8 M_now M_pane k124 k135 k148 n l9 M_top M_bottom M_left M_right M_queue M_fragment M_seen M_pieces M_leads M_line = some Res → W p l e rm_mo_layPlan s m args below meth c H locs 0 0 Q (F0 m 161 ls []) := by
  have hx := C.1.1
  have hb := C.1.2.1
  intro n
  induction n with
  | zero => intro l9 M_top M_bottom M_left M_right M_queue M_fragment M_seen M_pieces M_leads M_line ls H locs hl h hf; cases hf
  | succ n ih =>
    intro l9 M_top M_bottom M_left M_right M_queue M_fragment M_seen M_pieces M_leads M_line ls H locs hl h hf
    rw [f_mo_layPlan_161.eq_2] at hf
    refine lv_iload hx hb (pc := 161) dX8_layPlan_161 (lv_at hl 9 rfl) ?_
    refine lv_iload hx hb (pc := 163) dX8_layPlan_163 (lv_at hl 7 rfl) ?_
    refine x_iadd C (pc := 165) dX8_layPlan_165 ?_
    refine lv_iload hx hb (pc := 166) dX8_layPlan_166 (lv_at hl 5 rfl) ?_
    obtain ⟨g_69, hf⟩ := og_some hf
    obtain ⟨g_70, hf⟩ := og_some hf
    refine x_icmpgt C (pc := 168) (tgt := 212) g_69 g_70 dX8_layPlan_168 rfl (fun hc => ?_) (fun hc => ?_)
    · have hf := oi_t hf hc
      obtain ⟨l8_71, el8_71, hf⟩ := ol_some hf
      refine x_iinc C (pc := 212) (k := 8) (lw' := [(8, iv l8_71), (0, .ref (a 0)), (1, iv l1), (2, iv l2), (3, iv l3), (4, iv l4), (5, iv l5), (6, iv l6), (7, iv l7), (9, iv l9)]) dX8_layPlan_212 hl rfl el8_71 (Nat.le_of_ble_eq_true rfl) rfl (fun ls hl => ?_)
      refine lv_goto hx hb (pc := 215) (tgt := 148) dX8_layPlan_215 rfl ?_
      exact hk148 l8_71 M_top M_bottom M_left M_right M_queue M_fragment M_seen M_pieces M_leads M_line _ _ _ (lv_sub hl [1, 2, 3, 4, 5, 6, 7, 8, 0] rfl) h hf
    · have hf := oi_f hf hc
      refine lv_aload_n hx hb (pc := 171) dX8_layPlan_171 rfl (lv_at hl 0 rfl) ?_
      refine lv_iload hx hb (pc := 172) dX8_layPlan_172 (lv_at hl 8 rfl) ?_
      refine x_puti C h (pc := 174) (ws' := [((a 0), oM a M_edits M_typed M_readRows M_readColumns l8 M_bottom M_left M_right M_panes), ((a 1), aI cI 151 M_now), ((a 5), aI cI 49 M_queue), ((a 6), aI cI 49 M_pane), ((a 7), aI cI 49 M_fragment), ((a 9), aI cZ 49 M_seen), ((a 12), aI cI 2401 M_pieces), ((a 13), aI cI 2401 M_leads), ((a 14), aI cI 2401 M_line)]) xf_X8_125 xp_X8 rfl 0 rfl rfl (Nat.le_of_ble_eq_true rfl) rfl dX8_layPlan_174 (fun H locs h => ?_)
      refine lv_aload_n hx hb (pc := 177) dX8_layPlan_177 rfl (lv_at hl 0 rfl) ?_
      refine lv_iload hx hb (pc := 178) dX8_layPlan_178 (lv_at hl 8 rfl) ?_
      refine lv_iload hx hb (pc := 180) dX8_layPlan_180 (lv_at hl 6 rfl) ?_
      refine x_iadd C (pc := 182) dX8_layPlan_182 ?_
      obtain ⟨M_bottom_72, eM_bottom_72, hf⟩ := ol_some hf
      refine x_topi eM_bottom_72 ?_
      refine x_puti C h (pc := 183) (ws' := [((a 0), oM a M_edits M_typed M_readRows M_readColumns l8 M_bottom_72 M_left M_right M_panes), ((a 1), aI cI 151 M_now), ((a 5), aI cI 49 M_queue), ((a 6), aI cI 49 M_pane), ((a 7), aI cI 49 M_fragment), ((a 9), aI cZ 49 M_seen), ((a 12), aI cI 2401 M_pieces), ((a 13), aI cI 2401 M_leads), ((a 14), aI cI 2401 M_line)]) xf_X8_119 xp_X8 rfl 0 rfl rfl (Nat.le_of_ble_eq_true rfl) rfl dX8_layPlan_183 (fun H locs h => ?_)
      refine lv_aload_n hx hb (pc := 186) dX8_layPlan_186 rfl (lv_at hl 0 rfl) ?_
      refine lv_iload hx hb (pc := 187) dX8_layPlan_187 (lv_at hl 9 rfl) ?_
      refine x_puti C h (pc := 189) (ws' := [((a 0), oM a M_edits M_typed M_readRows M_readColumns l8 M_bottom_72 l9 M_right M_panes), ((a 1), aI cI 151 M_now), ((a 5), aI cI 49 M_queue), ((a 6), aI cI 49 M_pane), ((a 7), aI cI 49 M_fragment), ((a 9), aI cZ 49 M_seen), ((a 12), aI cI 2401 M_pieces), ((a 13), aI cI 2401 M_leads), ((a 14), aI cI 2401 M_line)]) xf_X8_122 xp_X8 rfl 0 rfl rfl (Nat.le_of_ble_eq_true rfl) rfl dX8_layPlan_189 (fun H locs h => ?_)
      refine lv_aload_n hx hb (pc := 192) dX8_layPlan_192 rfl (lv_at hl 0 rfl) ?_
      refine lv_iload hx hb (pc := 193) dX8_layPlan_193 (lv_at hl 9 rfl) ?_
      refine lv_iload hx hb (pc := 195) dX8_layPlan_195 (lv_at hl 7 rfl) ?_
      refine x_iadd C (pc := 197) dX8_layPlan_197 ?_
      obtain ⟨M_right_73, eM_right_73, hf⟩ := ol_some hf
      refine x_topi eM_right_73 ?_
      refine x_puti C h (pc := 198) (ws' := [((a 0), oM a M_edits M_typed M_readRows M_readColumns l8 M_bottom_72 l9 M_right_73 M_panes), ((a 1), aI cI 151 M_now), ((a 5), aI cI 49 M_queue), ((a 6), aI cI 49 M_pane), ((a 7), aI cI 49 M_fragment), ((a 9), aI cZ 49 M_seen), ((a 12), aI cI 2401 M_pieces), ((a 13), aI cI 2401 M_leads), ((a 14), aI cI 2401 M_line)]) xf_X8_116 xp_X8 rfl 0 rfl rfl (Nat.le_of_ble_eq_true rfl) rfl dX8_layPlan_198 (fun H locs h => ?_)
      refine lv_aload_n hx hb (pc := 201) dX8_layPlan_201 rfl (lv_at hl 0 rfl) ?_
      refine lv_iload_n hx hb (pc := 202) dX8_layPlan_202 rfl (lv_at hl 1 rfl) ?_
      obtain ⟨q_74, hq_74, hf⟩ := ob_some hf
      refine x_callVv C h (pc := 203) hl (c_mo_layBox l D cI cJ cZ cO a M_edits M_typed M_readRows M_readColumns l8 M_bottom_72 l9 M_right_73 M_panes M_now M_queue M_pane M_fragment M_seen M_pieces M_leads M_line l1 N q_74 hq_74) xv_X8_layBox lk_X8_188 ⟨(Nat.le_of_ble_eq_true rfl), (Nat.le_of_ble_eq_true rfl)⟩ rfl [0, 1, 2, 3, 4, 5, 6, 7, 8] [] (nw := 9) (wr := []) (as := [(a 0), (a 1), (a 5), (a 6), (a 7), (a 9), (a 12), (a 13), (a 14)]) (ws' := [((a 0), oM a M_edits M_typed M_readRows M_readColumns l8 M_bottom_72 l9 M_right_73 M_panes), ((a 1), aI cI 151 M_now), ((a 5), aI cI 49 q_74.1), ((a 6), aI cI 49 M_pane), ((a 7), aI cI 49 q_74.2.1), ((a 9), aI cZ 49 q_74.2.2.1), ((a 12), aI cI 2401 q_74.2.2.2.1), ((a 13), aI cI 2401 q_74.2.2.2.2.1), ((a 14), aI cI 2401 q_74.2.2.2.2.2)]) rfl rfl rfl rfl rfl rfl rfl rfl rfl 0 rfl rfl rfl rfl (Nat.le_of_ble_eq_true rfl) dX8_layPlan_203 (fun H locs h => ?_)
      obtain ⟨l9_75, el9_75, hf⟩ := ol_some hf
      refine x_iinc C (pc := 206) (k := 9) (lw' := [(9, iv l9_75), (0, .ref (a 0)), (1, iv l1), (2, iv l2), (3, iv l3), (4, iv l4), (5, iv l5), (6, iv l6), (7, iv l7), (8, iv l8)]) dX8_layPlan_206 hl rfl el9_75 (Nat.le_of_ble_eq_true rfl) rfl (fun ls hl => ?_)
      refine lv_goto hx hb (pc := 209) (tgt := 161) dX8_layPlan_209 rfl ?_
      exact ih l9_75 l8 M_bottom_72 l9 M_right_73 q_74.1 q_74.2.1 q_74.2.2.1 q_74.2.2.2.1 q_74.2.2.2.2.1 q_74.2.2.2.2.2 _ _ _ (lv_sub hl [1, 2, 3, 4, 5, 6, 7, 8, 9, 0] rfl) h hf
set_option maxHeartbeats 4000000 in
set_option maxRecDepth 100000 in
theorem w_mo_layPlan_148 {p : Program} {l : Launch} {e : Env} {s : State} {m : MethodId} {args : Array Value} {below : List Frame} {meth : Method} {c : Code} {Q : State → Prop} {D : va_G} {cI cJ cZ cO : ClassId} {A : Nat → Prop} {H0 : Heap} {w0 : Cond} (C : XC p s m args c cX8_layPlan 10 RX8 w0 D (xT cI cJ cZ cO)) (a : Nat → Nat) (M_edits : Int) (M_typed : Int) (M_readRows : Int) (M_readColumns : Int) (M_panes : Int) (M_now : Int → Int) (M_pane : Int → Int) (Res : Int × Int × Int × Int × Int × (Int → Int) × (Int → Int) × (Int → Int) × (Int → Int) × (Int → Int) × (Int → Int)) (hret : XRI p l e rm_mo_layPlan s m args below meth c cX8_layPlan D A H0 Q Res.1 [((a 0), oM a M_edits M_typed M_readRows M_readColumns Res.2.1 Res.2.2.1 Res.2.2.2.1 Res.2.2.2.2.1 M_panes), ((a 1), aI cI 151 M_now), ((a 5), aI cI 49 Res.2.2.2.2.2.1), ((a 6), aI cI 49 M_pane), ((a 7), aI cI 49 Res.2.2.2.2.2.2.1), ((a 9), aI cZ 49 Res.2.2.2.2.2.2.2.1), ((a 12), aI cI 2401 Res.2.2.2.2.2.2.2.2.1), ((a 13), aI cI 2401 Res.2.2.2.2.2.2.2.2.2.1), ((a 14), aI cI 2401 Res.2.2.2.2.2.2.2.2.2.2)]) (N : Nat) (l1 : Int) (l2 : Int) (l3 : Int) (l4 : Int) (l5 : Int) (l6 : Int) (l7 : Int) (k124 : Int → Int → Int → Int → Int → (Int → Int) → (Int → Int) → (Int → Int) → (Int → Int) → (Int → Int) → (Int → Int) → Option (Int × Int × Int × Int × Int × (Int → Int) × (Int → Int) × (Int → Int) × (Int → Int) × (Int → Int) × (Int → Int))) (hk124 : ∀ (l6' : Int) (M_top' : Int) (M_bottom' : Int) (M_left' : Int) (M_right' : Int) (M_queue' : Int → Int) (M_fragment' : Int → Int) (M_seen' : Int → Int) (M_pieces' : Int → Int) (M_leads' : Int → Int) (M_line' : Int → Int) (ls : Array Slot) (H : Heap) (locs : List Loc), lv_has ls 10 [(0, .ref (a 0)), (1, iv l1), (2, iv l2), (3, iv l3), (4, iv l4), (5, iv l5), (6, iv l6')] → XH D A H0 [((a 0), oM a M_edits M_typed M_readRows M_readColumns M_top' M_bottom' M_left' M_right' M_panes), ((a 1), aI cI 151 M_now), ((a 5), aI cI 49 M_queue'), ((a 6), aI cI 49 M_pane), ((a 7), aI cI 49 M_fragment'), ((a 9), aI cZ 49 M_seen'), ((a 12), aI cI 2401 M_pieces'), ((a 13), aI cI 2401 M_leads'), ((a 14), aI cI 2401 M_line')] H locs → k124 l6' M_top' M_bottom' M_left' M_right' M_queue' M_fragment' M_seen' M_pieces' M_leads' M_line' = some Res → W p l e rm_mo_layPlan s m args below meth c H locs 0 0 Q (F0 m 124 ls [])) (k135 : Int → Int → Int → Int → Int → (Int → Int) → (Int → Int) → (Int → Int) → (Int → Int) → (Int → Int) → (Int → Int) → Option (Int × Int × Int × Int × Int × (Int → Int) × (Int → Int) × (Int → Int) × (Int → Int) × (Int → Int) × (Int → Int))) (hk135 : ∀ (l7' : Int) (M_top' : Int) (M_bottom' : Int) (M_left' : Int) (M_right' : Int) (M_queue' : Int → Int) (M_fragment' : Int → Int) (M_seen' : Int → Int) (M_pieces' : Int → Int) (M_leads' : Int → Int) (M_line' : Int → Int) (ls : Array Slot) (H : Heap) (locs : List Loc), lv_has ls 10 [(0, .ref (a 0)), (1, iv l1), (2, iv l2), (3, iv l3), (4, iv l4), (5, iv l5), (6, iv l6), (7, iv l7')] → XH D A H0 [((a 0), oM a M_edits M_typed M_readRows M_readColumns M_top' M_bottom' M_left' M_right' M_panes), ((a 1), aI cI 151 M_now), ((a 5), aI cI 49 M_queue'), ((a 6), aI cI 49 M_pane), ((a 7), aI cI 49 M_fragment'), ((a 9), aI cZ 49 M_seen'), ((a 12), aI cI 2401 M_pieces'), ((a 13), aI cI 2401 M_leads'), ((a 14), aI cI 2401 M_line')] H locs → k135 l7' M_top' M_bottom' M_left' M_right' M_queue' M_fragment' M_seen' M_pieces' M_leads' M_line' = some Res → W p l e rm_mo_layPlan s m args below meth c H locs 0 0 Q (F0 m 135 ls [])) : ∀ (n : Nat) (l8 : Int) (M_top : Int) (M_bottom : Int) (M_left : Int) (M_right : Int) (M_queue : Int → Int) (M_fragment : Int → Int) (M_seen : Int → Int) (M_pieces : Int → Int) (M_leads : Int → Int) (M_line : Int → Int) (ls : Array Slot) (H : Heap) (locs : List Loc), lv_has ls 10 [(0, .ref (a 0)), (1, iv l1), (2, iv l2), (3, iv l3), (4, iv l4), (5, iv l5), (6, iv l6), (7, iv l7), (8, iv l8)] → XH D A H0 [((a 0), oM a M_edits M_typed M_readRows M_readColumns M_top M_bottom M_left M_right M_panes), ((a 1), aI cI 151 M_now), ((a 5), aI cI 49 M_queue), ((a 6), aI cI 49 M_pane), ((a 7), aI cI 49 M_fragment), ((a 9), aI cZ 49 M_seen), ((a 12), aI cI 2401 M_pieces), ((a 13), aI cI 2401 M_leads), ((a 14), aI cI 2401 M_line)] H locs → f_mo_layPlan_148 N l1 l2 l3 l4 l5 l6 l7 M_now M_pane k124 k135 n l8 M_top M_bottom M_left M_right M_queue M_fragment M_seen M_pieces M_leads M_line = some Res → W p l e rm_mo_layPlan s m args below meth c H locs 0 0 Q (F0 m 148 ls []) := by
  have hx := C.1.1
  have hb := C.1.2.1
  intro n
  induction n with
  | zero => intro l8 M_top M_bottom M_left M_right M_queue M_fragment M_seen M_pieces M_leads M_line ls H locs hl h hf; cases hf
  | succ n ih =>
    intro l8 M_top M_bottom M_left M_right M_queue M_fragment M_seen M_pieces M_leads M_line ls H locs hl h hf
    rw [f_mo_layPlan_148.eq_2] at hf
    refine lv_iload hx hb (pc := 148) dX8_layPlan_148 (lv_at hl 8 rfl) ?_
    refine lv_iload hx hb (pc := 150) dX8_layPlan_150 (lv_at hl 6 rfl) ?_
    refine x_iadd C (pc := 152) dX8_layPlan_152 ?_
    refine lv_iload_n hx hb (pc := 153) dX8_layPlan_153 rfl (lv_at hl 3 rfl) ?_
    obtain ⟨g_66, hf⟩ := og_some hf
    obtain ⟨g_67, hf⟩ := og_some hf
    refine x_icmpgt C (pc := 154) (tgt := 218) g_66 g_67 dX8_layPlan_154 rfl (fun hc => ?_) (fun hc => ?_)
    · have hf := oi_t hf hc
      obtain ⟨l7_68, el7_68, hf⟩ := ol_some hf
      refine x_iinc C (pc := 218) (k := 7) (lw' := [(7, iv l7_68), (0, .ref (a 0)), (1, iv l1), (2, iv l2), (3, iv l3), (4, iv l4), (5, iv l5), (6, iv l6), (8, iv l8)]) dX8_layPlan_218 hl rfl el7_68 (Nat.le_of_ble_eq_true rfl) rfl (fun ls hl => ?_)
      refine lv_goto hx hb (pc := 221) (tgt := 135) dX8_layPlan_221 rfl ?_
      exact hk135 l7_68 M_top M_bottom M_left M_right M_queue M_fragment M_seen M_pieces M_leads M_line _ _ _ (lv_sub hl [1, 2, 3, 4, 5, 6, 7, 0] rfl) h hf
    · have hf := oi_f hf hc
      refine lv_iload hx hb (pc := 157) dX8_layPlan_157 (lv_at hl 4 rfl) ?_
      refine lv_istore hx hb (pc := 159) (lv' := [(9, iv l4), (0, .ref (a 0)), (1, iv l1), (2, iv l2), (3, iv l3), (4, iv l4), (5, iv l5), (6, iv l6), (7, iv l7), (8, iv l8)]) dX8_layPlan_159 hl (Nat.le_of_ble_eq_true rfl) rfl (fun ls hl => ?_)
      exact w_mo_layPlan_161 C a M_edits M_typed M_readRows M_readColumns M_panes M_now M_pane Res hret N l1 l2 l3 l4 l5 l6 l7 l8 k124 hk124 k135 hk135 (f_mo_layPlan_148 N l1 l2 l3 l4 l5 l6 l7 M_now M_pane k124 k135 n) ih N l4 M_top M_bottom M_left M_right M_queue M_fragment M_seen M_pieces M_leads M_line _ _ _ (lv_sub hl [1, 2, 3, 4, 5, 6, 7, 8, 9, 0] rfl) h hf
set_option maxHeartbeats 4000000 in
set_option maxRecDepth 100000 in
theorem w_mo_layPlan_135 {p : Program} {l : Launch} {e : Env} {s : State} {m : MethodId} {args : Array Value} {below : List Frame} {meth : Method} {c : Code} {Q : State → Prop} {D : va_G} {cI cJ cZ cO : ClassId} {A : Nat → Prop} {H0 : Heap} {w0 : Cond} (C : XC p s m args c cX8_layPlan 10 RX8 w0 D (xT cI cJ cZ cO)) (a : Nat → Nat) (M_edits : Int) (M_typed : Int) (M_readRows : Int) (M_readColumns : Int) (M_panes : Int) (M_now : Int → Int) (M_pane : Int → Int) (Res : Int × Int × Int × Int × Int × (Int → Int) × (Int → Int) × (Int → Int) × (Int → Int) × (Int → Int) × (Int → Int)) (hret : XRI p l e rm_mo_layPlan s m args below meth c cX8_layPlan D A H0 Q Res.1 [((a 0), oM a M_edits M_typed M_readRows M_readColumns Res.2.1 Res.2.2.1 Res.2.2.2.1 Res.2.2.2.2.1 M_panes), ((a 1), aI cI 151 M_now), ((a 5), aI cI 49 Res.2.2.2.2.2.1), ((a 6), aI cI 49 M_pane), ((a 7), aI cI 49 Res.2.2.2.2.2.2.1), ((a 9), aI cZ 49 Res.2.2.2.2.2.2.2.1), ((a 12), aI cI 2401 Res.2.2.2.2.2.2.2.2.1), ((a 13), aI cI 2401 Res.2.2.2.2.2.2.2.2.2.1), ((a 14), aI cI 2401 Res.2.2.2.2.2.2.2.2.2.2)]) (N : Nat) (l1 : Int) (l2 : Int) (l3 : Int) (l4 : Int) (l5 : Int) (l6 : Int) (k124 : Int → Int → Int → Int → Int → (Int → Int) → (Int → Int) → (Int → Int) → (Int → Int) → (Int → Int) → (Int → Int) → Option (Int × Int × Int × Int × Int × (Int → Int) × (Int → Int) × (Int → Int) × (Int → Int) × (Int → Int) × (Int → Int))) (hk124 : ∀ (l6' : Int) (M_top' : Int) (M_bottom' : Int) (M_left' : Int) (M_right' : Int) (M_queue' : Int → Int) (M_fragment' : Int → Int) (M_seen' : Int → Int) (M_pieces' : Int → Int) (M_leads' : Int → Int) (M_line' : Int → Int) (ls : Array Slot) (H : Heap) (locs : List Loc), lv_has ls 10 [(0, .ref (a 0)), (1, iv l1), (2, iv l2), (3, iv l3), (4, iv l4), (5, iv l5), (6, iv l6')] → XH D A H0 [((a 0), oM a M_edits M_typed M_readRows M_readColumns M_top' M_bottom' M_left' M_right' M_panes), ((a 1), aI cI 151 M_now), ((a 5), aI cI 49 M_queue'), ((a 6), aI cI 49 M_pane), ((a 7), aI cI 49 M_fragment'), ((a 9), aI cZ 49 M_seen'), ((a 12), aI cI 2401 M_pieces'), ((a 13), aI cI 2401 M_leads'), ((a 14), aI cI 2401 M_line')] H locs → k124 l6' M_top' M_bottom' M_left' M_right' M_queue' M_fragment' M_seen' M_pieces' M_leads' M_line' = some Res → W p l e rm_mo_layPlan s m args below meth c H locs 0 0 Q (F0 m 124 ls [])) : ∀ (n : Nat) (l7 : Int) (M_top : Int) (M_bottom : Int) (M_left : Int) (M_right : Int) (M_queue : Int → Int) (M_fragment : Int → Int) (M_seen : Int → Int) (M_pieces : Int → Int) (M_leads : Int → Int) (M_line : Int → Int) (ls : Array Slot) (H : Heap) (locs : List Loc), lv_has ls 10 [(0, .ref (a 0)), (1, iv l1), (2, iv l2), (3, iv l3), (4, iv l4), (5, iv l5), (6, iv l6), (7, iv l7)] → XH D A H0 [((a 0), oM a M_edits M_typed M_readRows M_readColumns M_top M_bottom M_left M_right M_panes), ((a 1), aI cI 151 M_now), ((a 5), aI cI 49 M_queue), ((a 6), aI cI 49 M_pane), ((a 7), aI cI 49 M_fragment), ((a 9), aI cZ 49 M_seen), ((a 12), aI cI 2401 M_pieces), ((a 13), aI cI 2401 M_leads), ((a 14), aI cI 2401 M_line)] H locs → f_mo_layPlan_135 N l1 l2 l3 l4 l5 l6 M_now M_pane k124 n l7 M_top M_bottom M_left M_right M_queue M_fragment M_seen M_pieces M_leads M_line = some Res → W p l e rm_mo_layPlan s m args below meth c H locs 0 0 Q (F0 m 135 ls []) := by
  have hx := C.1.1
  have hb := C.1.2.1
  intro n
  induction n with
  | zero => intro l7 M_top M_bottom M_left M_right M_queue M_fragment M_seen M_pieces M_leads M_line ls H locs hl h hf; cases hf
  | succ n ih =>
    intro l7 M_top M_bottom M_left M_right M_queue M_fragment M_seen M_pieces M_leads M_line ls H locs hl h hf
    rw [f_mo_layPlan_135.eq_2] at hf
    refine lv_iload hx hb (pc := 135) dX8_layPlan_135 (lv_at hl 7 rfl) ?_
    refine lv_iload hx hb (pc := 137) dX8_layPlan_137 (lv_at hl 5 rfl) ?_
    refine lv_iload hx hb (pc := 139) dX8_layPlan_139 (lv_at hl 4 rfl) ?_
    refine x_isub C (pc := 141) dX8_layPlan_141 ?_
    obtain ⟨g_63, hf⟩ := og_some hf
    obtain ⟨g_64, hf⟩ := og_some hf
    refine x_icmpgt C (pc := 142) (tgt := 224) g_63 g_64 dX8_layPlan_142 rfl (fun hc => ?_) (fun hc => ?_)
    · have hf := oi_t hf hc
      obtain ⟨l6_65, el6_65, hf⟩ := ol_some hf
      refine x_iinc C (pc := 224) (k := 6) (lw' := [(6, iv l6_65), (0, .ref (a 0)), (1, iv l1), (2, iv l2), (3, iv l3), (4, iv l4), (5, iv l5), (7, iv l7)]) dX8_layPlan_224 hl rfl el6_65 (Nat.le_of_ble_eq_true rfl) rfl (fun ls hl => ?_)
      refine lv_goto hx hb (pc := 227) (tgt := 124) dX8_layPlan_227 rfl ?_
      exact hk124 l6_65 M_top M_bottom M_left M_right M_queue M_fragment M_seen M_pieces M_leads M_line _ _ _ (lv_sub hl [1, 2, 3, 4, 5, 6, 0] rfl) h hf
    · have hf := oi_f hf hc
      refine lv_iload_n hx hb (pc := 145) dX8_layPlan_145 rfl (lv_at hl 2 rfl) ?_
      refine lv_istore hx hb (pc := 146) (lv' := [(8, iv l2), (0, .ref (a 0)), (1, iv l1), (2, iv l2), (3, iv l3), (4, iv l4), (5, iv l5), (6, iv l6), (7, iv l7)]) dX8_layPlan_146 hl (Nat.le_of_ble_eq_true rfl) rfl (fun ls hl => ?_)
      exact w_mo_layPlan_148 C a M_edits M_typed M_readRows M_readColumns M_panes M_now M_pane Res hret N l1 l2 l3 l4 l5 l6 l7 k124 hk124 (f_mo_layPlan_135 N l1 l2 l3 l4 l5 l6 M_now M_pane k124 n) ih N l2 M_top M_bottom M_left M_right M_queue M_fragment M_seen M_pieces M_leads M_line _ _ _ (lv_sub hl [1, 2, 3, 4, 5, 6, 7, 8, 0] rfl) h hf
set_option maxHeartbeats 4000000 in
set_option maxRecDepth 100000 in
theorem w_mo_layPlan_124 {p : Program} {l : Launch} {e : Env} {s : State} {m : MethodId} {args : Array Value} {below : List Frame} {meth : Method} {c : Code} {Q : State → Prop} {D : va_G} {cI cJ cZ cO : ClassId} {A : Nat → Prop} {H0 : Heap} {w0 : Cond} (C : XC p s m args c cX8_layPlan 10 RX8 w0 D (xT cI cJ cZ cO)) (a : Nat → Nat) (M_edits : Int) (M_typed : Int) (M_readRows : Int) (M_readColumns : Int) (M_panes : Int) (M_now : Int → Int) (M_pane : Int → Int) (Res : Int × Int × Int × Int × Int × (Int → Int) × (Int → Int) × (Int → Int) × (Int → Int) × (Int → Int) × (Int → Int)) (hret : XRI p l e rm_mo_layPlan s m args below meth c cX8_layPlan D A H0 Q Res.1 [((a 0), oM a M_edits M_typed M_readRows M_readColumns Res.2.1 Res.2.2.1 Res.2.2.2.1 Res.2.2.2.2.1 M_panes), ((a 1), aI cI 151 M_now), ((a 5), aI cI 49 Res.2.2.2.2.2.1), ((a 6), aI cI 49 M_pane), ((a 7), aI cI 49 Res.2.2.2.2.2.2.1), ((a 9), aI cZ 49 Res.2.2.2.2.2.2.2.1), ((a 12), aI cI 2401 Res.2.2.2.2.2.2.2.2.1), ((a 13), aI cI 2401 Res.2.2.2.2.2.2.2.2.2.1), ((a 14), aI cI 2401 Res.2.2.2.2.2.2.2.2.2.2)]) (N : Nat) (l1 : Int) (l2 : Int) (l3 : Int) (l4 : Int) (l5 : Int) : ∀ (n : Nat) (l6 : Int) (M_top : Int) (M_bottom : Int) (M_left : Int) (M_right : Int) (M_queue : Int → Int) (M_fragment : Int → Int) (M_seen : Int → Int) (M_pieces : Int → Int) (M_leads : Int → Int) (M_line : Int → Int) (ls : Array Slot) (H : Heap) (locs : List Loc), lv_has ls 10 [(0, .ref (a 0)), (1, iv l1), (2, iv l2), (3, iv l3), (4, iv l4), (5, iv l5), (6, iv l6)] → XH D A H0 [((a 0), oM a M_edits M_typed M_readRows M_readColumns M_top M_bottom M_left M_right M_panes), ((a 1), aI cI 151 M_now), ((a 5), aI cI 49 M_queue), ((a 6), aI cI 49 M_pane), ((a 7), aI cI 49 M_fragment), ((a 9), aI cZ 49 M_seen), ((a 12), aI cI 2401 M_pieces), ((a 13), aI cI 2401 M_leads), ((a 14), aI cI 2401 M_line)] H locs → f_mo_layPlan_124 N l1 l2 l3 l4 l5 M_now M_pane n l6 M_top M_bottom M_left M_right M_queue M_fragment M_seen M_pieces M_leads M_line = some Res → W p l e rm_mo_layPlan s m args below meth c H locs 0 0 Q (F0 m 124 ls []) := by
  have hx := C.1.1
  have hb := C.1.2.1
  intro n
  induction n with
  | zero => intro l6 M_top M_bottom M_left M_right M_queue M_fragment M_seen M_pieces M_leads M_line ls H locs hl h hf; cases hf
  | succ n ih =>
    intro l6 M_top M_bottom M_left M_right M_queue M_fragment M_seen M_pieces M_leads M_line ls H locs hl h hf
    rw [f_mo_layPlan_124.eq_2] at hf
    refine lv_iload hx hb (pc := 124) dX8_layPlan_124 (lv_at hl 6 rfl) ?_
    refine lv_iload_n hx hb (pc := 126) dX8_layPlan_126 rfl (lv_at hl 3 rfl) ?_
    refine lv_iload_n hx hb (pc := 127) dX8_layPlan_127 rfl (lv_at hl 2 rfl) ?_
    refine x_isub C (pc := 128) dX8_layPlan_128 ?_
    obtain ⟨g_60, hf⟩ := og_some hf
    obtain ⟨g_61, hf⟩ := og_some hf
    refine x_icmpgt C (pc := 129) (tgt := 230) g_60 g_61 dX8_layPlan_129 rfl (fun hc => ?_) (fun hc => ?_)
    · have hf := oi_t hf hc
      refine lv_iload_n hx hb (pc := 230) dX8_layPlan_230 rfl (lv_at hl 2 rfl) ?_
      refine lv_iload_n hx hb (pc := 231) dX8_layPlan_231 rfl (lv_at hl 3 rfl) ?_
      refine lv_iload hx hb (pc := 232) dX8_layPlan_232 (lv_at hl 4 rfl) ?_
      refine lv_iload hx hb (pc := 234) dX8_layPlan_234 (lv_at hl 5 rfl) ?_
      obtain ⟨q_62, hq_62, hf⟩ := ob_some hf
      refine x_callSi C h (pc := 236) hl (c_mo_box l D cI cJ cZ cO a l2 l3 l4 l5 N q_62 hq_62) xs_X8_box lk_X8_171 ⟨(Nat.le_of_ble_eq_true rfl), (Nat.le_of_ble_eq_true rfl)⟩ rfl [] [0, 1, 2, 3, 4, 5, 6, 7, 8] (nw := 9) (wr := [((a 0), oM a M_edits M_typed M_readRows M_readColumns M_top M_bottom M_left M_right M_panes), ((a 1), aI cI 151 M_now), ((a 5), aI cI 49 M_queue), ((a 6), aI cI 49 M_pane), ((a 7), aI cI 49 M_fragment), ((a 9), aI cZ 49 M_seen), ((a 12), aI cI 2401 M_pieces), ((a 13), aI cI 2401 M_leads), ((a 14), aI cI 2401 M_line)]) (as := [(a 0), (a 1), (a 5), (a 6), (a 7), (a 9), (a 12), (a 13), (a 14)]) (ws' := [((a 0), oM a M_edits M_typed M_readRows M_readColumns M_top M_bottom M_left M_right M_panes), ((a 1), aI cI 151 M_now), ((a 5), aI cI 49 M_queue), ((a 6), aI cI 49 M_pane), ((a 7), aI cI 49 M_fragment), ((a 9), aI cZ 49 M_seen), ((a 12), aI cI 2401 M_pieces), ((a 13), aI cI 2401 M_leads), ((a 14), aI cI 2401 M_line)]) rfl rfl rfl rfl rfl rfl rfl rfl rfl rfl (Nat.le_of_ble_eq_true rfl) dX8_layPlan_236 (fun H locs h => ?_)
      have e9 := Option.some.inj hf
      subst e9
      exact hret _ _ _ _ dX8_layPlan_239 h
    · have hf := oi_f hf hc
      refine x_iconst C (pc := 132) dX8_layPlan_132 ?_
      refine lv_istore hx hb (pc := 133) (lv' := [(7, iv 0), (0, .ref (a 0)), (1, iv l1), (2, iv l2), (3, iv l3), (4, iv l4), (5, iv l5), (6, iv l6)]) dX8_layPlan_133 hl (Nat.le_of_ble_eq_true rfl) rfl (fun ls hl => ?_)
      exact w_mo_layPlan_135 C a M_edits M_typed M_readRows M_readColumns M_panes M_now M_pane Res hret N l1 l2 l3 l4 l5 l6 (f_mo_layPlan_124 N l1 l2 l3 l4 l5 M_now M_pane n) ih N 0 M_top M_bottom M_left M_right M_queue M_fragment M_seen M_pieces M_leads M_line _ _ _ (lv_sub hl [1, 2, 3, 4, 5, 6, 7, 0] rfl) h hf
set_option maxHeartbeats 4000000 in
set_option maxRecDepth 100000 in
theorem w_mo_layPlan_15 {p : Program} {l : Launch} {e : Env} {s : State} {m : MethodId} {args : Array Value} {below : List Frame} {meth : Method} {c : Code} {Q : State → Prop} {D : va_G} {cI cJ cZ cO : ClassId} {A : Nat → Prop} {H0 : Heap} {w0 : Cond} (C : XC p s m args c cX8_layPlan 10 RX8 w0 D (xT cI cJ cZ cO)) (a : Nat → Nat) (M_edits : Int) (M_typed : Int) (M_readRows : Int) (M_readColumns : Int) (M_panes : Int) (M_now : Int → Int) (M_pane : Int → Int) (Res : Int × Int × Int × Int × Int × (Int → Int) × (Int → Int) × (Int → Int) × (Int → Int) × (Int → Int) × (Int → Int)) (hret : XRI p l e rm_mo_layPlan s m args below meth c cX8_layPlan D A H0 Q Res.1 [((a 0), oM a M_edits M_typed M_readRows M_readColumns Res.2.1 Res.2.2.1 Res.2.2.2.1 Res.2.2.2.2.1 M_panes), ((a 1), aI cI 151 M_now), ((a 5), aI cI 49 Res.2.2.2.2.2.1), ((a 6), aI cI 49 M_pane), ((a 7), aI cI 49 Res.2.2.2.2.2.2.1), ((a 9), aI cZ 49 Res.2.2.2.2.2.2.2.1), ((a 12), aI cI 2401 Res.2.2.2.2.2.2.2.2.1), ((a 13), aI cI 2401 Res.2.2.2.2.2.2.2.2.2.1), ((a 14), aI cI 2401 Res.2.2.2.2.2.2.2.2.2.2)]) (N : Nat) (l1 : Int) (M_top : Int) (M_bottom : Int) (M_left : Int) (M_right : Int) (M_queue : Int → Int) (M_fragment : Int → Int) (M_seen : Int → Int) (M_pieces : Int → Int) (M_leads : Int → Int) (M_line : Int → Int) : ∀ (n : Nat) (l2 : Int) (l3 : Int) (l4 : Int) (l5 : Int) (l6 : Int) (ls : Array Slot) (H : Heap) (locs : List Loc), lv_has ls 10 [(0, .ref (a 0)), (1, iv l1), (2, iv l2), (3, iv l3), (4, iv l4), (5, iv l5), (6, iv l6)] → XH D A H0 [((a 0), oM a M_edits M_typed M_readRows M_readColumns M_top M_bottom M_left M_right M_panes), ((a 1), aI cI 151 M_now), ((a 5), aI cI 49 M_queue), ((a 6), aI cI 49 M_pane), ((a 7), aI cI 49 M_fragment), ((a 9), aI cZ 49 M_seen), ((a 12), aI cI 2401 M_pieces), ((a 13), aI cI 2401 M_leads), ((a 14), aI cI 2401 M_line)] H locs → f_mo_layPlan_15 N l1 M_top M_bottom M_left M_right M_queue M_fragment M_seen M_pieces M_leads M_line M_now M_pane n l2 l3 l4 l5 l6 = some Res → W p l e rm_mo_layPlan s m args below meth c H locs 0 0 Q (F0 m 15 ls []) := by
  have hx := C.1.1
  have hb := C.1.2.1
  intro n
  induction n with
  | zero => intro l2 l3 l4 l5 l6 ls H locs hl h hf; cases hf
  | succ n ih =>
    intro l2 l3 l4 l5 l6 ls H locs hl h hf
    rw [f_mo_layPlan_15.eq_2] at hf
    refine lv_iload hx hb (pc := 15) dX8_layPlan_15 (lv_at hl 6 rfl) ?_
    refine x_bipush C (pc := 17) dX8_layPlan_17 (by decide) ?_
    obtain ⟨g_41, hf⟩ := og_some hf
    refine x_icmpge C (pc := 19) (tgt := 121) g_41 ⟨by decide, by decide⟩ dX8_layPlan_19 rfl (fun hc => ?_) (fun hc => ?_)
    · have hf := oi_t hf hc
      refine x_iconst C (pc := 121) dX8_layPlan_121 ?_
      refine lv_istore hx hb (pc := 122) (lv' := [(6, iv 0), (0, .ref (a 0)), (1, iv l1), (2, iv l2), (3, iv l3), (4, iv l4), (5, iv l5)]) dX8_layPlan_122 hl (Nat.le_of_ble_eq_true rfl) rfl (fun ls hl => ?_)
      exact w_mo_layPlan_124 C a M_edits M_typed M_readRows M_readColumns M_panes M_now M_pane Res hret N l1 l2 l3 l4 l5 N 0 M_top M_bottom M_left M_right M_queue M_fragment M_seen M_pieces M_leads M_line _ _ _ (lv_sub hl [1, 2, 3, 4, 5, 6, 0] rfl) h hf
    · have hf := oi_f hf hc
      refine lv_aload_n hx hb (pc := 22) dX8_layPlan_22 rfl (lv_at hl 0 rfl) ?_
      refine x_get C h (pc := 23) xf_X8_25 0 rfl (v := .ref (a 6)) rfl dX8_layPlan_23 ?_
      refine lv_iload hx hb (pc := 26) dX8_layPlan_26 (lv_at hl 6 rfl) ?_
      obtain ⟨g_42, hf⟩ := og_some hf
      refine x_iald C h (pc := 28) 3 0 rfl rfl (Nat.le_of_ble_eq_true rfl) g_42 dX8_layPlan_28 ?_
      refine lv_iload_n hx hb (pc := 29) dX8_layPlan_29 rfl (lv_at hl 1 rfl) ?_
      obtain ⟨g_43, hf⟩ := og_some hf
      obtain ⟨g_44, hf⟩ := og_some hf
      refine x_icmpne C (pc := 30) (tgt := 115) g_43 g_44 dX8_layPlan_30 rfl (fun hc => ?_) (fun hc => ?_)
      · have hf := oi_f hf hc
        obtain ⟨l6_45, el6_45, hf⟩ := ol_some hf
        refine x_iinc C (pc := 115) (k := 6) (lw' := [(6, iv l6_45), (0, .ref (a 0)), (1, iv l1), (2, iv l2), (3, iv l3), (4, iv l4), (5, iv l5)]) dX8_layPlan_115 hl rfl el6_45 (Nat.le_of_ble_eq_true rfl) rfl (fun ls hl => ?_)
        refine lv_goto hx hb (pc := 118) (tgt := 15) dX8_layPlan_118 rfl ?_
        exact ih l2 l3 l4 l5 l6_45 _ _ _ (lv_sub hl [1, 2, 3, 4, 5, 6, 0] rfl) h hf
      · have hf := oi_t hf hc
        refine lv_iload hx hb (pc := 33) dX8_layPlan_33 (lv_at hl 6 rfl) ?_
        refine x_bipush C (pc := 35) dX8_layPlan_35 (by decide) ?_
        obtain ⟨g_46, hf⟩ := og_some hf
        refine x_idiv C (pc := 37) g_46 ⟨by decide, by decide⟩ dX8_layPlan_37 ?_
        refine lv_iload_n hx hb (pc := 38) dX8_layPlan_38 rfl (lv_at hl 2 rfl) ?_
        obtain ⟨g_47, hf⟩ := og_some hf
        obtain ⟨g_48, hf⟩ := og_some hf
        obtain ⟨r_49, hrr_49, hf⟩ := ob_some hf
        have Jr_49 : ∀ (ls : Array Slot) (H : Heap) (locs : List Loc), lv_has ls 10 [(0, .ref (a 0)), (1, iv l1), (3, iv l3), (4, iv l4), (5, iv l5), (6, iv l6)] → XH D A H0 [((a 0), oM a M_edits M_typed M_readRows M_readColumns M_top M_bottom M_left M_right M_panes), ((a 1), aI cI 151 M_now), ((a 5), aI cI 49 M_queue), ((a 6), aI cI 49 M_pane), ((a 7), aI cI 49 M_fragment), ((a 9), aI cZ 49 M_seen), ((a 12), aI cI 2401 M_pieces), ((a 13), aI cI 2401 M_leads), ((a 14), aI cI 2401 M_line)] H locs → W p l e rm_mo_layPlan s m args below meth c H locs 0 0 Q (F0 m 51 ls [iv r_49]) := by
          intro ls H locs hl h
          refine lv_istore_n hx hb (pc := 51) (lv' := [(2, iv r_49), (0, .ref (a 0)), (1, iv l1), (3, iv l3), (4, iv l4), (5, iv l5), (6, iv l6)]) dX8_layPlan_51 rfl hl (Nat.le_of_ble_eq_true rfl) rfl (fun ls hl => ?_)
          refine lv_iload hx hb (pc := 52) dX8_layPlan_52 (lv_at hl 6 rfl) ?_
          refine x_bipush C (pc := 54) dX8_layPlan_54 (by decide) ?_
          refine x_idiv C (pc := 56) g_46 ⟨by decide, by decide⟩ dX8_layPlan_56 ?_
          refine lv_iload_n hx hb (pc := 57) dX8_layPlan_57 rfl (lv_at hl 3 rfl) ?_
          obtain ⟨g_50, hf⟩ := og_some hf
          obtain ⟨r_51, hrr_51, hf⟩ := ob_some hf
          have Jr_51 : ∀ (ls : Array Slot) (H : Heap) (locs : List Loc), lv_has ls 10 [(0, .ref (a 0)), (1, iv l1), (2, iv r_49), (4, iv l4), (5, iv l5), (6, iv l6)] → XH D A H0 [((a 0), oM a M_edits M_typed M_readRows M_readColumns M_top M_bottom M_left M_right M_panes), ((a 1), aI cI 151 M_now), ((a 5), aI cI 49 M_queue), ((a 6), aI cI 49 M_pane), ((a 7), aI cI 49 M_fragment), ((a 9), aI cZ 49 M_seen), ((a 12), aI cI 2401 M_pieces), ((a 13), aI cI 2401 M_leads), ((a 14), aI cI 2401 M_line)] H locs → W p l e rm_mo_layPlan s m args below meth c H locs 0 0 Q (F0 m 70 ls [iv r_51]) := by
            intro ls H locs hl h
            refine lv_istore_n hx hb (pc := 70) (lv' := [(3, iv r_51), (0, .ref (a 0)), (1, iv l1), (2, iv r_49), (4, iv l4), (5, iv l5), (6, iv l6)]) dX8_layPlan_70 rfl hl (Nat.le_of_ble_eq_true rfl) rfl (fun ls hl => ?_)
            refine lv_iload hx hb (pc := 71) dX8_layPlan_71 (lv_at hl 6 rfl) ?_
            refine x_bipush C (pc := 73) dX8_layPlan_73 (by decide) ?_
            refine x_irem C (pc := 75) g_46 ⟨by decide, by decide⟩ dX8_layPlan_75 ?_
            refine lv_iload hx hb (pc := 76) dX8_layPlan_76 (lv_at hl 4 rfl) ?_
            obtain ⟨g_52, hf⟩ := og_some hf
            obtain ⟨g_53, hf⟩ := og_some hf
            obtain ⟨r_54, hrr_54, hf⟩ := ob_some hf
            have Jr_54 : ∀ (ls : Array Slot) (H : Heap) (locs : List Loc), lv_has ls 10 [(0, .ref (a 0)), (1, iv l1), (2, iv r_49), (3, iv r_51), (5, iv l5), (6, iv l6)] → XH D A H0 [((a 0), oM a M_edits M_typed M_readRows M_readColumns M_top M_bottom M_left M_right M_panes), ((a 1), aI cI 151 M_now), ((a 5), aI cI 49 M_queue), ((a 6), aI cI 49 M_pane), ((a 7), aI cI 49 M_fragment), ((a 9), aI cZ 49 M_seen), ((a 12), aI cI 2401 M_pieces), ((a 13), aI cI 2401 M_leads), ((a 14), aI cI 2401 M_line)] H locs → W p l e rm_mo_layPlan s m args below meth c H locs 0 0 Q (F0 m 91 ls [iv r_54]) := by
              intro ls H locs hl h
              refine lv_istore hx hb (pc := 91) (lv' := [(4, iv r_54), (0, .ref (a 0)), (1, iv l1), (2, iv r_49), (3, iv r_51), (5, iv l5), (6, iv l6)]) dX8_layPlan_91 hl (Nat.le_of_ble_eq_true rfl) rfl (fun ls hl => ?_)
              refine lv_iload hx hb (pc := 93) dX8_layPlan_93 (lv_at hl 6 rfl) ?_
              refine x_bipush C (pc := 95) dX8_layPlan_95 (by decide) ?_
              refine x_irem C (pc := 97) g_46 ⟨by decide, by decide⟩ dX8_layPlan_97 ?_
              refine lv_iload hx hb (pc := 98) dX8_layPlan_98 (lv_at hl 5 rfl) ?_
              obtain ⟨g_55, hf⟩ := og_some hf
              obtain ⟨r_59, hrr_59, hf⟩ := ob_some hf
              have Jr_59 : ∀ (ls : Array Slot) (H : Heap) (locs : List Loc), lv_has ls 10 [(0, .ref (a 0)), (1, iv l1), (2, iv r_49), (3, iv r_51), (4, iv r_54), (5, iv r_59.1), (6, iv r_59.2)] → XH D A H0 [((a 0), oM a M_edits M_typed M_readRows M_readColumns M_top M_bottom M_left M_right M_panes), ((a 1), aI cI 151 M_now), ((a 5), aI cI 49 M_queue), ((a 6), aI cI 49 M_pane), ((a 7), aI cI 49 M_fragment), ((a 9), aI cZ 49 M_seen), ((a 12), aI cI 2401 M_pieces), ((a 13), aI cI 2401 M_leads), ((a 14), aI cI 2401 M_line)] H locs → W p l e rm_mo_layPlan s m args below meth c H locs 0 0 Q (F0 m 15 ls []) := by
                intro ls H locs hl h
                exact ih r_49 r_51 r_54 r_59.1 r_59.2 _ _ _ (lv_sub hl [0, 1, 2, 3, 4, 5, 6] rfl) h hf
              clear hf
              have hf := hrr_59
              refine x_icmple C (pc := 100) (tgt := 111) g_52 g_55 dX8_layPlan_100 rfl (fun hc => ?_) (fun hc => ?_)
              · have hf := oi_t hf hc
                refine lv_iload hx hb (pc := 111) dX8_layPlan_111 (lv_at hl 5 rfl) ?_
                refine lv_istore hx hb (pc := 113) (lv' := [(5, iv l5), (4, iv r_54), (0, .ref (a 0)), (1, iv l1), (2, iv r_49), (3, iv r_51), (6, iv l6)]) dX8_layPlan_113 hl (Nat.le_of_ble_eq_true rfl) rfl (fun ls hl => ?_)
                obtain ⟨l6_56, el6_56, hf⟩ := ol_some hf
                refine x_iinc C (pc := 115) (k := 6) (lw' := [(6, iv l6_56), (5, iv l5), (4, iv r_54), (0, .ref (a 0)), (1, iv l1), (2, iv r_49), (3, iv r_51)]) dX8_layPlan_115 hl rfl el6_56 (Nat.le_of_ble_eq_true rfl) rfl (fun ls hl => ?_)
                refine lv_goto hx hb (pc := 118) (tgt := 15) dX8_layPlan_118 rfl ?_
                have e9 := Option.some.inj hf
                subst e9
                exact Jr_59 _ _ _ (lv_sub hl [3, 4, 5, 6, 2, 1, 0] rfl) h
              · have hf := oi_f hf hc
                refine lv_iload hx hb (pc := 103) dX8_layPlan_103 (lv_at hl 6 rfl) ?_
                refine x_bipush C (pc := 105) dX8_layPlan_105 (by decide) ?_
                refine x_irem C (pc := 107) g_46 ⟨by decide, by decide⟩ dX8_layPlan_107 ?_
                refine lv_goto hx hb (pc := 108) (tgt := 113) dX8_layPlan_108 rfl ?_
                obtain ⟨l5_57, el5_57, hf⟩ := ol_some hf
                refine x_topi el5_57 ?_
                refine lv_istore hx hb (pc := 113) (lv' := [(5, iv l5_57), (4, iv r_54), (0, .ref (a 0)), (1, iv l1), (2, iv r_49), (3, iv r_51), (6, iv l6)]) dX8_layPlan_113 hl (Nat.le_of_ble_eq_true rfl) rfl (fun ls hl => ?_)
                obtain ⟨l6_58, el6_58, hf⟩ := ol_some hf
                refine x_iinc C (pc := 115) (k := 6) (lw' := [(6, iv l6_58), (5, iv l5_57), (4, iv r_54), (0, .ref (a 0)), (1, iv l1), (2, iv r_49), (3, iv r_51)]) dX8_layPlan_115 hl rfl el6_58 (Nat.le_of_ble_eq_true rfl) rfl (fun ls hl => ?_)
                refine lv_goto hx hb (pc := 118) (tgt := 15) dX8_layPlan_118 rfl ?_
                have e9 := Option.some.inj hf
                subst e9
                exact Jr_59 _ _ _ (lv_sub hl [3, 4, 5, 6, 2, 1, 0] rfl) h
            clear hf
            have hf := hrr_54
            refine x_icmpge C (pc := 78) (tgt := 89) g_52 g_53 dX8_layPlan_78 rfl (fun hc => ?_) (fun hc => ?_)
            · have hf := oi_t hf hc
              refine lv_iload hx hb (pc := 89) dX8_layPlan_89 (lv_at hl 4 rfl) ?_
              have e9 := Option.some.inj hf
              subst e9
              exact Jr_54 _ _ _ (lv_sub hl [1, 2, 3, 0, 5, 6] rfl) h
            · have hf := oi_f hf hc
              refine lv_iload hx hb (pc := 81) dX8_layPlan_81 (lv_at hl 6 rfl) ?_
              refine x_bipush C (pc := 83) dX8_layPlan_83 (by decide) ?_
              refine x_irem C (pc := 85) g_46 ⟨by decide, by decide⟩ dX8_layPlan_85 ?_
              refine lv_goto hx hb (pc := 86) (tgt := 91) dX8_layPlan_86 rfl ?_
              have e9 := Option.some.inj hf
              subst e9
              exact Jr_54 _ _ _ (lv_sub hl [1, 2, 3, 0, 5, 6] rfl) h
          clear hf
          have hf := hrr_51
          refine x_icmple C (pc := 58) (tgt := 69) g_47 g_50 dX8_layPlan_58 rfl (fun hc => ?_) (fun hc => ?_)
          · have hf := oi_t hf hc
            refine lv_iload_n hx hb (pc := 69) dX8_layPlan_69 rfl (lv_at hl 3 rfl) ?_
            have e9 := Option.some.inj hf
            subst e9
            exact Jr_51 _ _ _ (lv_sub hl [1, 2, 0, 4, 5, 6] rfl) h
          · have hf := oi_f hf hc
            refine lv_iload hx hb (pc := 61) dX8_layPlan_61 (lv_at hl 6 rfl) ?_
            refine x_bipush C (pc := 63) dX8_layPlan_63 (by decide) ?_
            refine x_idiv C (pc := 65) g_46 ⟨by decide, by decide⟩ dX8_layPlan_65 ?_
            refine lv_goto hx hb (pc := 66) (tgt := 70) dX8_layPlan_66 rfl ?_
            have e9 := Option.some.inj hf
            subst e9
            exact Jr_51 _ _ _ (lv_sub hl [1, 2, 0, 4, 5, 6] rfl) h
        clear hf
        have hf := hrr_49
        refine x_icmpge C (pc := 39) (tgt := 50) g_47 g_48 dX8_layPlan_39 rfl (fun hc => ?_) (fun hc => ?_)
        · have hf := oi_t hf hc
          refine lv_iload_n hx hb (pc := 50) dX8_layPlan_50 rfl (lv_at hl 2 rfl) ?_
          have e9 := Option.some.inj hf
          subst e9
          exact Jr_49 _ _ _ (lv_sub hl [0, 1, 3, 4, 5, 6] rfl) h
        · have hf := oi_f hf hc
          refine lv_iload hx hb (pc := 42) dX8_layPlan_42 (lv_at hl 6 rfl) ?_
          refine x_bipush C (pc := 44) dX8_layPlan_44 (by decide) ?_
          refine x_idiv C (pc := 46) g_46 ⟨by decide, by decide⟩ dX8_layPlan_46 ?_
          refine lv_goto hx hb (pc := 47) (tgt := 51) dX8_layPlan_47 rfl ?_
          have e9 := Option.some.inj hf
          subst e9
          exact Jr_49 _ _ _ (lv_sub hl [0, 1, 3, 4, 5, 6] rfl) h
set_option maxHeartbeats 4000000 in
set_option maxRecDepth 100000 in
theorem c_mo_layPlan (l : Launch) (D : va_G) (cI cJ cZ cO : ClassId) (a : Nat → Nat) (M_edits : Int) (M_typed : Int) (M_readRows : Int) (M_readColumns : Int) (M_top : Int) (M_bottom : Int) (M_left : Int) (M_right : Int) (M_panes : Int) (M_now : Int → Int) (M_queue : Int → Int) (M_pane : Int → Int) (M_fragment : Int → Int) (M_seen : Int → Int) (M_pieces : Int → Int) (M_leads : Int → Int) (M_line : Int → Int) (l1 : Int) (N : Nat) (Res : Int × Int × Int × Int × Int × (Int → Int) × (Int → Int) × (Int → Int) × (Int → Int) × (Int → Int) × (Int → Int)) (hf : f_mo_layPlan N l1 M_top M_bottom M_left M_right M_now M_queue M_pane M_fragment M_seen M_pieces M_leads M_line = some Res) : CoI l D (xT cI cJ cZ cO) yX8_layPlan cX8_layPlan 10 (some .int) rm_mo_layPlan [.ref (a 0), iv l1] [((a 0), oM a M_edits M_typed M_readRows M_readColumns M_top M_bottom M_left M_right M_panes), ((a 1), aI cI 151 M_now), ((a 5), aI cI 49 M_queue), ((a 6), aI cI 49 M_pane), ((a 7), aI cI 49 M_fragment), ((a 9), aI cZ 49 M_seen), ((a 12), aI cI 2401 M_pieces), ((a 13), aI cI 2401 M_leads), ((a 14), aI cI 2401 M_line)] Res.1 [((a 0), oM a M_edits M_typed M_readRows M_readColumns Res.2.1 Res.2.2.1 Res.2.2.2.1 Res.2.2.2.2.1 M_panes), ((a 1), aI cI 151 M_now), ((a 5), aI cI 49 Res.2.2.2.2.2.1), ((a 6), aI cI 49 M_pane), ((a 7), aI cI 49 Res.2.2.2.2.2.2.1), ((a 9), aI cZ 49 Res.2.2.2.2.2.2.2.1), ((a 12), aI cI 2401 Res.2.2.2.2.2.2.2.2.1), ((a 13), aI cI 2401 Res.2.2.2.2.2.2.2.2.2.1), ((a 14), aI cI 2401 Res.2.2.2.2.2.2.2.2.2.2)] := by
  refine co_i (by decide) ⟨rfl, rfl⟩ (Nat.le_of_ble_eq_true rfl) ?_
  intro p e s m args below meth c A Q ls C hret hl h
  have hx := C.1.1
  have hb := C.1.2.1
  have hl : lv_has ls 10 [(0, .ref (a 0)), (1, iv l1)] := hl
  unfold f_mo_layPlan at hf
  refine x_bipush C (pc := 0) dX8_layPlan_0 (by decide) ?_
  refine lv_istore_n hx hb (pc := 2) (lv' := [(2, iv 7), (0, .ref (a 0)), (1, iv l1)]) dX8_layPlan_2 rfl hl (Nat.le_of_ble_eq_true rfl) rfl (fun ls hl => ?_)
  refine x_iconst C (pc := 3) dX8_layPlan_3 ?_
  refine lv_istore_n hx hb (pc := 4) (lv' := [(3, iv 0), (2, iv 7), (0, .ref (a 0)), (1, iv l1)]) dX8_layPlan_4 rfl hl (Nat.le_of_ble_eq_true rfl) rfl (fun ls hl => ?_)
  refine x_bipush C (pc := 5) dX8_layPlan_5 (by decide) ?_
  refine lv_istore hx hb (pc := 7) (lv' := [(4, iv 7), (3, iv 0), (2, iv 7), (0, .ref (a 0)), (1, iv l1)]) dX8_layPlan_7 hl (Nat.le_of_ble_eq_true rfl) rfl (fun ls hl => ?_)
  refine x_iconst C (pc := 9) dX8_layPlan_9 ?_
  refine lv_istore hx hb (pc := 10) (lv' := [(5, iv 0), (4, iv 7), (3, iv 0), (2, iv 7), (0, .ref (a 0)), (1, iv l1)]) dX8_layPlan_10 hl (Nat.le_of_ble_eq_true rfl) rfl (fun ls hl => ?_)
  refine x_iconst C (pc := 12) dX8_layPlan_12 ?_
  refine lv_istore hx hb (pc := 13) (lv' := [(6, iv 0), (5, iv 0), (4, iv 7), (3, iv 0), (2, iv 7), (0, .ref (a 0)), (1, iv l1)]) dX8_layPlan_13 hl (Nat.le_of_ble_eq_true rfl) rfl (fun ls hl => ?_)
  exact w_mo_layPlan_15 C a M_edits M_typed M_readRows M_readColumns M_panes M_now M_pane Res hret N l1 M_top M_bottom M_left M_right M_queue M_fragment M_seen M_pieces M_leads M_line N 7 0 7 0 0 _ _ _ (lv_sub hl [5, 6, 4, 3, 2, 1, 0] rfl) h hf
abbrev rm_mo_splitPieces : Room := { frames := 8, cells := 0, slots := 0, locals := 206 }
set_option maxHeartbeats 4000000 in
set_option maxRecDepth 100000 in
theorem c_mo_splitPieces (l : Launch) (D : va_G) (cI cJ cZ cO : ClassId) (a : Nat → Nat) (M_edits : Int) (M_typed : Int) (M_readRows : Int) (M_readColumns : Int) (M_top : Int) (M_bottom : Int) (M_left : Int) (M_right : Int) (M_panes : Int) (M_now : Int → Int) (M_queue : Int → Int) (M_pane : Int → Int) (M_fragment : Int → Int) (M_size : Int → Int) (M_seen : Int → Int) (M_pieces : Int → Int) (M_leads : Int → Int) (M_line : Int → Int) (l1 : Int) (N : Nat) (Res : Int × Int × Int × Int × Int × Int × (Int → Int) × (Int → Int) × (Int → Int) × (Int → Int) × (Int → Int) × (Int → Int) × (Int → Int) × (Int → Int)) (hf : f_mo_splitPieces N l1 M_top M_bottom M_left M_right M_panes M_now M_queue M_pane M_fragment M_size M_seen M_pieces M_leads M_line = some Res) : CoI l D (xT cI cJ cZ cO) yX8_splitPieces cX8_splitPieces 2 (some .int) rm_mo_splitPieces [.ref (a 0), iv l1] [((a 0), oM a M_edits M_typed M_readRows M_readColumns M_top M_bottom M_left M_right M_panes), ((a 1), aI cI 151 M_now), ((a 5), aI cI 49 M_queue), ((a 6), aI cI 49 M_pane), ((a 7), aI cI 49 M_fragment), ((a 8), aI cI 49 M_size), ((a 9), aI cZ 49 M_seen), ((a 12), aI cI 2401 M_pieces), ((a 13), aI cI 2401 M_leads), ((a 14), aI cI 2401 M_line)] Res.1 [((a 0), oM a M_edits M_typed M_readRows M_readColumns Res.2.1 Res.2.2.1 Res.2.2.2.1 Res.2.2.2.2.1 Res.2.2.2.2.2.1), ((a 1), aI cI 151 M_now), ((a 5), aI cI 49 Res.2.2.2.2.2.2.1), ((a 6), aI cI 49 Res.2.2.2.2.2.2.2.1), ((a 7), aI cI 49 Res.2.2.2.2.2.2.2.2.1), ((a 8), aI cI 49 Res.2.2.2.2.2.2.2.2.2.1), ((a 9), aI cZ 49 Res.2.2.2.2.2.2.2.2.2.2.1), ((a 12), aI cI 2401 Res.2.2.2.2.2.2.2.2.2.2.2.1), ((a 13), aI cI 2401 Res.2.2.2.2.2.2.2.2.2.2.2.2.1), ((a 14), aI cI 2401 Res.2.2.2.2.2.2.2.2.2.2.2.2.2)] := by
  refine co_i (by decide) ⟨rfl, rfl⟩ (Nat.le_of_ble_eq_true rfl) ?_
  intro p e s m args below meth c A Q ls C hret hl h
  have hx := C.1.1
  have hb := C.1.2.1
  have hl : lv_has ls 2 [(0, .ref (a 0)), (1, iv l1)] := hl
  unfold f_mo_splitPieces at hf
  refine lv_aload_n hx hb (pc := 0) dX8_splitPieces_0 rfl (lv_at hl 0 rfl) ?_
  refine lv_iload_n hx hb (pc := 1) dX8_splitPieces_1 rfl (lv_at hl 1 rfl) ?_
  obtain ⟨q_1, hq_1, hf⟩ := ob_some hf
  refine x_callVi C h (pc := 2) hl (c_mo_isPane l D cI cJ cZ cO a M_edits M_typed M_readRows M_readColumns M_top M_bottom M_left M_right M_panes M_now M_queue M_pane M_size l1 N q_1 hq_1) xv_X8_isPane lk_X8_156 ⟨(Nat.le_of_ble_eq_true rfl), (Nat.le_of_ble_eq_true rfl)⟩ rfl [0, 1, 2, 3, 5] [4, 6, 7, 8, 9] (nw := 10) (wr := [((a 7), aI cI 49 M_fragment), ((a 9), aI cZ 49 M_seen), ((a 12), aI cI 2401 M_pieces), ((a 13), aI cI 2401 M_leads), ((a 14), aI cI 2401 M_line)]) (as := [(a 0), (a 1), (a 5), (a 6), (a 7), (a 8), (a 9), (a 12), (a 13), (a 14)]) (ws' := [((a 0), oM a M_edits M_typed M_readRows M_readColumns q_1.2.1 q_1.2.2.1 q_1.2.2.2.1 q_1.2.2.2.2.1 q_1.2.2.2.2.2.1), ((a 1), aI cI 151 M_now), ((a 5), aI cI 49 q_1.2.2.2.2.2.2.1), ((a 6), aI cI 49 q_1.2.2.2.2.2.2.2.1), ((a 7), aI cI 49 M_fragment), ((a 8), aI cI 49 q_1.2.2.2.2.2.2.2.2), ((a 9), aI cZ 49 M_seen), ((a 12), aI cI 2401 M_pieces), ((a 13), aI cI 2401 M_leads), ((a 14), aI cI 2401 M_line)]) rfl rfl rfl rfl rfl rfl rfl rfl rfl 0 rfl rfl rfl rfl (Nat.le_of_ble_eq_true rfl) dX8_splitPieces_2 (fun H locs h => ?_)
  obtain ⟨g_2, hf⟩ := og_some hf
  refine x_ifne C (pc := 5) (tgt := 10) g_2 dX8_splitPieces_5 rfl (fun hc => ?_) (fun hc => ?_)
  · have hf := oi_f hf hc
    refine lv_aload_n hx hb (pc := 10) dX8_splitPieces_10 rfl (lv_at hl 0 rfl) ?_
    refine lv_iload_n hx hb (pc := 11) dX8_splitPieces_11 rfl (lv_at hl 1 rfl) ?_
    obtain ⟨q_3, hq_3, hf⟩ := ob_some hf
    refine x_callVi C h (pc := 12) hl (c_mo_canCut l D cI cJ cZ cO a M_edits M_typed M_readRows M_readColumns q_1.2.1 q_1.2.2.1 q_1.2.2.2.1 q_1.2.2.2.2.1 q_1.2.2.2.2.2.1 M_now q_1.2.2.2.2.2.2.1 q_1.2.2.2.2.2.2.2.1 q_1.2.2.2.2.2.2.2.2 M_seen l1 N q_3 hq_3) xv_X8_canCut lk_X8_159 ⟨(Nat.le_of_ble_eq_true rfl), (Nat.le_of_ble_eq_true rfl)⟩ rfl [0, 1, 2, 3, 5, 6] [4, 7, 8, 9] (nw := 10) (wr := [((a 7), aI cI 49 M_fragment), ((a 12), aI cI 2401 M_pieces), ((a 13), aI cI 2401 M_leads), ((a 14), aI cI 2401 M_line)]) (as := [(a 0), (a 1), (a 5), (a 6), (a 7), (a 8), (a 9), (a 12), (a 13), (a 14)]) (ws' := [((a 0), oM a M_edits M_typed M_readRows M_readColumns q_1.2.1 q_1.2.2.1 q_1.2.2.2.1 q_1.2.2.2.2.1 q_1.2.2.2.2.2.1), ((a 1), aI cI 151 M_now), ((a 5), aI cI 49 q_3.2.1), ((a 6), aI cI 49 q_1.2.2.2.2.2.2.2.1), ((a 7), aI cI 49 M_fragment), ((a 8), aI cI 49 q_1.2.2.2.2.2.2.2.2), ((a 9), aI cZ 49 q_3.2.2), ((a 12), aI cI 2401 M_pieces), ((a 13), aI cI 2401 M_leads), ((a 14), aI cI 2401 M_line)]) rfl rfl rfl rfl rfl rfl rfl rfl rfl 0 rfl rfl rfl rfl (Nat.le_of_ble_eq_true rfl) dX8_splitPieces_12 (fun H locs h => ?_)
    obtain ⟨g_4, hf⟩ := og_some hf
    refine x_ifeq C (pc := 15) (tgt := 22) g_4 dX8_splitPieces_15 rfl (fun hc => ?_) (fun hc => ?_)
    · have hf := oi_t hf hc
      refine lv_aload_n hx hb (pc := 22) dX8_splitPieces_22 rfl (lv_at hl 0 rfl) ?_
      refine x_get C h (pc := 23) xf_X8_44 0 rfl (v := .ref (a 12)) rfl dX8_splitPieces_23 ?_
      refine lv_aload_n hx hb (pc := 26) dX8_splitPieces_26 rfl (lv_at hl 0 rfl) ?_
      refine lv_iload_n hx hb (pc := 27) dX8_splitPieces_27 rfl (lv_at hl 1 rfl) ?_
      obtain ⟨q_5, hq_5, hf⟩ := ob_some hf
      refine x_callVi C h (pc := 28) hl (c_mo_layPlan l D cI cJ cZ cO a M_edits M_typed M_readRows M_readColumns q_1.2.1 q_1.2.2.1 q_1.2.2.2.1 q_1.2.2.2.2.1 q_1.2.2.2.2.2.1 M_now q_3.2.1 q_1.2.2.2.2.2.2.2.1 M_fragment q_3.2.2 M_pieces M_leads M_line l1 N q_5 hq_5) xv_X8_layPlan lk_X8_192 ⟨(Nat.le_of_ble_eq_true rfl), (Nat.le_of_ble_eq_true rfl)⟩ rfl [0, 1, 2, 3, 4, 6, 7, 8, 9] [5] (nw := 10) (wr := [((a 8), aI cI 49 q_1.2.2.2.2.2.2.2.2)]) (as := [(a 0), (a 1), (a 5), (a 6), (a 7), (a 8), (a 9), (a 12), (a 13), (a 14)]) (ws' := [((a 0), oM a M_edits M_typed M_readRows M_readColumns q_5.2.1 q_5.2.2.1 q_5.2.2.2.1 q_5.2.2.2.2.1 q_1.2.2.2.2.2.1), ((a 1), aI cI 151 M_now), ((a 5), aI cI 49 q_5.2.2.2.2.2.1), ((a 6), aI cI 49 q_1.2.2.2.2.2.2.2.1), ((a 7), aI cI 49 q_5.2.2.2.2.2.2.1), ((a 8), aI cI 49 q_1.2.2.2.2.2.2.2.2), ((a 9), aI cZ 49 q_5.2.2.2.2.2.2.2.1), ((a 12), aI cI 2401 q_5.2.2.2.2.2.2.2.2.1), ((a 13), aI cI 2401 q_5.2.2.2.2.2.2.2.2.2.1), ((a 14), aI cI 2401 q_5.2.2.2.2.2.2.2.2.2.2)]) rfl rfl rfl rfl rfl rfl rfl rfl rfl 0 rfl rfl rfl rfl (Nat.le_of_ble_eq_true rfl) dX8_splitPieces_28 (fun H locs h => ?_)
      obtain ⟨g_6, hf⟩ := og_some hf
      refine x_iald C h (pc := 31) 7 0 rfl rfl (Nat.le_of_ble_eq_true rfl) g_6 dX8_splitPieces_31 ?_
      have e9 := Option.some.inj hf
      subst e9
      exact hret _ _ _ _ dX8_splitPieces_32 h
    · have hf := oi_f hf hc
      refine x_iconst C (pc := 18) dX8_splitPieces_18 ?_
      refine lv_goto hx hb (pc := 19) (tgt := 32) dX8_splitPieces_19 rfl ?_
      have e9 := Option.some.inj hf
      subst e9
      exact hret _ _ _ _ dX8_splitPieces_32 h
  · have hf := oi_t hf hc
    refine x_iconst C (pc := 8) dX8_splitPieces_8 ?_
    have e9 := Option.some.inj hf
    subst e9
    exact hret _ _ _ _ dX8_splitPieces_9 h
abbrev rm_mo_splitLead : Room := { frames := 8, cells := 0, slots := 0, locals := 206 }
set_option maxHeartbeats 4000000 in
set_option maxRecDepth 100000 in
theorem c_mo_splitLead (l : Launch) (D : va_G) (cI cJ cZ cO : ClassId) (a : Nat → Nat) (M_edits : Int) (M_typed : Int) (M_readRows : Int) (M_readColumns : Int) (M_top : Int) (M_bottom : Int) (M_left : Int) (M_right : Int) (M_panes : Int) (M_now : Int → Int) (M_queue : Int → Int) (M_pane : Int → Int) (M_fragment : Int → Int) (M_size : Int → Int) (M_seen : Int → Int) (M_pieces : Int → Int) (M_leads : Int → Int) (M_line : Int → Int) (l1 : Int) (N : Nat) (Res : Int × Int × Int × Int × Int × Int × (Int → Int) × (Int → Int) × (Int → Int) × (Int → Int) × (Int → Int) × (Int → Int) × (Int → Int) × (Int → Int)) (hf : f_mo_splitLead N l1 M_top M_bottom M_left M_right M_panes M_now M_queue M_pane M_fragment M_size M_seen M_pieces M_leads M_line = some Res) : CoI l D (xT cI cJ cZ cO) yX8_splitLead cX8_splitLead 2 (some .int) rm_mo_splitLead [.ref (a 0), iv l1] [((a 0), oM a M_edits M_typed M_readRows M_readColumns M_top M_bottom M_left M_right M_panes), ((a 1), aI cI 151 M_now), ((a 5), aI cI 49 M_queue), ((a 6), aI cI 49 M_pane), ((a 7), aI cI 49 M_fragment), ((a 8), aI cI 49 M_size), ((a 9), aI cZ 49 M_seen), ((a 12), aI cI 2401 M_pieces), ((a 13), aI cI 2401 M_leads), ((a 14), aI cI 2401 M_line)] Res.1 [((a 0), oM a M_edits M_typed M_readRows M_readColumns Res.2.1 Res.2.2.1 Res.2.2.2.1 Res.2.2.2.2.1 Res.2.2.2.2.2.1), ((a 1), aI cI 151 M_now), ((a 5), aI cI 49 Res.2.2.2.2.2.2.1), ((a 6), aI cI 49 Res.2.2.2.2.2.2.2.1), ((a 7), aI cI 49 Res.2.2.2.2.2.2.2.2.1), ((a 8), aI cI 49 Res.2.2.2.2.2.2.2.2.2.1), ((a 9), aI cZ 49 Res.2.2.2.2.2.2.2.2.2.2.1), ((a 12), aI cI 2401 Res.2.2.2.2.2.2.2.2.2.2.2.1), ((a 13), aI cI 2401 Res.2.2.2.2.2.2.2.2.2.2.2.2.1), ((a 14), aI cI 2401 Res.2.2.2.2.2.2.2.2.2.2.2.2.2)] := by
  refine co_i (by decide) ⟨rfl, rfl⟩ (Nat.le_of_ble_eq_true rfl) ?_
  intro p e s m args below meth c A Q ls C hret hl h
  have hx := C.1.1
  have hb := C.1.2.1
  have hl : lv_has ls 2 [(0, .ref (a 0)), (1, iv l1)] := hl
  unfold f_mo_splitLead at hf
  refine lv_aload_n hx hb (pc := 0) dX8_splitLead_0 rfl (lv_at hl 0 rfl) ?_
  refine lv_iload_n hx hb (pc := 1) dX8_splitLead_1 rfl (lv_at hl 1 rfl) ?_
  obtain ⟨q_1, hq_1, hf⟩ := ob_some hf
  refine x_callVi C h (pc := 2) hl (c_mo_isPane l D cI cJ cZ cO a M_edits M_typed M_readRows M_readColumns M_top M_bottom M_left M_right M_panes M_now M_queue M_pane M_size l1 N q_1 hq_1) xv_X8_isPane lk_X8_156 ⟨(Nat.le_of_ble_eq_true rfl), (Nat.le_of_ble_eq_true rfl)⟩ rfl [0, 1, 2, 3, 5] [4, 6, 7, 8, 9] (nw := 10) (wr := [((a 7), aI cI 49 M_fragment), ((a 9), aI cZ 49 M_seen), ((a 12), aI cI 2401 M_pieces), ((a 13), aI cI 2401 M_leads), ((a 14), aI cI 2401 M_line)]) (as := [(a 0), (a 1), (a 5), (a 6), (a 7), (a 8), (a 9), (a 12), (a 13), (a 14)]) (ws' := [((a 0), oM a M_edits M_typed M_readRows M_readColumns q_1.2.1 q_1.2.2.1 q_1.2.2.2.1 q_1.2.2.2.2.1 q_1.2.2.2.2.2.1), ((a 1), aI cI 151 M_now), ((a 5), aI cI 49 q_1.2.2.2.2.2.2.1), ((a 6), aI cI 49 q_1.2.2.2.2.2.2.2.1), ((a 7), aI cI 49 M_fragment), ((a 8), aI cI 49 q_1.2.2.2.2.2.2.2.2), ((a 9), aI cZ 49 M_seen), ((a 12), aI cI 2401 M_pieces), ((a 13), aI cI 2401 M_leads), ((a 14), aI cI 2401 M_line)]) rfl rfl rfl rfl rfl rfl rfl rfl rfl 0 rfl rfl rfl rfl (Nat.le_of_ble_eq_true rfl) dX8_splitLead_2 (fun H locs h => ?_)
  obtain ⟨g_2, hf⟩ := og_some hf
  refine x_ifne C (pc := 5) (tgt := 10) g_2 dX8_splitLead_5 rfl (fun hc => ?_) (fun hc => ?_)
  · have hf := oi_f hf hc
    refine lv_aload_n hx hb (pc := 10) dX8_splitLead_10 rfl (lv_at hl 0 rfl) ?_
    refine lv_iload_n hx hb (pc := 11) dX8_splitLead_11 rfl (lv_at hl 1 rfl) ?_
    obtain ⟨q_3, hq_3, hf⟩ := ob_some hf
    refine x_callVi C h (pc := 12) hl (c_mo_canCut l D cI cJ cZ cO a M_edits M_typed M_readRows M_readColumns q_1.2.1 q_1.2.2.1 q_1.2.2.2.1 q_1.2.2.2.2.1 q_1.2.2.2.2.2.1 M_now q_1.2.2.2.2.2.2.1 q_1.2.2.2.2.2.2.2.1 q_1.2.2.2.2.2.2.2.2 M_seen l1 N q_3 hq_3) xv_X8_canCut lk_X8_159 ⟨(Nat.le_of_ble_eq_true rfl), (Nat.le_of_ble_eq_true rfl)⟩ rfl [0, 1, 2, 3, 5, 6] [4, 7, 8, 9] (nw := 10) (wr := [((a 7), aI cI 49 M_fragment), ((a 12), aI cI 2401 M_pieces), ((a 13), aI cI 2401 M_leads), ((a 14), aI cI 2401 M_line)]) (as := [(a 0), (a 1), (a 5), (a 6), (a 7), (a 8), (a 9), (a 12), (a 13), (a 14)]) (ws' := [((a 0), oM a M_edits M_typed M_readRows M_readColumns q_1.2.1 q_1.2.2.1 q_1.2.2.2.1 q_1.2.2.2.2.1 q_1.2.2.2.2.2.1), ((a 1), aI cI 151 M_now), ((a 5), aI cI 49 q_3.2.1), ((a 6), aI cI 49 q_1.2.2.2.2.2.2.2.1), ((a 7), aI cI 49 M_fragment), ((a 8), aI cI 49 q_1.2.2.2.2.2.2.2.2), ((a 9), aI cZ 49 q_3.2.2), ((a 12), aI cI 2401 M_pieces), ((a 13), aI cI 2401 M_leads), ((a 14), aI cI 2401 M_line)]) rfl rfl rfl rfl rfl rfl rfl rfl rfl 0 rfl rfl rfl rfl (Nat.le_of_ble_eq_true rfl) dX8_splitLead_12 (fun H locs h => ?_)
    obtain ⟨g_4, hf⟩ := og_some hf
    refine x_ifeq C (pc := 15) (tgt := 22) g_4 dX8_splitLead_15 rfl (fun hc => ?_) (fun hc => ?_)
    · have hf := oi_t hf hc
      refine lv_aload_n hx hb (pc := 22) dX8_splitLead_22 rfl (lv_at hl 0 rfl) ?_
      refine x_get C h (pc := 23) xf_X8_47 0 rfl (v := .ref (a 13)) rfl dX8_splitLead_23 ?_
      refine lv_aload_n hx hb (pc := 26) dX8_splitLead_26 rfl (lv_at hl 0 rfl) ?_
      refine lv_iload_n hx hb (pc := 27) dX8_splitLead_27 rfl (lv_at hl 1 rfl) ?_
      obtain ⟨q_5, hq_5, hf⟩ := ob_some hf
      refine x_callVi C h (pc := 28) hl (c_mo_layPlan l D cI cJ cZ cO a M_edits M_typed M_readRows M_readColumns q_1.2.1 q_1.2.2.1 q_1.2.2.2.1 q_1.2.2.2.2.1 q_1.2.2.2.2.2.1 M_now q_3.2.1 q_1.2.2.2.2.2.2.2.1 M_fragment q_3.2.2 M_pieces M_leads M_line l1 N q_5 hq_5) xv_X8_layPlan lk_X8_192 ⟨(Nat.le_of_ble_eq_true rfl), (Nat.le_of_ble_eq_true rfl)⟩ rfl [0, 1, 2, 3, 4, 6, 7, 8, 9] [5] (nw := 10) (wr := [((a 8), aI cI 49 q_1.2.2.2.2.2.2.2.2)]) (as := [(a 0), (a 1), (a 5), (a 6), (a 7), (a 8), (a 9), (a 12), (a 13), (a 14)]) (ws' := [((a 0), oM a M_edits M_typed M_readRows M_readColumns q_5.2.1 q_5.2.2.1 q_5.2.2.2.1 q_5.2.2.2.2.1 q_1.2.2.2.2.2.1), ((a 1), aI cI 151 M_now), ((a 5), aI cI 49 q_5.2.2.2.2.2.1), ((a 6), aI cI 49 q_1.2.2.2.2.2.2.2.1), ((a 7), aI cI 49 q_5.2.2.2.2.2.2.1), ((a 8), aI cI 49 q_1.2.2.2.2.2.2.2.2), ((a 9), aI cZ 49 q_5.2.2.2.2.2.2.2.1), ((a 12), aI cI 2401 q_5.2.2.2.2.2.2.2.2.1), ((a 13), aI cI 2401 q_5.2.2.2.2.2.2.2.2.2.1), ((a 14), aI cI 2401 q_5.2.2.2.2.2.2.2.2.2.2)]) rfl rfl rfl rfl rfl rfl rfl rfl rfl 0 rfl rfl rfl rfl (Nat.le_of_ble_eq_true rfl) dX8_splitLead_28 (fun H locs h => ?_)
      obtain ⟨g_6, hf⟩ := og_some hf
      refine x_iald C h (pc := 31) 8 0 rfl rfl (Nat.le_of_ble_eq_true rfl) g_6 dX8_splitLead_31 ?_
      have e9 := Option.some.inj hf
      subst e9
      exact hret _ _ _ _ dX8_splitLead_32 h
    · have hf := oi_f hf hc
      refine x_iconst C (pc := 18) dX8_splitLead_18 ?_
      refine lv_goto hx hb (pc := 19) (tgt := 32) dX8_splitLead_19 rfl ?_
      have e9 := Option.some.inj hf
      subst e9
      exact hret _ _ _ _ dX8_splitLead_32 h
  · have hf := oi_t hf hc
    refine x_iconst C (pc := 8) dX8_splitLead_8 ?_
    have e9 := Option.some.inj hf
    subst e9
    exact hret _ _ _ _ dX8_splitLead_9 h
abbrev rm_mo_cutBy : Room := { frames := 2, cells := 0, slots := 0, locals := 44 }
set_option maxHeartbeats 4000000 in
set_option maxRecDepth 100000 in
theorem w_mo_cutBy_185 {p : Program} {l : Launch} {e : Env} {s : State} {m : MethodId} {args : Array Value} {below : List Frame} {meth : Method} {c : Code} {Q : State → Prop} {D : va_G} {cI cJ cZ cO : ClassId} {A : Nat → Prop} {H0 : Heap} {w0 : Cond} (C : XC p s m args c cX8_cutBy 14 RX8 w0 D (xT cI cJ cZ cO)) (a : Nat → Nat) (M_edits : Int) (M_typed : Int) (M_readRows : Int) (M_readColumns : Int) (M_top : Int) (M_bottom : Int) (M_left : Int) (M_right : Int) (M_panes : Int) (M_pane : Int → Int) (M_line : Int → Int) (Res : Int × (Int → Int) × (Int → Int)) (hret : XRI p l e rm_mo_cutBy s m args below meth c cX8_cutBy D A H0 Q Res.1 [((a 0), oM a M_edits M_typed M_readRows M_readColumns M_top M_bottom M_left M_right M_panes), ((a 1), aI cI 151 Res.2.1), ((a 6), aI cI 49 M_pane), ((a 14), aI cI 2401 M_line), ((a 15), aI cI 128 Res.2.2)]) (N : Nat) (l1 : Int) (l3 : Int) (l4 : Int) (l5 : Int) (l6 : Int) (l7 : Int) (l8 : Int) (l9 : Int) (l11 : Int) (M_waiting : Int → Int) (k94 : Int → (Int → Int) → Option (Int × (Int → Int) × (Int → Int))) (hk94 : ∀ (l12' : Int) (M_now' : Int → Int) (ls : Array Slot) (H : Heap) (locs : List Loc), lv_has ls 14 [(0, .ref (a 0)), (1, iv l1), (3, iv l3), (4, iv l4), (5, iv l5), (6, iv l6), (7, iv l7), (8, iv l8), (9, iv l9), (11, iv l11), (12, iv l12')] → XH D A H0 [((a 0), oM a M_edits M_typed M_readRows M_readColumns M_top M_bottom M_left M_right M_panes), ((a 1), aI cI 151 M_now'), ((a 6), aI cI 49 M_pane), ((a 14), aI cI 2401 M_line), ((a 15), aI cI 128 M_waiting)] H locs → k94 l12' M_now' = some Res → W p l e rm_mo_cutBy s m args below meth c H locs 0 0 Q (F0 m 94 ls [])) : ∀ (l12 : Int) (t1 : Int) (t2 : Int) (M_now : Int → Int) (ls : Array Slot) (H : Heap) (locs : List Loc), lv_has ls 14 [(0, .ref (a 0)), (1, iv l1), (3, iv l3), (4, iv l4), (5, iv l5), (6, iv l6), (7, iv l7), (8, iv l8), (9, iv l9), (11, iv l11), (12, iv l12)] → XH D A H0 [((a 0), oM a M_edits M_typed M_readRows M_readColumns M_top M_bottom M_left M_right M_panes), ((a 1), aI cI 151 M_now), ((a 6), aI cI 49 M_pane), ((a 14), aI cI 2401 M_line), ((a 15), aI cI 128 M_waiting)] H locs → f_mo_cutBy_185 N l1 l3 l4 l5 l6 l7 l8 l9 l11 M_waiting M_pane k94 l12 t1 t2 M_now = some Res → W p l e rm_mo_cutBy s m args below meth c H locs 0 0 Q (F0 m 185 ls [iv t2, iv t1, .ref (a 1)]) := by
  have hx := C.1.1
  have hb := C.1.2.1
  intro l12 t1 t2 M_now ls H locs hl h hf
  unfold f_mo_cutBy_185 at hf
  obtain ⟨g_77, hf⟩ := og_some hf
  obtain ⟨M_now_78, eM_now_78, hf⟩ := ol_some hf
  refine x_iast C h (pc := 185) (ws' := [((a 0), oM a M_edits M_typed M_readRows M_readColumns M_top M_bottom M_left M_right M_panes), ((a 1), aI cI 151 M_now_78), ((a 6), aI cI 49 M_pane), ((a 14), aI cI 2401 M_line), ((a 15), aI cI 128 M_waiting)]) 1 0 rfl rfl (Nat.le_of_ble_eq_true rfl) g_77 eM_now_78 rfl dX8_cutBy_185 (fun H locs h => ?_)
  obtain ⟨l12_79, el12_79, hf⟩ := ol_some hf
  refine x_iinc C (pc := 186) (k := 10) (lw' := [(12, iv l12_79), (0, .ref (a 0)), (1, iv l1), (3, iv l3), (4, iv l4), (5, iv l5), (6, iv l6), (7, iv l7), (8, iv l8), (9, iv l9), (11, iv l11)]) dX8_cutBy_186 hl rfl el12_79 (Nat.le_of_ble_eq_true rfl) rfl (fun ls hl => ?_)
  refine lv_goto hx hb (pc := 189) (tgt := 94) dX8_cutBy_189 rfl ?_
  exact hk94 l12_79 M_now_78 _ _ _ (lv_sub hl [1, 2, 3, 4, 5, 6, 7, 8, 9, 10, 0] rfl) h hf
set_option maxHeartbeats 4000000 in
set_option maxRecDepth 100000 in
theorem w_mo_cutBy_169 {p : Program} {l : Launch} {e : Env} {s : State} {m : MethodId} {args : Array Value} {below : List Frame} {meth : Method} {c : Code} {Q : State → Prop} {D : va_G} {cI cJ cZ cO : ClassId} {A : Nat → Prop} {H0 : Heap} {w0 : Cond} (C : XC p s m args c cX8_cutBy 14 RX8 w0 D (xT cI cJ cZ cO)) (a : Nat → Nat) (M_edits : Int) (M_typed : Int) (M_readRows : Int) (M_readColumns : Int) (M_top : Int) (M_bottom : Int) (M_left : Int) (M_right : Int) (M_panes : Int) (M_pane : Int → Int) (M_line : Int → Int) (Res : Int × (Int → Int) × (Int → Int)) (hret : XRI p l e rm_mo_cutBy s m args below meth c cX8_cutBy D A H0 Q Res.1 [((a 0), oM a M_edits M_typed M_readRows M_readColumns M_top M_bottom M_left M_right M_panes), ((a 1), aI cI 151 Res.2.1), ((a 6), aI cI 49 M_pane), ((a 14), aI cI 2401 M_line), ((a 15), aI cI 128 Res.2.2)]) (N : Nat) (l1 : Int) (l3 : Int) (l4 : Int) (l5 : Int) (l6 : Int) (l7 : Int) (l8 : Int) (l9 : Int) (l11 : Int) (M_waiting : Int → Int) (k94 : Int → (Int → Int) → Option (Int × (Int → Int) × (Int → Int))) (hk94 : ∀ (l12' : Int) (M_now' : Int → Int) (ls : Array Slot) (H : Heap) (locs : List Loc), lv_has ls 14 [(0, .ref (a 0)), (1, iv l1), (3, iv l3), (4, iv l4), (5, iv l5), (6, iv l6), (7, iv l7), (8, iv l8), (9, iv l9), (11, iv l11), (12, iv l12')] → XH D A H0 [((a 0), oM a M_edits M_typed M_readRows M_readColumns M_top M_bottom M_left M_right M_panes), ((a 1), aI cI 151 M_now'), ((a 6), aI cI 49 M_pane), ((a 14), aI cI 2401 M_line), ((a 15), aI cI 128 M_waiting)] H locs → k94 l12' M_now' = some Res → W p l e rm_mo_cutBy s m args below meth c H locs 0 0 Q (F0 m 94 ls [])) : ∀ (l12 : Int) (l13 : Int) (t1 : Int) (M_now : Int → Int) (ls : Array Slot) (H : Heap) (locs : List Loc), lv_has ls 14 [(0, .ref (a 0)), (1, iv l1), (3, iv l3), (4, iv l4), (5, iv l5), (6, iv l6), (7, iv l7), (8, iv l8), (9, iv l9), (11, iv l11), (12, iv l12), (13, iv l13)] → XH D A H0 [((a 0), oM a M_edits M_typed M_readRows M_readColumns M_top M_bottom M_left M_right M_panes), ((a 1), aI cI 151 M_now), ((a 6), aI cI 49 M_pane), ((a 14), aI cI 2401 M_line), ((a 15), aI cI 128 M_waiting)] H locs → f_mo_cutBy_169 N l1 l3 l4 l5 l6 l7 l8 l9 l11 M_waiting M_pane k94 l12 l13 t1 M_now = some Res → W p l e rm_mo_cutBy s m args below meth c H locs 0 0 Q (F0 m 169 ls [iv t1, .ref (a 1)]) := by
  have hx := C.1.1
  have hb := C.1.2.1
  intro l12 l13 t1 M_now ls H locs hl h hf
  unfold f_mo_cutBy_169 at hf
  refine lv_aload_n hx hb (pc := 169) dX8_cutBy_169 rfl (lv_at hl 0 rfl) ?_
  refine x_get C h (pc := 170) xf_X8_7 0 rfl (v := .ref (a 1)) rfl dX8_cutBy_170 ?_
  refine x_bipush C (pc := 173) dX8_cutBy_173 (by decide) ?_
  refine x_bipush C (pc := 175) dX8_cutBy_175 (by decide) ?_
  refine lv_iload hx hb (pc := 177) dX8_cutBy_177 (lv_at hl 8 rfl) ?_
  refine x_imul C (pc := 179) dX8_cutBy_179 ?_
  refine x_iadd C (pc := 180) dX8_cutBy_180 ?_
  refine lv_iload hx hb (pc := 181) dX8_cutBy_181 (lv_at hl 11 rfl) ?_
  refine x_iadd C (pc := 183) dX8_cutBy_183 ?_
  obtain ⟨g_80, hf⟩ := og_some hf
  refine x_iald C h (pc := 184) 1 0 rfl rfl (Nat.le_of_ble_eq_true rfl) g_80 dX8_cutBy_184 ?_
  exact w_mo_cutBy_185 C a M_edits M_typed M_readRows M_readColumns M_top M_bottom M_left M_right M_panes M_pane M_line Res hret N l1 l3 l4 l5 l6 l7 l8 l9 l11 M_waiting k94 hk94 l12 t1 (M_now ((53 + (49 * l9)) + l13)) M_now _ _ _ (lv_sub hl [0, 1, 2, 3, 4, 5, 6, 7, 8, 9, 10] rfl) h hf
set_option maxHeartbeats 4000000 in
set_option maxRecDepth 100000 in
theorem w_mo_cutBy_94 {p : Program} {l : Launch} {e : Env} {s : State} {m : MethodId} {args : Array Value} {below : List Frame} {meth : Method} {c : Code} {Q : State → Prop} {D : va_G} {cI cJ cZ cO : ClassId} {A : Nat → Prop} {H0 : Heap} {w0 : Cond} (C : XC p s m args c cX8_cutBy 14 RX8 w0 D (xT cI cJ cZ cO)) (a : Nat → Nat) (M_edits : Int) (M_typed : Int) (M_readRows : Int) (M_readColumns : Int) (M_top : Int) (M_bottom : Int) (M_left : Int) (M_right : Int) (M_panes : Int) (M_pane : Int → Int) (M_line : Int → Int) (Res : Int × (Int → Int) × (Int → Int)) (hret : XRI p l e rm_mo_cutBy s m args below meth c cX8_cutBy D A H0 Q Res.1 [((a 0), oM a M_edits M_typed M_readRows M_readColumns M_top M_bottom M_left M_right M_panes), ((a 1), aI cI 151 Res.2.1), ((a 6), aI cI 49 M_pane), ((a 14), aI cI 2401 M_line), ((a 15), aI cI 128 Res.2.2)]) (N : Nat) (l1 : Int) (l3 : Int) (l4 : Int) (l5 : Int) (l6 : Int) (l7 : Int) (l8 : Int) (l9 : Int) (l11 : Int) (M_waiting : Int → Int) : ∀ (n : Nat) (l12 : Int) (M_now : Int → Int) (ls : Array Slot) (H : Heap) (locs : List Loc), lv_has ls 14 [(0, .ref (a 0)), (1, iv l1), (3, iv l3), (4, iv l4), (5, iv l5), (6, iv l6), (7, iv l7), (8, iv l8), (9, iv l9), (11, iv l11), (12, iv l12)] → XH D A H0 [((a 0), oM a M_edits M_typed M_readRows M_readColumns M_top M_bottom M_left M_right M_panes), ((a 1), aI cI 151 M_now), ((a 6), aI cI 49 M_pane), ((a 14), aI cI 2401 M_line), ((a 15), aI cI 128 M_waiting)] H locs → f_mo_cutBy_94 N l1 l3 l4 l5 l6 l7 l8 l9 l11 M_waiting M_pane n l12 M_now = some Res → W p l e rm_mo_cutBy s m args below meth c H locs 0 0 Q (F0 m 94 ls []) := by
  have hx := C.1.1
  have hb := C.1.2.1
  intro n
  induction n with
  | zero => intro l12 M_now ls H locs hl h hf; cases hf
  | succ n ih =>
    intro l12 M_now ls H locs hl h hf
    rw [f_mo_cutBy_94.eq_2] at hf
    refine lv_iload hx hb (pc := 94) dX8_cutBy_94 (lv_at hl 10 rfl) ?_
    refine lv_iload hx hb (pc := 96) dX8_cutBy_96 (lv_at hl 9 rfl) ?_
    obtain ⟨g_57, hf⟩ := og_some hf
    obtain ⟨g_58, hf⟩ := og_some hf
    refine x_icmpgt C (pc := 98) (tgt := 192) g_57 g_58 dX8_cutBy_98 rfl (fun hc => ?_) (fun hc => ?_)
    · have hf := oi_t hf hc
      refine lv_aload_n hx hb (pc := 192) dX8_cutBy_192 rfl (lv_at hl 0 rfl) ?_
      refine x_get C h (pc := 193) xf_X8_53 0 rfl (v := .ref (a 15)) rfl dX8_cutBy_193 ?_
      refine lv_iload_n hx hb (pc := 196) dX8_cutBy_196 rfl (lv_at hl 2 rfl) ?_
      refine lv_iload hx hb (pc := 197) dX8_cutBy_197 (lv_at hl 8 rfl) ?_
      refine x_iconst C (pc := 199) dX8_cutBy_199 ?_
      obtain ⟨g_59, hf⟩ := og_some hf
      obtain ⟨r_63, hrr_63, hf⟩ := ob_some hf
      have Jr_63 : ∀ (ls : Array Slot) (H : Heap) (locs : List Loc), lv_has ls 14 [(0, .ref (a 0)), (3, iv l3), (4, iv l4), (5, iv l5), (6, iv l6), (7, iv l7), (8, iv l8), (9, iv l9)] → XH D A H0 [((a 0), oM a M_edits M_typed M_readRows M_readColumns M_top M_bottom M_left M_right M_panes), ((a 1), aI cI 151 M_now), ((a 6), aI cI 49 M_pane), ((a 14), aI cI 2401 M_line), ((a 15), aI cI 128 M_waiting)] H locs → W p l e rm_mo_cutBy s m args below meth c H locs 0 0 Q (F0 m 228 ls [iv r_63, iv l3, .ref (a 15)]) := by
        intro ls H locs hl h
        obtain ⟨g_65, hf⟩ := og_some hf
        obtain ⟨M_waiting_66, eM_waiting_66, hf⟩ := ol_some hf
        obtain ⟨r_69, hrr_69, hf⟩ := ob_some hf
        have Jr_69 : ∀ (ls : Array Slot) (H : Heap) (locs : List Loc), lv_has ls 14 [(3, iv l3)] → XH D A H0 [((a 0), oM a M_edits M_typed M_readRows M_readColumns M_top M_bottom M_left M_right M_panes), ((a 1), aI cI 151 M_now), ((a 6), aI cI 49 M_pane), ((a 14), aI cI 2401 M_line), ((a 15), aI cI 128 M_waiting_66)] H locs → W p l e rm_mo_cutBy s m args below meth c H locs 0 0 Q (F0 m 271 ls [iv r_69, iv (l3 + 1), .ref (a 15)]) := by
          intro ls H locs hl h
          obtain ⟨g_70, hf⟩ := og_some hf
          obtain ⟨M_waiting_71, eM_waiting_71, hf⟩ := ol_some hf
          refine x_iast C h (pc := 271) (ws' := [((a 0), oM a M_edits M_typed M_readRows M_readColumns M_top M_bottom M_left M_right M_panes), ((a 1), aI cI 151 M_now), ((a 6), aI cI 49 M_pane), ((a 14), aI cI 2401 M_line), ((a 15), aI cI 128 M_waiting_71)]) 4 0 rfl rfl (Nat.le_of_ble_eq_true rfl) g_70 eM_waiting_71 rfl dX8_cutBy_271 (fun H locs h => ?_)
          refine lv_iload_n hx hb (pc := 272) dX8_cutBy_272 rfl (lv_at hl 0 rfl) ?_
          refine x_iconst C (pc := 273) dX8_cutBy_273 ?_
          refine x_iadd C (pc := 274) dX8_cutBy_274 ?_
          have e9 := Option.some.inj hf
          subst e9
          exact hret _ _ _ _ dX8_cutBy_275 h
        clear hf
        have hf := hrr_69
        refine x_iast C h (pc := 228) (ws' := [((a 0), oM a M_edits M_typed M_readRows M_readColumns M_top M_bottom M_left M_right M_panes), ((a 1), aI cI 151 M_now), ((a 6), aI cI 49 M_pane), ((a 14), aI cI 2401 M_line), ((a 15), aI cI 128 M_waiting_66)]) 4 0 rfl rfl (Nat.le_of_ble_eq_true rfl) g_65 eM_waiting_66 rfl dX8_cutBy_228 (fun H locs h => ?_)
        refine lv_aload_n hx hb (pc := 229) dX8_cutBy_229 rfl (lv_at hl 0 rfl) ?_
        refine x_get C h (pc := 230) xf_X8_53 0 rfl (v := .ref (a 15)) rfl dX8_cutBy_230 ?_
        refine lv_iload_n hx hb (pc := 233) dX8_cutBy_233 rfl (lv_at hl 1 rfl) ?_
        refine x_iconst C (pc := 234) dX8_cutBy_234 ?_
        refine x_iadd C (pc := 235) dX8_cutBy_235 ?_
        refine lv_iload hx hb (pc := 236) dX8_cutBy_236 (lv_at hl 7 rfl) ?_
        refine x_iconst C (pc := 238) dX8_cutBy_238 ?_
        refine x_icmpne C (pc := 239) (tgt := 258) g_59 ⟨by decide, by decide⟩ dX8_cutBy_239 rfl (fun hc => ?_) (fun hc => ?_)
        · have hf := oi_f hf hc
          refine lv_iload hx hb (pc := 258) dX8_cutBy_258 (lv_at hl 2 rfl) ?_
          refine lv_iload hx hb (pc := 260) dX8_cutBy_260 (lv_at hl 3 rfl) ?_
          refine lv_iload hx hb (pc := 262) dX8_cutBy_262 (lv_at hl 6 rfl) ?_
          refine x_iconst C (pc := 264) dX8_cutBy_264 ?_
          refine x_iadd C (pc := 265) dX8_cutBy_265 ?_
          refine lv_iload hx hb (pc := 266) dX8_cutBy_266 (lv_at hl 5 rfl) ?_
          obtain ⟨q_67, hq_67, hf⟩ := ob_some hf
          refine x_callSi C h (pc := 268) hl (c_mo_box l D cI cJ cZ cO a l4 l5 (l8 + 1) l7 N q_67 hq_67) xs_X8_box lk_X8_171 ⟨(Nat.le_of_ble_eq_true rfl), (Nat.le_of_ble_eq_true rfl)⟩ rfl [] [0, 1, 2, 3, 4] (nw := 5) (wr := [((a 0), oM a M_edits M_typed M_readRows M_readColumns M_top M_bottom M_left M_right M_panes), ((a 1), aI cI 151 M_now), ((a 6), aI cI 49 M_pane), ((a 14), aI cI 2401 M_line), ((a 15), aI cI 128 M_waiting_66)]) (as := [(a 0), (a 1), (a 6), (a 14), (a 15)]) (ws' := [((a 0), oM a M_edits M_typed M_readRows M_readColumns M_top M_bottom M_left M_right M_panes), ((a 1), aI cI 151 M_now), ((a 6), aI cI 49 M_pane), ((a 14), aI cI 2401 M_line), ((a 15), aI cI 128 M_waiting_66)]) rfl rfl rfl rfl rfl rfl rfl rfl rfl rfl (Nat.le_of_ble_eq_true rfl) dX8_cutBy_268 (fun H locs h => ?_)
          have e9 := Option.some.inj hf
          subst e9
          exact Jr_69 _ _ _ (lv_sub hl [1] rfl) h
        · have hf := oi_t hf hc
          refine lv_iload hx hb (pc := 242) dX8_cutBy_242 (lv_at hl 6 rfl) ?_
          refine x_iconst C (pc := 244) dX8_cutBy_244 ?_
          refine x_iadd C (pc := 245) dX8_cutBy_245 ?_
          refine lv_iload hx hb (pc := 246) dX8_cutBy_246 (lv_at hl 3 rfl) ?_
          refine lv_iload hx hb (pc := 248) dX8_cutBy_248 (lv_at hl 4 rfl) ?_
          refine lv_iload hx hb (pc := 250) dX8_cutBy_250 (lv_at hl 5 rfl) ?_
          obtain ⟨q_68, hq_68, hf⟩ := ob_some hf
          refine x_callSi C h (pc := 252) hl (c_mo_box l D cI cJ cZ cO a (l8 + 1) l5 l6 l7 N q_68 hq_68) xs_X8_box lk_X8_171 ⟨(Nat.le_of_ble_eq_true rfl), (Nat.le_of_ble_eq_true rfl)⟩ rfl [] [0, 1, 2, 3, 4] (nw := 5) (wr := [((a 0), oM a M_edits M_typed M_readRows M_readColumns M_top M_bottom M_left M_right M_panes), ((a 1), aI cI 151 M_now), ((a 6), aI cI 49 M_pane), ((a 14), aI cI 2401 M_line), ((a 15), aI cI 128 M_waiting_66)]) (as := [(a 0), (a 1), (a 6), (a 14), (a 15)]) (ws' := [((a 0), oM a M_edits M_typed M_readRows M_readColumns M_top M_bottom M_left M_right M_panes), ((a 1), aI cI 151 M_now), ((a 6), aI cI 49 M_pane), ((a 14), aI cI 2401 M_line), ((a 15), aI cI 128 M_waiting_66)]) rfl rfl rfl rfl rfl rfl rfl rfl rfl rfl (Nat.le_of_ble_eq_true rfl) dX8_cutBy_252 (fun H locs h => ?_)
          refine lv_goto hx hb (pc := 255) (tgt := 271) dX8_cutBy_255 rfl ?_
          have e9 := Option.some.inj hf
          subst e9
          exact Jr_69 _ _ _ (lv_sub hl [1] rfl) h
      clear hf
      have hf := hrr_63
      refine x_icmpne C (pc := 200) (tgt := 217) g_59 ⟨by decide, by decide⟩ dX8_cutBy_200 rfl (fun hc => ?_) (fun hc => ?_)
      · have hf := oi_f hf hc
        refine lv_iload hx hb (pc := 217) dX8_cutBy_217 (lv_at hl 3 rfl) ?_
        refine lv_iload hx hb (pc := 219) dX8_cutBy_219 (lv_at hl 4 rfl) ?_
        refine lv_iload hx hb (pc := 221) dX8_cutBy_221 (lv_at hl 5 rfl) ?_
        refine lv_iload hx hb (pc := 223) dX8_cutBy_223 (lv_at hl 7 rfl) ?_
        obtain ⟨q_60, hq_60, hf⟩ := ob_some hf
        refine x_callSi C h (pc := 225) hl (c_mo_box l D cI cJ cZ cO a l4 l5 l6 l8 N q_60 hq_60) xs_X8_box lk_X8_171 ⟨(Nat.le_of_ble_eq_true rfl), (Nat.le_of_ble_eq_true rfl)⟩ rfl [] [0, 1, 2, 3, 4] (nw := 5) (wr := [((a 0), oM a M_edits M_typed M_readRows M_readColumns M_top M_bottom M_left M_right M_panes), ((a 1), aI cI 151 M_now), ((a 6), aI cI 49 M_pane), ((a 14), aI cI 2401 M_line), ((a 15), aI cI 128 M_waiting)]) (as := [(a 0), (a 1), (a 6), (a 14), (a 15)]) (ws' := [((a 0), oM a M_edits M_typed M_readRows M_readColumns M_top M_bottom M_left M_right M_panes), ((a 1), aI cI 151 M_now), ((a 6), aI cI 49 M_pane), ((a 14), aI cI 2401 M_line), ((a 15), aI cI 128 M_waiting)]) rfl rfl rfl rfl rfl rfl rfl rfl rfl rfl (Nat.le_of_ble_eq_true rfl) dX8_cutBy_225 (fun H locs h => ?_)
        have e9 := Option.some.inj hf
        subst e9
        exact Jr_63 _ _ _ (lv_sub hl [0, 2, 3, 4, 5, 6, 7, 8] rfl) h
      · have hf := oi_t hf hc
        refine lv_iload hx hb (pc := 203) dX8_cutBy_203 (lv_at hl 3 rfl) ?_
        refine lv_iload hx hb (pc := 205) dX8_cutBy_205 (lv_at hl 7 rfl) ?_
        refine lv_iload hx hb (pc := 207) dX8_cutBy_207 (lv_at hl 5 rfl) ?_
        refine lv_iload hx hb (pc := 209) dX8_cutBy_209 (lv_at hl 6 rfl) ?_
        obtain ⟨q_61, hq_61, hf⟩ := ob_some hf
        refine x_callSi C h (pc := 211) hl (c_mo_box l D cI cJ cZ cO a l4 l8 l6 l7 N q_61 hq_61) xs_X8_box lk_X8_171 ⟨(Nat.le_of_ble_eq_true rfl), (Nat.le_of_ble_eq_true rfl)⟩ rfl [] [0, 1, 2, 3, 4] (nw := 5) (wr := [((a 0), oM a M_edits M_typed M_readRows M_readColumns M_top M_bottom M_left M_right M_panes), ((a 1), aI cI 151 M_now), ((a 6), aI cI 49 M_pane), ((a 14), aI cI 2401 M_line), ((a 15), aI cI 128 M_waiting)]) (as := [(a 0), (a 1), (a 6), (a 14), (a 15)]) (ws' := [((a 0), oM a M_edits M_typed M_readRows M_readColumns M_top M_bottom M_left M_right M_panes), ((a 1), aI cI 151 M_now), ((a 6), aI cI 49 M_pane), ((a 14), aI cI 2401 M_line), ((a 15), aI cI 128 M_waiting)]) rfl rfl rfl rfl rfl rfl rfl rfl rfl rfl (Nat.le_of_ble_eq_true rfl) dX8_cutBy_211 (fun H locs h => ?_)
        refine lv_goto hx hb (pc := 214) (tgt := 228) dX8_cutBy_214 rfl ?_
        have e9 := Option.some.inj hf
        subst e9
        exact Jr_63 _ _ _ (lv_sub hl [0, 2, 3, 4, 5, 6, 7, 8] rfl) h
    · have hf := oi_f hf hc
      refine lv_iload hx hb (pc := 101) dX8_cutBy_101 (lv_at hl 8 rfl) ?_
      refine x_iconst C (pc := 103) dX8_cutBy_103 ?_
      obtain ⟨g_62, hf⟩ := og_some hf
      obtain ⟨r_64, hrr_64, hf⟩ := ob_some hf
      have Jr_64 : ∀ (ls : Array Slot) (H : Heap) (locs : List Loc), lv_has ls 14 [(0, .ref (a 0)), (1, iv l1), (3, iv l3), (4, iv l4), (5, iv l5), (6, iv l6), (7, iv l7), (8, iv l8), (9, iv l9), (11, iv l11), (12, iv l12)] → XH D A H0 [((a 0), oM a M_edits M_typed M_readRows M_readColumns M_top M_bottom M_left M_right M_panes), ((a 1), aI cI 151 M_now), ((a 6), aI cI 49 M_pane), ((a 14), aI cI 2401 M_line), ((a 15), aI cI 128 M_waiting)] H locs → W p l e rm_mo_cutBy s m args below meth c H locs 0 0 Q (F0 m 126 ls [iv r_64]) := by
        intro ls H locs hl h
        refine lv_istore hx hb (pc := 126) (lv' := [(13, iv r_64), (0, .ref (a 0)), (1, iv l1), (3, iv l3), (4, iv l4), (5, iv l5), (6, iv l6), (7, iv l7), (8, iv l8), (9, iv l9), (11, iv l11), (12, iv l12)]) dX8_cutBy_126 hl (Nat.le_of_ble_eq_true rfl) rfl (fun ls hl => ?_)
        refine lv_aload_n hx hb (pc := 128) dX8_cutBy_128 rfl (lv_at hl 1 rfl) ?_
        refine x_get C h (pc := 129) xf_X8_7 0 rfl (v := .ref (a 1)) rfl dX8_cutBy_129 ?_
        refine x_bipush C (pc := 132) dX8_cutBy_132 (by decide) ?_
        refine x_bipush C (pc := 134) dX8_cutBy_134 (by decide) ?_
        refine lv_iload hx hb (pc := 136) dX8_cutBy_136 (lv_at hl 9 rfl) ?_
        refine x_imul C (pc := 138) dX8_cutBy_138 ?_
        refine x_iadd C (pc := 139) dX8_cutBy_139 ?_
        refine lv_iload hx hb (pc := 140) dX8_cutBy_140 (lv_at hl 0 rfl) ?_
        refine x_iadd C (pc := 142) dX8_cutBy_142 ?_
        refine lv_aload_n hx hb (pc := 143) dX8_cutBy_143 rfl (lv_at hl 1 rfl) ?_
        refine x_get C h (pc := 144) xf_X8_25 0 rfl (v := .ref (a 6)) rfl dX8_cutBy_144 ?_
        refine lv_iload hx hb (pc := 147) dX8_cutBy_147 (lv_at hl 0 rfl) ?_
        obtain ⟨g_72, hf⟩ := og_some hf
        refine x_iald C h (pc := 149) 2 0 rfl rfl (Nat.le_of_ble_eq_true rfl) g_72 dX8_cutBy_149 ?_
        refine lv_iload_n hx hb (pc := 150) dX8_cutBy_150 rfl (lv_at hl 2 rfl) ?_
        obtain ⟨g_73, hf⟩ := og_some hf
        obtain ⟨g_74, hf⟩ := og_some hf
        refine x_icmpne C (pc := 151) (tgt := 169) g_73 g_74 dX8_cutBy_151 rfl (fun hc => ?_) (fun hc => ?_)
        · have hf := oi_f hf hc
          exact w_mo_cutBy_169 C a M_edits M_typed M_readRows M_readColumns M_top M_bottom M_left M_right M_panes M_pane M_line Res hret N l1 l3 l4 l5 l6 l7 l8 l9 l11 M_waiting (f_mo_cutBy_94 N l1 l3 l4 l5 l6 l7 l8 l9 l11 M_waiting M_pane n) ih l12 r_64 ((53 + (49 * l9)) + r_64) M_now _ _ _ (lv_sub hl [1, 2, 3, 4, 5, 6, 7, 8, 9, 10, 11, 0] rfl) h hf
        · have hf := oi_t hf hc
          refine lv_aload_n hx hb (pc := 154) dX8_cutBy_154 rfl (lv_at hl 1 rfl) ?_
          refine lv_iload hx hb (pc := 155) dX8_cutBy_155 (lv_at hl 0 rfl) ?_
          refine lv_iload hx hb (pc := 157) dX8_cutBy_157 (lv_at hl 9 rfl) ?_
          obtain ⟨q_75, hq_75, hf⟩ := ob_some hf
          refine x_callVi C h (pc := 159) hl (c_mo_joins l D cI cJ cZ cO a M_edits M_typed M_readRows M_readColumns M_top M_bottom M_left M_right M_panes M_now r_64 l9 N q_75 hq_75) xv_X8_joins lk_X8_128 ⟨(Nat.le_of_ble_eq_true rfl), (Nat.le_of_ble_eq_true rfl)⟩ rfl [0, 1] [2, 3, 4] (nw := 5) (wr := [((a 6), aI cI 49 M_pane), ((a 14), aI cI 2401 M_line), ((a 15), aI cI 128 M_waiting)]) (as := [(a 0), (a 1), (a 6), (a 14), (a 15)]) (ws' := [((a 0), oM a M_edits M_typed M_readRows M_readColumns M_top M_bottom M_left M_right M_panes), ((a 1), aI cI 151 M_now), ((a 6), aI cI 49 M_pane), ((a 14), aI cI 2401 M_line), ((a 15), aI cI 128 M_waiting)]) rfl rfl rfl rfl rfl rfl rfl rfl rfl 0 rfl rfl rfl rfl (Nat.le_of_ble_eq_true rfl) dX8_cutBy_159 (fun H locs h => ?_)
          obtain ⟨g_76, hf⟩ := og_some hf
          refine x_ifeq C (pc := 162) (tgt := 169) g_76 dX8_cutBy_162 rfl (fun hc => ?_) (fun hc => ?_)
          · have hf := oi_t hf hc
            exact w_mo_cutBy_169 C a M_edits M_typed M_readRows M_readColumns M_top M_bottom M_left M_right M_panes M_pane M_line Res hret N l1 l3 l4 l5 l6 l7 l8 l9 l11 M_waiting (f_mo_cutBy_94 N l1 l3 l4 l5 l6 l7 l8 l9 l11 M_waiting M_pane n) ih l12 r_64 ((53 + (49 * l9)) + r_64) M_now _ _ _ (lv_sub hl [1, 2, 3, 4, 5, 6, 7, 8, 9, 10, 11, 0] rfl) h hf
          · have hf := oi_f hf hc
            refine x_iconst C (pc := 165) dX8_cutBy_165 ?_
            refine lv_goto hx hb (pc := 166) (tgt := 185) dX8_cutBy_166 rfl ?_
            exact w_mo_cutBy_185 C a M_edits M_typed M_readRows M_readColumns M_top M_bottom M_left M_right M_panes M_pane M_line Res hret N l1 l3 l4 l5 l6 l7 l8 l9 l11 M_waiting (f_mo_cutBy_94 N l1 l3 l4 l5 l6 l7 l8 l9 l11 M_waiting M_pane n) ih l12 ((53 + (49 * l9)) + r_64) 1 M_now _ _ _ (lv_sub hl [1, 2, 3, 4, 5, 6, 7, 8, 9, 10, 11] rfl) h hf
      clear hf
      have hf := hrr_64
      refine x_icmpne C (pc := 104) (tgt := 118) g_62 ⟨by decide, by decide⟩ dX8_cutBy_104 rfl (fun hc => ?_) (fun hc => ?_)
      · have hf := oi_f hf hc
        refine x_bipush C (pc := 118) dX8_cutBy_118 (by decide) ?_
        refine lv_iload hx hb (pc := 120) dX8_cutBy_120 (lv_at hl 10 rfl) ?_
        refine x_imul C (pc := 122) dX8_cutBy_122 ?_
        refine lv_iload hx hb (pc := 123) dX8_cutBy_123 (lv_at hl 7 rfl) ?_
        refine x_iadd C (pc := 125) dX8_cutBy_125 ?_
        have e9 := Option.some.inj hf
        subst e9
        exact Jr_64 _ _ _ (lv_sub hl [0, 1, 2, 3, 4, 5, 6, 7, 8, 9, 10] rfl) h
      · have hf := oi_t hf hc
        refine x_bipush C (pc := 107) dX8_cutBy_107 (by decide) ?_
        refine lv_iload hx hb (pc := 109) dX8_cutBy_109 (lv_at hl 7 rfl) ?_
        refine x_imul C (pc := 111) dX8_cutBy_111 ?_
        refine lv_iload hx hb (pc := 112) dX8_cutBy_112 (lv_at hl 10 rfl) ?_
        refine x_iadd C (pc := 114) dX8_cutBy_114 ?_
        refine lv_goto hx hb (pc := 115) (tgt := 126) dX8_cutBy_115 rfl ?_
        have e9 := Option.some.inj hf
        subst e9
        exact Jr_64 _ _ _ (lv_sub hl [0, 1, 2, 3, 4, 5, 6, 7, 8, 9, 10] rfl) h
set_option maxHeartbeats 4000000 in
set_option maxRecDepth 100000 in
theorem c_mo_cutBy (l : Launch) (D : va_G) (cI cJ cZ cO : ClassId) (a : Nat → Nat) (M_edits : Int) (M_typed : Int) (M_readRows : Int) (M_readColumns : Int) (M_top : Int) (M_bottom : Int) (M_left : Int) (M_right : Int) (M_panes : Int) (M_now : Int → Int) (M_pane : Int → Int) (M_line : Int → Int) (M_waiting : Int → Int) (l1 : Int) (l2 : Int) (l3 : Int) (N : Nat) (Res : Int × (Int → Int) × (Int → Int)) (hf : f_mo_cutBy N l1 l2 l3 M_now M_pane M_line M_waiting = some Res) : CoI l D (xT cI cJ cZ cO) yX8_cutBy cX8_cutBy 14 (some .int) rm_mo_cutBy [.ref (a 0), iv l1, iv l2, iv l3] [((a 0), oM a M_edits M_typed M_readRows M_readColumns M_top M_bottom M_left M_right M_panes), ((a 1), aI cI 151 M_now), ((a 6), aI cI 49 M_pane), ((a 14), aI cI 2401 M_line), ((a 15), aI cI 128 M_waiting)] Res.1 [((a 0), oM a M_edits M_typed M_readRows M_readColumns M_top M_bottom M_left M_right M_panes), ((a 1), aI cI 151 Res.2.1), ((a 6), aI cI 49 M_pane), ((a 14), aI cI 2401 M_line), ((a 15), aI cI 128 Res.2.2)] := by
  refine co_i (by decide) ⟨rfl, rfl⟩ (Nat.le_of_ble_eq_true rfl) ?_
  intro p e s m args below meth c A Q ls C hret hl h
  have hx := C.1.1
  have hb := C.1.2.1
  have hl : lv_has ls 14 [(0, .ref (a 0)), (1, iv l1), (2, iv l2), (3, iv l3)] := hl
  unfold f_mo_cutBy at hf
  refine lv_iload_n hx hb (pc := 0) dX8_cutBy_0 rfl (lv_at hl 2 rfl) ?_
  refine x_sipush C (pc := 1) dX8_cutBy_1 (by decide) ?_
  obtain ⟨g_42, hf⟩ := og_some hf
  refine x_idiv C (pc := 4) g_42 ⟨by decide, by decide⟩ dX8_cutBy_4 ?_
  obtain ⟨l4_43, el4_43, hf⟩ := ol_some hf
  refine x_topi el4_43 ?_
  refine lv_istore hx hb (pc := 5) (lv' := [(4, iv l4_43), (0, .ref (a 0)), (1, iv l1), (2, iv l2), (3, iv l3)]) dX8_cutBy_5 hl (Nat.le_of_ble_eq_true rfl) rfl (fun ls hl => ?_)
  refine lv_iload_n hx hb (pc := 7) dX8_cutBy_7 rfl (lv_at hl 3 rfl) ?_
  refine x_bipush C (pc := 8) dX8_cutBy_8 (by decide) ?_
  refine x_idiv C (pc := 10) g_42 ⟨by decide, by decide⟩ dX8_cutBy_10 ?_
  refine x_bipush C (pc := 11) dX8_cutBy_11 (by decide) ?_
  obtain ⟨g_44, hf⟩ := og_some hf
  refine x_irem C (pc := 13) g_44 ⟨by decide, by decide⟩ dX8_cutBy_13 ?_
  obtain ⟨l5_45, el5_45, hf⟩ := ol_some hf
  refine x_topi el5_45 ?_
  refine lv_istore hx hb (pc := 14) (lv' := [(5, iv l5_45), (4, iv l4_43), (0, .ref (a 0)), (1, iv l1), (2, iv l2), (3, iv l3)]) dX8_cutBy_14 hl (Nat.le_of_ble_eq_true rfl) rfl (fun ls hl => ?_)
  refine lv_iload_n hx hb (pc := 16) dX8_cutBy_16 rfl (lv_at hl 4 rfl) ?_
  refine x_bipush C (pc := 17) dX8_cutBy_17 (by decide) ?_
  refine x_idiv C (pc := 19) g_42 ⟨by decide, by decide⟩ dX8_cutBy_19 ?_
  refine x_bipush C (pc := 20) dX8_cutBy_20 (by decide) ?_
  obtain ⟨g_46, hf⟩ := og_some hf
  refine x_irem C (pc := 22) g_46 ⟨by decide, by decide⟩ dX8_cutBy_22 ?_
  obtain ⟨l6_47, el6_47, hf⟩ := ol_some hf
  refine x_topi el6_47 ?_
  refine lv_istore hx hb (pc := 23) (lv' := [(6, iv l6_47), (5, iv l5_45), (4, iv l4_43), (0, .ref (a 0)), (1, iv l1), (2, iv l2), (3, iv l3)]) dX8_cutBy_23 hl (Nat.le_of_ble_eq_true rfl) rfl (fun ls hl => ?_)
  refine lv_iload_n hx hb (pc := 25) dX8_cutBy_25 rfl (lv_at hl 5 rfl) ?_
  refine x_bipush C (pc := 26) dX8_cutBy_26 (by decide) ?_
  refine x_irem C (pc := 28) g_42 ⟨by decide, by decide⟩ dX8_cutBy_28 ?_
  obtain ⟨l7_48, el7_48, hf⟩ := ol_some hf
  refine x_topi el7_48 ?_
  refine lv_istore hx hb (pc := 29) (lv' := [(7, iv l7_48), (6, iv l6_47), (5, iv l5_45), (4, iv l4_43), (0, .ref (a 0)), (1, iv l1), (2, iv l2), (3, iv l3)]) dX8_cutBy_29 hl (Nat.le_of_ble_eq_true rfl) rfl (fun ls hl => ?_)
  refine lv_aload_n hx hb (pc := 31) dX8_cutBy_31 rfl (lv_at hl 4 rfl) ?_
  refine x_get C h (pc := 32) xf_X8_50 0 rfl (v := .ref (a 14)) rfl dX8_cutBy_32 ?_
  refine lv_iload_n hx hb (pc := 35) dX8_cutBy_35 rfl (lv_at hl 6 rfl) ?_
  obtain ⟨g_49, hf⟩ := og_some hf
  refine x_iald C h (pc := 36) 3 0 rfl rfl (Nat.le_of_ble_eq_true rfl) g_49 dX8_cutBy_36 ?_
  refine x_bipush C (pc := 37) dX8_cutBy_37 (by decide) ?_
  obtain ⟨g_50, hf⟩ := og_some hf
  refine x_irem C (pc := 39) g_50 ⟨by decide, by decide⟩ dX8_cutBy_39 ?_
  obtain ⟨l8_51, el8_51, hf⟩ := ol_some hf
  refine x_topi el8_51 ?_
  refine lv_istore hx hb (pc := 40) (lv' := [(8, iv l8_51), (7, iv l7_48), (6, iv l6_47), (5, iv l5_45), (4, iv l4_43), (0, .ref (a 0)), (1, iv l1), (2, iv l2), (3, iv l3)]) dX8_cutBy_40 hl (Nat.le_of_ble_eq_true rfl) rfl (fun ls hl => ?_)
  refine lv_aload_n hx hb (pc := 42) dX8_cutBy_42 rfl (lv_at hl 5 rfl) ?_
  refine x_get C h (pc := 43) xf_X8_50 0 rfl (v := .ref (a 14)) rfl dX8_cutBy_43 ?_
  refine lv_iload_n hx hb (pc := 46) dX8_cutBy_46 rfl (lv_at hl 7 rfl) ?_
  refine x_iald C h (pc := 47) 3 0 rfl rfl (Nat.le_of_ble_eq_true rfl) g_49 dX8_cutBy_47 ?_
  refine x_bipush C (pc := 48) dX8_cutBy_48 (by decide) ?_
  obtain ⟨g_52, hf⟩ := og_some hf
  obtain ⟨r_53, hrr_53, hf⟩ := ob_some hf
  have Jr_53 : ∀ (ls : Array Slot) (H : Heap) (locs : List Loc), lv_has ls 14 [(0, .ref (a 0)), (1, iv l1), (3, iv l3), (4, iv l4_43), (5, iv l5_45), (6, iv l6_47), (7, iv l7_48), (8, iv l8_51)] → XH D A s.heap [((a 0), oM a M_edits M_typed M_readRows M_readColumns M_top M_bottom M_left M_right M_panes), ((a 1), aI cI 151 M_now), ((a 6), aI cI 49 M_pane), ((a 14), aI cI 2401 M_line), ((a 15), aI cI 128 M_waiting)] H locs → W p l e rm_mo_cutBy s m args below meth c H locs 0 0 Q (F0 m 58 ls [iv r_53]) := by
    intro ls H locs hl h
    refine lv_istore hx hb (pc := 58) (lv' := [(9, iv r_53), (0, .ref (a 0)), (1, iv l1), (3, iv l3), (4, iv l4_43), (5, iv l5_45), (6, iv l6_47), (7, iv l7_48), (8, iv l8_51)]) dX8_cutBy_58 hl (Nat.le_of_ble_eq_true rfl) rfl (fun ls hl => ?_)
    refine lv_iload hx hb (pc := 60) dX8_cutBy_60 (lv_at hl 0 rfl) ?_
    refine x_iconst C (pc := 62) dX8_cutBy_62 ?_
    obtain ⟨g_54, hf⟩ := og_some hf
    obtain ⟨r_55, hrr_55, hf⟩ := ob_some hf
    have Jr_55 : ∀ (ls : Array Slot) (H : Heap) (locs : List Loc), lv_has ls 14 [(0, .ref (a 0)), (1, iv l1), (3, iv l3), (4, iv l4_43), (5, iv l5_45), (6, iv l6_47), (7, iv l7_48), (8, iv l8_51), (9, iv r_53)] → XH D A s.heap [((a 0), oM a M_edits M_typed M_readRows M_readColumns M_top M_bottom M_left M_right M_panes), ((a 1), aI cI 151 M_now), ((a 6), aI cI 49 M_pane), ((a 14), aI cI 2401 M_line), ((a 15), aI cI 128 M_waiting)] H locs → W p l e rm_mo_cutBy s m args below meth c H locs 0 0 Q (F0 m 73 ls [iv r_55]) := by
      intro ls H locs hl h
      obtain ⟨r_56, hrr_56, hf⟩ := ob_some hf
      have Jr_56 : ∀ (ls : Array Slot) (H : Heap) (locs : List Loc), lv_has ls 14 [(0, .ref (a 0)), (1, iv l1), (3, iv l3), (4, iv l4_43), (5, iv l5_45), (6, iv l6_47), (7, iv l7_48), (8, iv l8_51), (9, iv r_53), (11, iv r_56), (12, iv r_55)] → XH D A s.heap [((a 0), oM a M_edits M_typed M_readRows M_readColumns M_top M_bottom M_left M_right M_panes), ((a 1), aI cI 151 M_now), ((a 6), aI cI 49 M_pane), ((a 14), aI cI 2401 M_line), ((a 15), aI cI 128 M_waiting)] H locs → W p l e rm_mo_cutBy s m args below meth c H locs 0 0 Q (F0 m 94 ls []) := by
        intro ls H locs hl h
        exact w_mo_cutBy_94 C a M_edits M_typed M_readRows M_readColumns M_top M_bottom M_left M_right M_panes M_pane M_line Res hret N l1 l3 l4_43 l5_45 l6_47 l7_48 l8_51 r_53 r_56 M_waiting N r_55 M_now _ _ _ (lv_sub hl [0, 1, 2, 3, 4, 5, 6, 7, 8, 9, 10] rfl) h hf
      clear hf
      have hf := hrr_56
      refine lv_istore hx hb (pc := 73) (lv' := [(10, iv r_55), (0, .ref (a 0)), (1, iv l1), (3, iv l3), (4, iv l4_43), (5, iv l5_45), (6, iv l6_47), (7, iv l7_48), (8, iv l8_51), (9, iv r_53)]) dX8_cutBy_73 hl (Nat.le_of_ble_eq_true rfl) rfl (fun ls hl => ?_)
      refine lv_iload hx hb (pc := 75) dX8_cutBy_75 (lv_at hl 9 rfl) ?_
      refine x_iconst C (pc := 77) dX8_cutBy_77 ?_
      refine x_icmpne C (pc := 78) (tgt := 86) g_54 ⟨by decide, by decide⟩ dX8_cutBy_78 rfl (fun hc => ?_) (fun hc => ?_)
      · have hf := oi_f hf hc
        refine lv_iload hx hb (pc := 86) dX8_cutBy_86 (lv_at hl 5 rfl) ?_
        refine lv_istore hx hb (pc := 88) (lv' := [(11, iv l5_45), (10, iv r_55), (0, .ref (a 0)), (1, iv l1), (3, iv l3), (4, iv l4_43), (5, iv l5_45), (6, iv l6_47), (7, iv l7_48), (8, iv l8_51), (9, iv r_53)]) dX8_cutBy_88 hl (Nat.le_of_ble_eq_true rfl) rfl (fun ls hl => ?_)
        refine lv_iload hx hb (pc := 90) dX8_cutBy_90 (lv_at hl 1 rfl) ?_
        refine lv_istore hx hb (pc := 92) (lv' := [(12, iv r_55), (11, iv l5_45), (10, iv r_55), (0, .ref (a 0)), (1, iv l1), (3, iv l3), (4, iv l4_43), (5, iv l5_45), (6, iv l6_47), (7, iv l7_48), (8, iv l8_51), (9, iv r_53)]) dX8_cutBy_92 hl (Nat.le_of_ble_eq_true rfl) rfl (fun ls hl => ?_)
        have e9 := Option.some.inj hf
        subst e9
        exact Jr_56 _ _ _ (lv_sub hl [3, 4, 5, 6, 7, 8, 9, 10, 11, 1, 0] rfl) h
      · have hf := oi_t hf hc
        refine lv_iload hx hb (pc := 81) dX8_cutBy_81 (lv_at hl 7 rfl) ?_
        refine lv_goto hx hb (pc := 83) (tgt := 88) dX8_cutBy_83 rfl ?_
        refine lv_istore hx hb (pc := 88) (lv' := [(11, iv l7_48), (10, iv r_55), (0, .ref (a 0)), (1, iv l1), (3, iv l3), (4, iv l4_43), (5, iv l5_45), (6, iv l6_47), (7, iv l7_48), (8, iv l8_51), (9, iv r_53)]) dX8_cutBy_88 hl (Nat.le_of_ble_eq_true rfl) rfl (fun ls hl => ?_)
        refine lv_iload hx hb (pc := 90) dX8_cutBy_90 (lv_at hl 1 rfl) ?_
        refine lv_istore hx hb (pc := 92) (lv' := [(12, iv r_55), (11, iv l7_48), (10, iv r_55), (0, .ref (a 0)), (1, iv l1), (3, iv l3), (4, iv l4_43), (5, iv l5_45), (6, iv l6_47), (7, iv l7_48), (8, iv l8_51), (9, iv r_53)]) dX8_cutBy_92 hl (Nat.le_of_ble_eq_true rfl) rfl (fun ls hl => ?_)
        have e9 := Option.some.inj hf
        subst e9
        exact Jr_56 _ _ _ (lv_sub hl [3, 4, 5, 6, 7, 8, 9, 10, 11, 1, 0] rfl) h
    clear hf
    have hf := hrr_55
    refine x_icmpne C (pc := 63) (tgt := 71) g_54 ⟨by decide, by decide⟩ dX8_cutBy_63 rfl (fun hc => ?_) (fun hc => ?_)
    · have hf := oi_f hf hc
      refine lv_iload hx hb (pc := 71) dX8_cutBy_71 (lv_at hl 4 rfl) ?_
      have e9 := Option.some.inj hf
      subst e9
      exact Jr_55 _ _ _ (lv_sub hl [1, 2, 3, 4, 5, 6, 7, 8, 0] rfl) h
    · have hf := oi_t hf hc
      refine lv_iload hx hb (pc := 66) dX8_cutBy_66 (lv_at hl 6 rfl) ?_
      refine lv_goto hx hb (pc := 68) (tgt := 73) dX8_cutBy_68 rfl ?_
      have e9 := Option.some.inj hf
      subst e9
      exact Jr_55 _ _ _ (lv_sub hl [1, 2, 3, 4, 5, 6, 7, 8, 0] rfl) h
  clear hf
  have hf := hrr_53
  refine x_icmpge C (pc := 50) (tgt := 57) g_52 ⟨by decide, by decide⟩ dX8_cutBy_50 rfl (fun hc => ?_) (fun hc => ?_)
  · have hf := oi_t hf hc
    refine x_iconst C (pc := 57) dX8_cutBy_57 ?_
    have e9 := Option.some.inj hf
    subst e9
    exact Jr_53 _ _ _ (lv_sub hl [5, 6, 8, 4, 3, 2, 1, 0] rfl) h
  · have hf := oi_f hf hc
    refine x_iconst C (pc := 53) dX8_cutBy_53 ?_
    refine lv_goto hx hb (pc := 54) (tgt := 58) dX8_cutBy_54 rfl ?_
    have e9 := Option.some.inj hf
    subst e9
    exact Jr_53 _ _ _ (lv_sub hl [5, 6, 8, 4, 3, 2, 1, 0] rfl) h
abbrev rm_mo_applySplit : Room := { frames := 8, cells := 0, slots := 0, locals := 206 }
set_option maxHeartbeats 4000000 in
set_option maxRecDepth 100000 in
theorem w_mo_applySplit_38 {p : Program} {l : Launch} {e : Env} {s : State} {m : MethodId} {args : Array Value} {below : List Frame} {meth : Method} {c : Code} {Q : State → Prop} {D : va_G} {cI cJ cZ cO : ClassId} {A : Nat → Prop} {H0 : Heap} {w0 : Cond} (C : XC p s m args c cX8_applySplit 4 RX8 w0 D (xT cI cJ cZ cO)) (a : Nat → Nat) (M_typed : Int) (M_readRows : Int) (M_readColumns : Int) (Res : Int × Int × Int × Int × Int × Int × Int × (Int → Int) × (Int → Int) × (Int → Int) × (Int → Int) × (Int → Int) × (Int → Int) × (Int → Int) × (Int → Int) × (Int → Int) × (Int → Int) × (Int → Int)) (hret : XRI p l e rm_mo_applySplit s m args below meth c cX8_applySplit D A H0 Q Res.1 [((a 0), oM a Res.2.1 M_typed M_readRows M_readColumns Res.2.2.1 Res.2.2.2.1 Res.2.2.2.2.1 Res.2.2.2.2.2.1 Res.2.2.2.2.2.2.1), ((a 1), aI cI 151 Res.2.2.2.2.2.2.2.1), ((a 2), aI cI 1208 Res.2.2.2.2.2.2.2.2.1), ((a 5), aI cI 49 Res.2.2.2.2.2.2.2.2.2.1), ((a 6), aI cI 49 Res.2.2.2.2.2.2.2.2.2.2.1), ((a 7), aI cI 49 Res.2.2.2.2.2.2.2.2.2.2.2.1), ((a 8), aI cI 49 Res.2.2.2.2.2.2.2.2.2.2.2.2.1), ((a 9), aI cZ 49 Res.2.2.2.2.2.2.2.2.2.2.2.2.2.1), ((a 12), aI cI 2401 Res.2.2.2.2.2.2.2.2.2.2.2.2.2.2.1), ((a 13), aI cI 2401 Res.2.2.2.2.2.2.2.2.2.2.2.2.2.2.2.1), ((a 14), aI cI 2401 Res.2.2.2.2.2.2.2.2.2.2.2.2.2.2.2.2.1), ((a 15), aI cI 128 Res.2.2.2.2.2.2.2.2.2.2.2.2.2.2.2.2.2)]) (N : Nat) (l1 : Int) (M_edits : Int) (M_top : Int) (M_bottom : Int) (M_left : Int) (M_right : Int) (M_panes : Int) (M_past : Int → Int) (M_queue : Int → Int) (M_pane : Int → Int) (M_fragment : Int → Int) (M_size : Int → Int) (M_seen : Int → Int) (M_pieces : Int → Int) (M_leads : Int → Int) (M_line : Int → Int) : ∀ (n : Nat) (l2 : Int) (M_now : Int → Int) (M_waiting : Int → Int) (ls : Array Slot) (H : Heap) (locs : List Loc), lv_has ls 4 [(0, .ref (a 0)), (1, iv l1), (2, iv l2)] → XH D A H0 [((a 0), oM a M_edits M_typed M_readRows M_readColumns M_top M_bottom M_left M_right M_panes), ((a 1), aI cI 151 M_now), ((a 2), aI cI 1208 M_past), ((a 5), aI cI 49 M_queue), ((a 6), aI cI 49 M_pane), ((a 7), aI cI 49 M_fragment), ((a 8), aI cI 49 M_size), ((a 9), aI cZ 49 M_seen), ((a 12), aI cI 2401 M_pieces), ((a 13), aI cI 2401 M_leads), ((a 14), aI cI 2401 M_line), ((a 15), aI cI 128 M_waiting)] H locs → f_mo_applySplit_38 N l1 M_edits M_top M_bottom M_left M_right M_panes M_past M_queue M_pane M_fragment M_size M_seen M_pieces M_leads M_line n l2 M_now M_waiting = some Res → W p l e rm_mo_applySplit s m args below meth c H locs 0 0 Q (F0 m 38 ls []) := by
  have hx := C.1.1
  have hb := C.1.2.1
  intro n
  induction n with
  | zero => intro l2 M_now M_waiting ls H locs hl h hf; cases hf
  | succ n ih =>
    intro l2 M_now M_waiting ls H locs hl h hf
    rw [f_mo_applySplit_38.eq_2] at hf
    refine lv_iload_n hx hb (pc := 38) dX8_applySplit_38 rfl (lv_at hl 2 rfl) ?_
    obtain ⟨g_8, hf⟩ := og_some hf
    refine x_ifle C (pc := 39) (tgt := 77) g_8 dX8_applySplit_39 rfl (fun hc => ?_) (fun hc => ?_)
    · have hf := oi_t hf hc
      refine lv_aload_n hx hb (pc := 77) dX8_applySplit_77 rfl (lv_at hl 0 rfl) ?_
      obtain ⟨q_9, hq_9, hf⟩ := ob_some hf
      refine x_callVv C h (pc := 78) hl (c_mo_findPanes l D cI cJ cZ cO a M_edits M_typed M_readRows M_readColumns M_top M_bottom M_left M_right M_panes M_now M_queue M_pane M_size N q_9 hq_9) xv_X8_findPanes lk_X8_89 ⟨(Nat.le_of_ble_eq_true rfl), (Nat.le_of_ble_eq_true rfl)⟩ rfl [0, 1, 3, 4, 6] [2, 5, 7, 8, 9, 10, 11] (nw := 12) (wr := [((a 2), aI cI 1208 M_past), ((a 7), aI cI 49 M_fragment), ((a 9), aI cZ 49 M_seen), ((a 12), aI cI 2401 M_pieces), ((a 13), aI cI 2401 M_leads), ((a 14), aI cI 2401 M_line), ((a 15), aI cI 128 M_waiting)]) (as := [(a 0), (a 1), (a 2), (a 5), (a 6), (a 7), (a 8), (a 9), (a 12), (a 13), (a 14), (a 15)]) (ws' := [((a 0), oM a M_edits M_typed M_readRows M_readColumns q_9.1 q_9.2.1 q_9.2.2.1 q_9.2.2.2.1 q_9.2.2.2.2.1), ((a 1), aI cI 151 M_now), ((a 2), aI cI 1208 M_past), ((a 5), aI cI 49 q_9.2.2.2.2.2.1), ((a 6), aI cI 49 q_9.2.2.2.2.2.2.1), ((a 7), aI cI 49 M_fragment), ((a 8), aI cI 49 q_9.2.2.2.2.2.2.2), ((a 9), aI cZ 49 M_seen), ((a 12), aI cI 2401 M_pieces), ((a 13), aI cI 2401 M_leads), ((a 14), aI cI 2401 M_line), ((a 15), aI cI 128 M_waiting)]) rfl rfl rfl rfl rfl rfl rfl rfl rfl 0 rfl rfl rfl rfl (Nat.le_of_ble_eq_true rfl) dX8_applySplit_78 (fun H locs h => ?_)
      refine lv_aload_n hx hb (pc := 81) dX8_applySplit_81 rfl (lv_at hl 0 rfl) ?_
      refine x_get C h (pc := 82) xf_X8_92 0 rfl (v := iv q_9.2.2.2.2.1) rfl dX8_applySplit_82 ?_
      have e9 := Option.some.inj hf
      subst e9
      exact hret _ _ _ _ dX8_applySplit_85 h
    · have hf := oi_f hf hc
      obtain ⟨l2_10, el2_10, hf⟩ := ol_some hf
      refine x_iinc C (pc := 42) (k := 2) (lw' := [(2, iv l2_10), (0, .ref (a 0)), (1, iv l1)]) dX8_applySplit_42 hl rfl el2_10 (Nat.le_of_ble_eq_true rfl) rfl (fun ls hl => ?_)
      refine lv_aload_n hx hb (pc := 45) dX8_applySplit_45 rfl (lv_at hl 1 rfl) ?_
      refine x_get C h (pc := 46) xf_X8_53 0 rfl (v := .ref (a 15)) rfl dX8_applySplit_46 ?_
      refine lv_iload_n hx hb (pc := 49) dX8_applySplit_49 rfl (lv_at hl 0 rfl) ?_
      obtain ⟨g_11, hf⟩ := og_some hf
      refine x_iald C h (pc := 50) 11 0 rfl rfl (Nat.le_of_ble_eq_true rfl) g_11 dX8_applySplit_50 ?_
      obtain ⟨l3_12, el3_12, hf⟩ := ol_some hf
      refine x_topi el3_12 ?_
      refine lv_istore_n hx hb (pc := 51) (lv' := [(3, iv l3_12), (2, iv l2_10), (0, .ref (a 0)), (1, iv l1)]) dX8_applySplit_51 rfl hl (Nat.le_of_ble_eq_true rfl) rfl (fun ls hl => ?_)
      refine lv_aload_n hx hb (pc := 52) dX8_applySplit_52 rfl (lv_at hl 2 rfl) ?_
      refine x_get C h (pc := 53) xf_X8_50 0 rfl (v := .ref (a 14)) rfl dX8_applySplit_53 ?_
      refine lv_iload_n hx hb (pc := 56) dX8_applySplit_56 rfl (lv_at hl 0 rfl) ?_
      obtain ⟨g_13, hf⟩ := og_some hf
      refine x_iald C h (pc := 57) 10 0 rfl rfl (Nat.le_of_ble_eq_true rfl) g_13 dX8_applySplit_57 ?_
      refine x_iconst C (pc := 58) dX8_applySplit_58 ?_
      obtain ⟨g_14, hf⟩ := og_some hf
      obtain ⟨r_16, hrr_16, hf⟩ := ob_some hf
      have Jr_16 : ∀ (ls : Array Slot) (H : Heap) (locs : List Loc), lv_has ls 4 [(0, .ref (a 0)), (1, iv l1), (2, iv r_16.1)] → XH D A H0 [((a 0), oM a M_edits M_typed M_readRows M_readColumns M_top M_bottom M_left M_right M_panes), ((a 1), aI cI 151 r_16.2.1), ((a 2), aI cI 1208 M_past), ((a 5), aI cI 49 M_queue), ((a 6), aI cI 49 M_pane), ((a 7), aI cI 49 M_fragment), ((a 8), aI cI 49 M_size), ((a 9), aI cZ 49 M_seen), ((a 12), aI cI 2401 M_pieces), ((a 13), aI cI 2401 M_leads), ((a 14), aI cI 2401 M_line), ((a 15), aI cI 128 r_16.2.2)] H locs → W p l e rm_mo_applySplit s m args below meth c H locs 0 0 Q (F0 m 38 ls []) := by
        intro ls H locs hl h
        exact ih r_16.1 r_16.2.1 r_16.2.2 _ _ _ (lv_sub hl [0, 1, 2] rfl) h hf
      clear hf
      have hf := hrr_16
      refine x_icmpne C (pc := 59) (tgt := 66) g_14 ⟨by decide, by decide⟩ dX8_applySplit_59 rfl (fun hc => ?_) (fun hc => ?_)
      · have hf := oi_f hf hc
        refine lv_aload_n hx hb (pc := 66) dX8_applySplit_66 rfl (lv_at hl 2 rfl) ?_
        refine lv_iload_n hx hb (pc := 67) dX8_applySplit_67 rfl (lv_at hl 3 rfl) ?_
        refine lv_iload_n hx hb (pc := 68) dX8_applySplit_68 rfl (lv_at hl 0 rfl) ?_
        refine lv_iload_n hx hb (pc := 69) dX8_applySplit_69 rfl (lv_at hl 1 rfl) ?_
        obtain ⟨q_15, hq_15, hf⟩ := ob_some hf
        refine x_callVi C h (pc := 70) hl (c_mo_cutBy l D cI cJ cZ cO a M_edits M_typed M_readRows M_readColumns M_top M_bottom M_left M_right M_panes M_now M_pane M_line M_waiting l1 l3_12 l2_10 N q_15 hq_15) xv_X8_cutBy lk_X8_195 ⟨(Nat.le_of_ble_eq_true rfl), (Nat.le_of_ble_eq_true rfl)⟩ rfl [0, 1, 4, 10, 11] [2, 3, 5, 6, 7, 8, 9] (nw := 12) (wr := [((a 2), aI cI 1208 M_past), ((a 5), aI cI 49 M_queue), ((a 7), aI cI 49 M_fragment), ((a 8), aI cI 49 M_size), ((a 9), aI cZ 49 M_seen), ((a 12), aI cI 2401 M_pieces), ((a 13), aI cI 2401 M_leads)]) (as := [(a 0), (a 1), (a 2), (a 5), (a 6), (a 7), (a 8), (a 9), (a 12), (a 13), (a 14), (a 15)]) (ws' := [((a 0), oM a M_edits M_typed M_readRows M_readColumns M_top M_bottom M_left M_right M_panes), ((a 1), aI cI 151 q_15.2.1), ((a 2), aI cI 1208 M_past), ((a 5), aI cI 49 M_queue), ((a 6), aI cI 49 M_pane), ((a 7), aI cI 49 M_fragment), ((a 8), aI cI 49 M_size), ((a 9), aI cZ 49 M_seen), ((a 12), aI cI 2401 M_pieces), ((a 13), aI cI 2401 M_leads), ((a 14), aI cI 2401 M_line), ((a 15), aI cI 128 q_15.2.2)]) rfl rfl rfl rfl rfl rfl rfl rfl rfl 0 rfl rfl rfl rfl (Nat.le_of_ble_eq_true rfl) dX8_applySplit_70 (fun H locs h => ?_)
        refine lv_istore_n hx hb (pc := 73) (lv' := [(2, iv q_15.1), (3, iv l3_12), (0, .ref (a 0)), (1, iv l1)]) dX8_applySplit_73 rfl hl (Nat.le_of_ble_eq_true rfl) rfl (fun ls hl => ?_)
        refine lv_goto hx hb (pc := 74) (tgt := 38) dX8_applySplit_74 rfl ?_
        have e9 := Option.some.inj hf
        subst e9
        exact Jr_16 _ _ _ (lv_sub hl [2, 3, 0] rfl) h
      · have hf := oi_t hf hc
        refine lv_iload_n hx hb (pc := 62) dX8_applySplit_62 rfl (lv_at hl 1 rfl) ?_
        refine lv_goto hx hb (pc := 63) (tgt := 73) dX8_applySplit_63 rfl ?_
        refine lv_istore_n hx hb (pc := 73) (lv' := [(2, iv l2_10), (3, iv l3_12), (0, .ref (a 0)), (1, iv l1)]) dX8_applySplit_73 rfl hl (Nat.le_of_ble_eq_true rfl) rfl (fun ls hl => ?_)
        refine lv_goto hx hb (pc := 74) (tgt := 38) dX8_applySplit_74 rfl ?_
        have e9 := Option.some.inj hf
        subst e9
        exact Jr_16 _ _ _ (lv_sub hl [2, 3, 0] rfl) h
set_option maxHeartbeats 4000000 in
set_option maxRecDepth 100000 in
theorem c_mo_applySplit (l : Launch) (D : va_G) (cI cJ cZ cO : ClassId) (a : Nat → Nat) (M_edits : Int) (M_typed : Int) (M_readRows : Int) (M_readColumns : Int) (M_top : Int) (M_bottom : Int) (M_left : Int) (M_right : Int) (M_panes : Int) (M_now : Int → Int) (M_past : Int → Int) (M_queue : Int → Int) (M_pane : Int → Int) (M_fragment : Int → Int) (M_size : Int → Int) (M_seen : Int → Int) (M_pieces : Int → Int) (M_leads : Int → Int) (M_line : Int → Int) (M_waiting : Int → Int) (l1 : Int) (N : Nat) (Res : Int × Int × Int × Int × Int × Int × Int × (Int → Int) × (Int → Int) × (Int → Int) × (Int → Int) × (Int → Int) × (Int → Int) × (Int → Int) × (Int → Int) × (Int → Int) × (Int → Int) × (Int → Int)) (hf : f_mo_applySplit N l1 M_edits M_top M_bottom M_left M_right M_panes M_now M_past M_queue M_pane M_fragment M_size M_seen M_pieces M_leads M_line M_waiting = some Res) : CoI l D (xT cI cJ cZ cO) yX8_applySplit cX8_applySplit 4 (some .int) rm_mo_applySplit [.ref (a 0), iv l1] [((a 0), oM a M_edits M_typed M_readRows M_readColumns M_top M_bottom M_left M_right M_panes), ((a 1), aI cI 151 M_now), ((a 2), aI cI 1208 M_past), ((a 5), aI cI 49 M_queue), ((a 6), aI cI 49 M_pane), ((a 7), aI cI 49 M_fragment), ((a 8), aI cI 49 M_size), ((a 9), aI cZ 49 M_seen), ((a 12), aI cI 2401 M_pieces), ((a 13), aI cI 2401 M_leads), ((a 14), aI cI 2401 M_line), ((a 15), aI cI 128 M_waiting)] Res.1 [((a 0), oM a Res.2.1 M_typed M_readRows M_readColumns Res.2.2.1 Res.2.2.2.1 Res.2.2.2.2.1 Res.2.2.2.2.2.1 Res.2.2.2.2.2.2.1), ((a 1), aI cI 151 Res.2.2.2.2.2.2.2.1), ((a 2), aI cI 1208 Res.2.2.2.2.2.2.2.2.1), ((a 5), aI cI 49 Res.2.2.2.2.2.2.2.2.2.1), ((a 6), aI cI 49 Res.2.2.2.2.2.2.2.2.2.2.1), ((a 7), aI cI 49 Res.2.2.2.2.2.2.2.2.2.2.2.1), ((a 8), aI cI 49 Res.2.2.2.2.2.2.2.2.2.2.2.2.1), ((a 9), aI cZ 49 Res.2.2.2.2.2.2.2.2.2.2.2.2.2.1), ((a 12), aI cI 2401 Res.2.2.2.2.2.2.2.2.2.2.2.2.2.2.1), ((a 13), aI cI 2401 Res.2.2.2.2.2.2.2.2.2.2.2.2.2.2.2.1), ((a 14), aI cI 2401 Res.2.2.2.2.2.2.2.2.2.2.2.2.2.2.2.2.1), ((a 15), aI cI 128 Res.2.2.2.2.2.2.2.2.2.2.2.2.2.2.2.2.2)] := by
  refine co_i (by decide) ⟨rfl, rfl⟩ (Nat.le_of_ble_eq_true rfl) ?_
  intro p e s m args below meth c A Q ls C hret hl h
  have hx := C.1.1
  have hb := C.1.2.1
  have hl : lv_has ls 4 [(0, .ref (a 0)), (1, iv l1)] := hl
  unfold f_mo_applySplit at hf
  refine lv_aload_n hx hb (pc := 0) dX8_applySplit_0 rfl (lv_at hl 0 rfl) ?_
  refine lv_iload_n hx hb (pc := 1) dX8_applySplit_1 rfl (lv_at hl 1 rfl) ?_
  obtain ⟨q_1, hq_1, hf⟩ := ob_some hf
  refine x_callVi C h (pc := 2) hl (c_mo_isPane l D cI cJ cZ cO a M_edits M_typed M_readRows M_readColumns M_top M_bottom M_left M_right M_panes M_now M_queue M_pane M_size l1 N q_1 hq_1) xv_X8_isPane lk_X8_156 ⟨(Nat.le_of_ble_eq_true rfl), (Nat.le_of_ble_eq_true rfl)⟩ rfl [0, 1, 3, 4, 6] [2, 5, 7, 8, 9, 10, 11] (nw := 12) (wr := [((a 2), aI cI 1208 M_past), ((a 7), aI cI 49 M_fragment), ((a 9), aI cZ 49 M_seen), ((a 12), aI cI 2401 M_pieces), ((a 13), aI cI 2401 M_leads), ((a 14), aI cI 2401 M_line), ((a 15), aI cI 128 M_waiting)]) (as := [(a 0), (a 1), (a 2), (a 5), (a 6), (a 7), (a 8), (a 9), (a 12), (a 13), (a 14), (a 15)]) (ws' := [((a 0), oM a M_edits M_typed M_readRows M_readColumns q_1.2.1 q_1.2.2.1 q_1.2.2.2.1 q_1.2.2.2.2.1 q_1.2.2.2.2.2.1), ((a 1), aI cI 151 M_now), ((a 2), aI cI 1208 M_past), ((a 5), aI cI 49 q_1.2.2.2.2.2.2.1), ((a 6), aI cI 49 q_1.2.2.2.2.2.2.2.1), ((a 7), aI cI 49 M_fragment), ((a 8), aI cI 49 q_1.2.2.2.2.2.2.2.2), ((a 9), aI cZ 49 M_seen), ((a 12), aI cI 2401 M_pieces), ((a 13), aI cI 2401 M_leads), ((a 14), aI cI 2401 M_line), ((a 15), aI cI 128 M_waiting)]) rfl rfl rfl rfl rfl rfl rfl rfl rfl 0 rfl rfl rfl rfl (Nat.le_of_ble_eq_true rfl) dX8_applySplit_2 (fun H locs h => ?_)
  obtain ⟨g_2, hf⟩ := og_some hf
  refine x_ifne C (pc := 5) (tgt := 10) g_2 dX8_applySplit_5 rfl (fun hc => ?_) (fun hc => ?_)
  · have hf := oi_f hf hc
    refine lv_aload_n hx hb (pc := 10) dX8_applySplit_10 rfl (lv_at hl 0 rfl) ?_
    refine lv_iload_n hx hb (pc := 11) dX8_applySplit_11 rfl (lv_at hl 1 rfl) ?_
    obtain ⟨q_3, hq_3, hf⟩ := ob_some hf
    refine x_callVi C h (pc := 12) hl (c_mo_canCut l D cI cJ cZ cO a M_edits M_typed M_readRows M_readColumns q_1.2.1 q_1.2.2.1 q_1.2.2.2.1 q_1.2.2.2.2.1 q_1.2.2.2.2.2.1 M_now q_1.2.2.2.2.2.2.1 q_1.2.2.2.2.2.2.2.1 q_1.2.2.2.2.2.2.2.2 M_seen l1 N q_3 hq_3) xv_X8_canCut lk_X8_159 ⟨(Nat.le_of_ble_eq_true rfl), (Nat.le_of_ble_eq_true rfl)⟩ rfl [0, 1, 3, 4, 6, 7] [2, 5, 8, 9, 10, 11] (nw := 12) (wr := [((a 2), aI cI 1208 M_past), ((a 7), aI cI 49 M_fragment), ((a 12), aI cI 2401 M_pieces), ((a 13), aI cI 2401 M_leads), ((a 14), aI cI 2401 M_line), ((a 15), aI cI 128 M_waiting)]) (as := [(a 0), (a 1), (a 2), (a 5), (a 6), (a 7), (a 8), (a 9), (a 12), (a 13), (a 14), (a 15)]) (ws' := [((a 0), oM a M_edits M_typed M_readRows M_readColumns q_1.2.1 q_1.2.2.1 q_1.2.2.2.1 q_1.2.2.2.2.1 q_1.2.2.2.2.2.1), ((a 1), aI cI 151 M_now), ((a 2), aI cI 1208 M_past), ((a 5), aI cI 49 q_3.2.1), ((a 6), aI cI 49 q_1.2.2.2.2.2.2.2.1), ((a 7), aI cI 49 M_fragment), ((a 8), aI cI 49 q_1.2.2.2.2.2.2.2.2), ((a 9), aI cZ 49 q_3.2.2), ((a 12), aI cI 2401 M_pieces), ((a 13), aI cI 2401 M_leads), ((a 14), aI cI 2401 M_line), ((a 15), aI cI 128 M_waiting)]) rfl rfl rfl rfl rfl rfl rfl rfl rfl 0 rfl rfl rfl rfl (Nat.le_of_ble_eq_true rfl) dX8_applySplit_12 (fun H locs h => ?_)
    obtain ⟨g_4, hf⟩ := og_some hf
    refine x_ifeq C (pc := 15) (tgt := 21) g_4 dX8_applySplit_15 rfl (fun hc => ?_) (fun hc => ?_)
    · have hf := oi_t hf hc
      refine lv_aload_n hx hb (pc := 21) dX8_applySplit_21 rfl (lv_at hl 0 rfl) ?_
      obtain ⟨q_5, hq_5, hf⟩ := ob_some hf
      refine x_callVv C h (pc := 22) hl (c_mo_save l D cI cJ cZ cO a M_edits M_typed M_readRows M_readColumns q_1.2.1 q_1.2.2.1 q_1.2.2.2.1 q_1.2.2.2.2.1 q_1.2.2.2.2.2.1 M_now M_past N q_5 hq_5) xv_X8_save lk_X8_73 ⟨(Nat.le_of_ble_eq_true rfl), (Nat.le_of_ble_eq_true rfl)⟩ rfl [0, 1, 2] [3, 4, 5, 6, 7, 8, 9, 10, 11] (nw := 12) (wr := [((a 5), aI cI 49 q_3.2.1), ((a 6), aI cI 49 q_1.2.2.2.2.2.2.2.1), ((a 7), aI cI 49 M_fragment), ((a 8), aI cI 49 q_1.2.2.2.2.2.2.2.2), ((a 9), aI cZ 49 q_3.2.2), ((a 12), aI cI 2401 M_pieces), ((a 13), aI cI 2401 M_leads), ((a 14), aI cI 2401 M_line), ((a 15), aI cI 128 M_waiting)]) (as := [(a 0), (a 1), (a 2), (a 5), (a 6), (a 7), (a 8), (a 9), (a 12), (a 13), (a 14), (a 15)]) (ws' := [((a 0), oM a q_5.1 M_typed M_readRows M_readColumns q_1.2.1 q_1.2.2.1 q_1.2.2.2.1 q_1.2.2.2.2.1 q_1.2.2.2.2.2.1), ((a 1), aI cI 151 M_now), ((a 2), aI cI 1208 q_5.2), ((a 5), aI cI 49 q_3.2.1), ((a 6), aI cI 49 q_1.2.2.2.2.2.2.2.1), ((a 7), aI cI 49 M_fragment), ((a 8), aI cI 49 q_1.2.2.2.2.2.2.2.2), ((a 9), aI cZ 49 q_3.2.2), ((a 12), aI cI 2401 M_pieces), ((a 13), aI cI 2401 M_leads), ((a 14), aI cI 2401 M_line), ((a 15), aI cI 128 M_waiting)]) rfl rfl rfl rfl rfl rfl rfl rfl rfl 0 rfl rfl rfl rfl (Nat.le_of_ble_eq_true rfl) dX8_applySplit_22 (fun H locs h => ?_)
      refine lv_aload_n hx hb (pc := 25) dX8_applySplit_25 rfl (lv_at hl 0 rfl) ?_
      refine x_get C h (pc := 26) xf_X8_53 0 rfl (v := .ref (a 15)) rfl dX8_applySplit_26 ?_
      refine x_iconst C (pc := 29) dX8_applySplit_29 ?_
      refine lv_aload_n hx hb (pc := 30) dX8_applySplit_30 rfl (lv_at hl 0 rfl) ?_
      refine lv_iload_n hx hb (pc := 31) dX8_applySplit_31 rfl (lv_at hl 1 rfl) ?_
      obtain ⟨q_6, hq_6, hf⟩ := ob_some hf
      refine x_callVi C h (pc := 32) hl (c_mo_layPlan l D cI cJ cZ cO a q_5.1 M_typed M_readRows M_readColumns q_1.2.1 q_1.2.2.1 q_1.2.2.2.1 q_1.2.2.2.2.1 q_1.2.2.2.2.2.1 M_now q_3.2.1 q_1.2.2.2.2.2.2.2.1 M_fragment q_3.2.2 M_pieces M_leads M_line l1 N q_6 hq_6) xv_X8_layPlan lk_X8_192 ⟨(Nat.le_of_ble_eq_true rfl), (Nat.le_of_ble_eq_true rfl)⟩ rfl [0, 1, 3, 4, 5, 7, 8, 9, 10] [2, 6, 11] (nw := 12) (wr := [((a 2), aI cI 1208 q_5.2), ((a 8), aI cI 49 q_1.2.2.2.2.2.2.2.2), ((a 15), aI cI 128 M_waiting)]) (as := [(a 0), (a 1), (a 2), (a 5), (a 6), (a 7), (a 8), (a 9), (a 12), (a 13), (a 14), (a 15)]) (ws' := [((a 0), oM a q_5.1 M_typed M_readRows M_readColumns q_6.2.1 q_6.2.2.1 q_6.2.2.2.1 q_6.2.2.2.2.1 q_1.2.2.2.2.2.1), ((a 1), aI cI 151 M_now), ((a 2), aI cI 1208 q_5.2), ((a 5), aI cI 49 q_6.2.2.2.2.2.1), ((a 6), aI cI 49 q_1.2.2.2.2.2.2.2.1), ((a 7), aI cI 49 q_6.2.2.2.2.2.2.1), ((a 8), aI cI 49 q_1.2.2.2.2.2.2.2.2), ((a 9), aI cZ 49 q_6.2.2.2.2.2.2.2.1), ((a 12), aI cI 2401 q_6.2.2.2.2.2.2.2.2.1), ((a 13), aI cI 2401 q_6.2.2.2.2.2.2.2.2.2.1), ((a 14), aI cI 2401 q_6.2.2.2.2.2.2.2.2.2.2), ((a 15), aI cI 128 M_waiting)]) rfl rfl rfl rfl rfl rfl rfl rfl rfl 0 rfl rfl rfl rfl (Nat.le_of_ble_eq_true rfl) dX8_applySplit_32 (fun H locs h => ?_)
      obtain ⟨M_waiting_7, eM_waiting_7, hf⟩ := ol_some hf
      refine x_iast C h (pc := 35) (ws' := [((a 0), oM a q_5.1 M_typed M_readRows M_readColumns q_6.2.1 q_6.2.2.1 q_6.2.2.2.1 q_6.2.2.2.2.1 q_1.2.2.2.2.2.1), ((a 1), aI cI 151 M_now), ((a 2), aI cI 1208 q_5.2), ((a 5), aI cI 49 q_6.2.2.2.2.2.1), ((a 6), aI cI 49 q_1.2.2.2.2.2.2.2.1), ((a 7), aI cI 49 q_6.2.2.2.2.2.2.1), ((a 8), aI cI 49 q_1.2.2.2.2.2.2.2.2), ((a 9), aI cZ 49 q_6.2.2.2.2.2.2.2.1), ((a 12), aI cI 2401 q_6.2.2.2.2.2.2.2.2.1), ((a 13), aI cI 2401 q_6.2.2.2.2.2.2.2.2.2.1), ((a 14), aI cI 2401 q_6.2.2.2.2.2.2.2.2.2.2), ((a 15), aI cI 128 M_waiting_7)]) 11 0 rfl rfl (Nat.le_of_ble_eq_true rfl) ⟨by decide, by decide⟩ eM_waiting_7 rfl dX8_applySplit_35 (fun H locs h => ?_)
      refine x_iconst C (pc := 36) dX8_applySplit_36 ?_
      refine lv_istore_n hx hb (pc := 37) (lv' := [(2, iv 1), (0, .ref (a 0)), (1, iv l1)]) dX8_applySplit_37 rfl hl (Nat.le_of_ble_eq_true rfl) rfl (fun ls hl => ?_)
      exact w_mo_applySplit_38 C a M_typed M_readRows M_readColumns Res hret N l1 q_5.1 q_6.2.1 q_6.2.2.1 q_6.2.2.2.1 q_6.2.2.2.2.1 q_1.2.2.2.2.2.1 q_5.2 q_6.2.2.2.2.2.1 q_1.2.2.2.2.2.2.2.1 q_6.2.2.2.2.2.2.1 q_1.2.2.2.2.2.2.2.2 q_6.2.2.2.2.2.2.2.1 q_6.2.2.2.2.2.2.2.2.1 q_6.2.2.2.2.2.2.2.2.2.1 q_6.2.2.2.2.2.2.2.2.2.2 N 1 M_now M_waiting_7 _ _ _ (lv_sub hl [1, 2, 0] rfl) h hf
    · have hf := oi_f hf hc
      refine x_bipush C (pc := 18) dX8_applySplit_18 (by decide) ?_
      have e9 := Option.some.inj hf
      subst e9
      exact hret _ _ _ _ dX8_applySplit_20 h
  · have hf := oi_t hf hc
    refine x_iconst C (pc := 8) dX8_applySplit_8 ?_
    have e9 := Option.some.inj hf
    subst e9
    exact hret _ _ _ _ dX8_applySplit_9 h
abbrev rm_mo_firstOf : Room := { frames := 0, cells := 0, slots := 0, locals := 0 }
set_option maxHeartbeats 4000000 in
set_option maxRecDepth 100000 in
theorem w_mo_firstOf_2 {p : Program} {l : Launch} {e : Env} {s : State} {m : MethodId} {args : Array Value} {below : List Frame} {meth : Method} {c : Code} {Q : State → Prop} {D : va_G} {cI cJ cZ cO : ClassId} {A : Nat → Prop} {H0 : Heap} {w0 : Cond} (C : XC p s m args c cX8_firstOf 3 RX8 w0 D (xT cI cJ cZ cO)) (a : Nat → Nat) (M_edits : Int) (M_typed : Int) (M_readRows : Int) (M_readColumns : Int) (M_top : Int) (M_bottom : Int) (M_left : Int) (M_right : Int) (M_panes : Int) (M_pane : Int → Int) (Res : Int) (hret : XRI p l e rm_mo_firstOf s m args below meth c cX8_firstOf D A H0 Q Res [((a 0), oM a M_edits M_typed M_readRows M_readColumns M_top M_bottom M_left M_right M_panes), ((a 6), aI cI 49 M_pane)]) (N : Nat) (l1 : Int) : ∀ (n : Nat) (l2 : Int) (ls : Array Slot) (H : Heap) (locs : List Loc), lv_has ls 3 [(0, .ref (a 0)), (1, iv l1), (2, iv l2)] → XH D A H0 [((a 0), oM a M_edits M_typed M_readRows M_readColumns M_top M_bottom M_left M_right M_panes), ((a 6), aI cI 49 M_pane)] H locs → f_mo_firstOf_2 N l1 M_pane n l2 = some Res → W p l e rm_mo_firstOf s m args below meth c H locs 0 0 Q (F0 m 2 ls []) := by
  have hx := C.1.1
  have hb := C.1.2.1
  intro n
  induction n with
  | zero => intro l2 ls H locs hl h hf; cases hf
  | succ n ih =>
    intro l2 ls H locs hl h hf
    rw [f_mo_firstOf_2.eq_2] at hf
    refine lv_aload_n hx hb (pc := 2) dX8_firstOf_2 rfl (lv_at hl 0 rfl) ?_
    refine x_get C h (pc := 3) xf_X8_25 0 rfl (v := .ref (a 6)) rfl dX8_firstOf_3 ?_
    refine lv_iload_n hx hb (pc := 6) dX8_firstOf_6 rfl (lv_at hl 2 rfl) ?_
    obtain ⟨g_1, hf⟩ := og_some hf
    refine x_iald C h (pc := 7) 1 0 rfl rfl (Nat.le_of_ble_eq_true rfl) g_1 dX8_firstOf_7 ?_
    refine lv_iload_n hx hb (pc := 8) dX8_firstOf_8 rfl (lv_at hl 1 rfl) ?_
    obtain ⟨g_2, hf⟩ := og_some hf
    obtain ⟨g_3, hf⟩ := og_some hf
    refine x_icmpeq C (pc := 9) (tgt := 18) g_2 g_3 dX8_firstOf_9 rfl (fun hc => ?_) (fun hc => ?_)
    · have hf := oi_t hf hc
      refine lv_iload_n hx hb (pc := 18) dX8_firstOf_18 rfl (lv_at hl 2 rfl) ?_
      have e9 := Option.some.inj hf
      subst e9
      exact hret _ _ _ _ dX8_firstOf_19 h
    · have hf := oi_f hf hc
      obtain ⟨l2_4, el2_4, hf⟩ := ol_some hf
      refine x_iinc C (pc := 12) (k := 2) (lw' := [(2, iv l2_4), (0, .ref (a 0)), (1, iv l1)]) dX8_firstOf_12 hl rfl el2_4 (Nat.le_of_ble_eq_true rfl) rfl (fun ls hl => ?_)
      refine lv_goto hx hb (pc := 15) (tgt := 2) dX8_firstOf_15 rfl ?_
      exact ih l2_4 _ _ _ (lv_sub hl [1, 2, 0] rfl) h hf
set_option maxHeartbeats 4000000 in
set_option maxRecDepth 100000 in
theorem c_mo_firstOf (l : Launch) (D : va_G) (cI cJ cZ cO : ClassId) (a : Nat → Nat) (M_edits : Int) (M_typed : Int) (M_readRows : Int) (M_readColumns : Int) (M_top : Int) (M_bottom : Int) (M_left : Int) (M_right : Int) (M_panes : Int) (M_pane : Int → Int) (l1 : Int) (N : Nat) (Res : Int) (hf : f_mo_firstOf N l1 M_pane = some Res) : CoI l D (xT cI cJ cZ cO) yX8_firstOf cX8_firstOf 3 (some .int) rm_mo_firstOf [.ref (a 0), iv l1] [((a 0), oM a M_edits M_typed M_readRows M_readColumns M_top M_bottom M_left M_right M_panes), ((a 6), aI cI 49 M_pane)] Res [((a 0), oM a M_edits M_typed M_readRows M_readColumns M_top M_bottom M_left M_right M_panes), ((a 6), aI cI 49 M_pane)] := by
  refine co_i (by decide) ⟨rfl, rfl⟩ (Nat.le_of_ble_eq_true rfl) ?_
  intro p e s m args below meth c A Q ls C hret hl h
  have hx := C.1.1
  have hb := C.1.2.1
  have hl : lv_has ls 3 [(0, .ref (a 0)), (1, iv l1)] := hl
  unfold f_mo_firstOf at hf
  refine x_iconst C (pc := 0) dX8_firstOf_0 ?_
  refine lv_istore_n hx hb (pc := 1) (lv' := [(2, iv 0), (0, .ref (a 0)), (1, iv l1)]) dX8_firstOf_1 rfl hl (Nat.le_of_ble_eq_true rfl) rfl (fun ls hl => ?_)
  exact w_mo_firstOf_2 C a M_edits M_typed M_readRows M_readColumns M_top M_bottom M_left M_right M_panes M_pane Res hret N l1 N 0 _ _ _ (lv_sub hl [1, 2, 0] rfl) h hf
abbrev rm_mo_equalNeighbours : Room := { frames := 5, cells := 0, slots := 0, locals := 120 }
set_option maxHeartbeats 4000000 in
set_option maxRecDepth 100000 in
theorem w_mo_equalNeighbours_18 {p : Program} {l : Launch} {e : Env} {s : State} {m : MethodId} {args : Array Value} {below : List Frame} {meth : Method} {c : Code} {Q : State → Prop} {D : va_G} {cI cJ cZ cO : ClassId} {A : Nat → Prop} {H0 : Heap} {w0 : Cond} (C : XC p s m args c cX8_equalNeighbours 6 RX8 w0 D (xT cI cJ cZ cO)) (a : Nat → Nat) (M_edits : Int) (M_typed : Int) (M_readRows : Int) (M_readColumns : Int) (M_now : Int → Int) (Res : Int × Int × Int × Int × Int × Int × (Int → Int) × (Int → Int) × (Int → Int) × (Int → Int) × (Int → Int)) (hret : XRI p l e rm_mo_equalNeighbours s m args below meth c cX8_equalNeighbours D A H0 Q Res.1 [((a 0), oM a M_edits M_typed M_readRows M_readColumns Res.2.1 Res.2.2.1 Res.2.2.2.1 Res.2.2.2.2.1 Res.2.2.2.2.2.1), ((a 1), aI cI 151 M_now), ((a 5), aI cI 49 Res.2.2.2.2.2.2.1), ((a 6), aI cI 49 Res.2.2.2.2.2.2.2.1), ((a 8), aI cI 49 Res.2.2.2.2.2.2.2.2.1), ((a 10), aI cZ 2401 Res.2.2.2.2.2.2.2.2.2.1), ((a 11), aI cI 49 Res.2.2.2.2.2.2.2.2.2.2)]) (N : Nat) (l3 : Int) (M_top : Int) (M_bottom : Int) (M_left : Int) (M_right : Int) (M_panes : Int) (M_queue : Int → Int) (M_pane : Int → Int) (M_size : Int → Int) (M_near : Int → Int) (M_nearMany : Int → Int) (k9 : Int → Int → Option (Int × Int × Int × Int × Int × Int × (Int → Int) × (Int → Int) × (Int → Int) × (Int → Int) × (Int → Int))) (hk9 : ∀ (l2' : Int) (l3' : Int) (ls : Array Slot) (H : Heap) (locs : List Loc), lv_has ls 6 [(0, .ref (a 0)), (2, iv l2'), (3, iv l3')] → XH D A H0 [((a 0), oM a M_edits M_typed M_readRows M_readColumns M_top M_bottom M_left M_right M_panes), ((a 1), aI cI 151 M_now), ((a 5), aI cI 49 M_queue), ((a 6), aI cI 49 M_pane), ((a 8), aI cI 49 M_size), ((a 10), aI cZ 2401 M_near), ((a 11), aI cI 49 M_nearMany)] H locs → k9 l2' l3' = some Res → W p l e rm_mo_equalNeighbours s m args below meth c H locs 0 0 Q (F0 m 9 ls [])) : ∀ (n : Nat) (l2 : Int) (l4 : Int) (ls : Array Slot) (H : Heap) (locs : List Loc), lv_has ls 6 [(0, .ref (a 0)), (2, iv l2), (3, iv l3), (4, iv l4)] → XH D A H0 [((a 0), oM a M_edits M_typed M_readRows M_readColumns M_top M_bottom M_left M_right M_panes), ((a 1), aI cI 151 M_now), ((a 5), aI cI 49 M_queue), ((a 6), aI cI 49 M_pane), ((a 8), aI cI 49 M_size), ((a 10), aI cZ 2401 M_near), ((a 11), aI cI 49 M_nearMany)] H locs → f_mo_equalNeighbours_18 N l3 M_top M_bottom M_left M_right M_panes M_queue M_pane M_size M_near M_nearMany M_now k9 n l2 l4 = some Res → W p l e rm_mo_equalNeighbours s m args below meth c H locs 0 0 Q (F0 m 18 ls []) := by
  have hx := C.1.1
  have hb := C.1.2.1
  intro n
  induction n with
  | zero => intro l2 l4 ls H locs hl h hf; cases hf
  | succ n ih =>
    intro l2 l4 ls H locs hl h hf
    rw [f_mo_equalNeighbours_18.eq_2] at hf
    refine lv_iload hx hb (pc := 18) dX8_equalNeighbours_18 (lv_at hl 3 rfl) ?_
    refine x_bipush C (pc := 20) dX8_equalNeighbours_20 (by decide) ?_
    obtain ⟨g_29, hf⟩ := og_some hf
    refine x_icmpge C (pc := 22) (tgt := 151) g_29 ⟨by decide, by decide⟩ dX8_equalNeighbours_22 rfl (fun hc => ?_) (fun hc => ?_)
    · have hf := oi_t hf hc
      obtain ⟨l3_30, el3_30, hf⟩ := ol_some hf
      refine x_iinc C (pc := 151) (k := 2) (lw' := [(3, iv l3_30), (0, .ref (a 0)), (2, iv l2), (4, iv l4)]) dX8_equalNeighbours_151 hl rfl el3_30 (Nat.le_of_ble_eq_true rfl) rfl (fun ls hl => ?_)
      refine lv_goto hx hb (pc := 154) (tgt := 9) dX8_equalNeighbours_154 rfl ?_
      exact hk9 l2 l3_30 _ _ _ (lv_sub hl [1, 2, 0] rfl) h hf
    · have hf := oi_f hf hc
      refine lv_aload_n hx hb (pc := 25) dX8_equalNeighbours_25 rfl (lv_at hl 0 rfl) ?_
      refine x_get C h (pc := 26) xf_X8_25 0 rfl (v := .ref (a 6)) rfl dX8_equalNeighbours_26 ?_
      refine lv_iload_n hx hb (pc := 29) dX8_equalNeighbours_29 rfl (lv_at hl 2 rfl) ?_
      obtain ⟨g_31, hf⟩ := og_some hf
      refine x_iald C h (pc := 30) 3 0 rfl rfl (Nat.le_of_ble_eq_true rfl) g_31 dX8_equalNeighbours_30 ?_
      obtain ⟨g_32, hf⟩ := og_some hf
      obtain ⟨r_40, hrr_40, hf⟩ := ob_some hf
      have Jr_40 : ∀ (ls : Array Slot) (H : Heap) (locs : List Loc), lv_has ls 6 [(0, .ref (a 0)), (2, iv l2), (3, iv l3), (4, iv l4)] → XH D A H0 [((a 0), oM a M_edits M_typed M_readRows M_readColumns M_top M_bottom M_left M_right M_panes), ((a 1), aI cI 151 M_now), ((a 5), aI cI 49 M_queue), ((a 6), aI cI 49 M_pane), ((a 8), aI cI 49 M_size), ((a 10), aI cZ 2401 M_near), ((a 11), aI cI 49 M_nearMany)] H locs → W p l e rm_mo_equalNeighbours s m args below meth c H locs 0 0 Q (F0 m 85 ls [iv r_40]) := by
        intro ls H locs hl h
        refine lv_istore hx hb (pc := 85) (lv' := [(5, iv r_40), (0, .ref (a 0)), (2, iv l2), (3, iv l3), (4, iv l4)]) dX8_equalNeighbours_85 hl (Nat.le_of_ble_eq_true rfl) rfl (fun ls hl => ?_)
        refine lv_iload_n hx hb (pc := 87) dX8_equalNeighbours_87 rfl (lv_at hl 2 rfl) ?_
        refine lv_iload hx hb (pc := 88) dX8_equalNeighbours_88 (lv_at hl 0 rfl) ?_
        obtain ⟨g_41, hf⟩ := og_some hf
        obtain ⟨r_49, hrr_49, hf⟩ := ob_some hf
        have Jr_49 : ∀ (ls : Array Slot) (H : Heap) (locs : List Loc), lv_has ls 6 [(0, .ref (a 0)), (3, iv l3), (4, iv l4)] → XH D A H0 [((a 0), oM a M_edits M_typed M_readRows M_readColumns M_top M_bottom M_left M_right M_panes), ((a 1), aI cI 151 M_now), ((a 5), aI cI 49 M_queue), ((a 6), aI cI 49 M_pane), ((a 8), aI cI 49 M_size), ((a 10), aI cZ 2401 M_near), ((a 11), aI cI 49 M_nearMany)] H locs → W p l e rm_mo_equalNeighbours s m args below meth c H locs 0 0 Q (F0 m 143 ls [iv r_49, iv l2]) := by
          intro ls H locs hl h
          refine x_iadd C (pc := 143) dX8_equalNeighbours_143 ?_
          obtain ⟨l2_50, el2_50, hf⟩ := ol_some hf
          refine x_topi el2_50 ?_
          refine lv_istore_n hx hb (pc := 144) (lv' := [(2, iv l2_50), (0, .ref (a 0)), (3, iv l3), (4, iv l4)]) dX8_equalNeighbours_144 rfl hl (Nat.le_of_ble_eq_true rfl) rfl (fun ls hl => ?_)
          obtain ⟨l4_51, el4_51, hf⟩ := ol_some hf
          refine x_iinc C (pc := 145) (k := 3) (lw' := [(4, iv l4_51), (2, iv l2_50), (0, .ref (a 0)), (3, iv l3)]) dX8_equalNeighbours_145 hl rfl el4_51 (Nat.le_of_ble_eq_true rfl) rfl (fun ls hl => ?_)
          refine lv_goto hx hb (pc := 148) (tgt := 18) dX8_equalNeighbours_148 rfl ?_
          exact ih l2_50 l4_51 _ _ _ (lv_sub hl [2, 1, 3, 0] rfl) h hf
        clear hf
        have hf := hrr_49
        refine x_ifeq C (pc := 90) (tgt := 142) g_41 dX8_equalNeighbours_90 rfl (fun hc => ?_) (fun hc => ?_)
        · have hf := oi_t hf hc
          refine x_iconst C (pc := 142) dX8_equalNeighbours_142 ?_
          have e9 := Option.some.inj hf
          subst e9
          exact Jr_49 _ _ _ (lv_sub hl [1, 3, 4] rfl) h
        · have hf := oi_f hf hc
          refine lv_aload_n hx hb (pc := 93) dX8_equalNeighbours_93 rfl (lv_at hl 1 rfl) ?_
          refine x_get C h (pc := 94) xf_X8_38 0 rfl (v := .ref (a 10)) rfl dX8_equalNeighbours_94 ?_
          refine x_bipush C (pc := 97) dX8_equalNeighbours_97 (by decide) ?_
          refine lv_aload_n hx hb (pc := 99) dX8_equalNeighbours_99 rfl (lv_at hl 1 rfl) ?_
          refine x_get C h (pc := 100) xf_X8_25 0 rfl (v := .ref (a 6)) rfl dX8_equalNeighbours_100 ?_
          refine lv_iload_n hx hb (pc := 103) dX8_equalNeighbours_103 rfl (lv_at hl 3 rfl) ?_
          refine x_iald C h (pc := 104) 3 0 rfl rfl (Nat.le_of_ble_eq_true rfl) g_31 dX8_equalNeighbours_104 ?_
          refine x_imul C (pc := 105) dX8_equalNeighbours_105 ?_
          refine lv_aload_n hx hb (pc := 106) dX8_equalNeighbours_106 rfl (lv_at hl 1 rfl) ?_
          refine x_get C h (pc := 107) xf_X8_25 0 rfl (v := .ref (a 6)) rfl dX8_equalNeighbours_107 ?_
          refine lv_iload hx hb (pc := 110) dX8_equalNeighbours_110 (lv_at hl 4 rfl) ?_
          obtain ⟨g_42, hf⟩ := og_some hf
          refine x_iald C h (pc := 112) 3 0 rfl rfl (Nat.le_of_ble_eq_true rfl) g_42 dX8_equalNeighbours_112 ?_
          refine x_iadd C (pc := 113) dX8_equalNeighbours_113 ?_
          obtain ⟨g_43, hf⟩ := og_some hf
          refine x_zald C h (pc := 114) 5 2 rfl rfl (Nat.le_of_ble_eq_true rfl) g_43 dX8_equalNeighbours_114 ?_
          obtain ⟨g_44, hf⟩ := og_some hf
          refine x_ifeq C (pc := 115) (tgt := 142) g_44 dX8_equalNeighbours_115 rfl (fun hc => ?_) (fun hc => ?_)
          · have hf := oi_t hf hc
            refine x_iconst C (pc := 142) dX8_equalNeighbours_142 ?_
            have e9 := Option.some.inj hf
            subst e9
            exact Jr_49 _ _ _ (lv_sub hl [1, 3, 4] rfl) h
          · have hf := oi_f hf hc
            refine lv_aload_n hx hb (pc := 118) dX8_equalNeighbours_118 rfl (lv_at hl 1 rfl) ?_
            refine x_get C h (pc := 119) xf_X8_7 0 rfl (v := .ref (a 1)) rfl dX8_equalNeighbours_119 ?_
            refine x_iconst C (pc := 122) dX8_equalNeighbours_122 ?_
            refine lv_iload_n hx hb (pc := 123) dX8_equalNeighbours_123 rfl (lv_at hl 3 rfl) ?_
            refine x_iadd C (pc := 124) dX8_equalNeighbours_124 ?_
            obtain ⟨g_45, hf⟩ := og_some hf
            refine x_iald C h (pc := 125) 1 0 rfl rfl (Nat.le_of_ble_eq_true rfl) g_45 dX8_equalNeighbours_125 ?_
            refine lv_aload_n hx hb (pc := 126) dX8_equalNeighbours_126 rfl (lv_at hl 1 rfl) ?_
            refine x_get C h (pc := 127) xf_X8_7 0 rfl (v := .ref (a 1)) rfl dX8_equalNeighbours_127 ?_
            refine x_iconst C (pc := 130) dX8_equalNeighbours_130 ?_
            refine lv_iload hx hb (pc := 131) dX8_equalNeighbours_131 (lv_at hl 4 rfl) ?_
            refine x_iadd C (pc := 133) dX8_equalNeighbours_133 ?_
            obtain ⟨g_46, hf⟩ := og_some hf
            refine x_iald C h (pc := 134) 1 0 rfl rfl (Nat.le_of_ble_eq_true rfl) g_46 dX8_equalNeighbours_134 ?_
            obtain ⟨g_47, hf⟩ := og_some hf
            obtain ⟨g_48, hf⟩ := og_some hf
            refine x_icmpne C (pc := 135) (tgt := 142) g_47 g_48 dX8_equalNeighbours_135 rfl (fun hc => ?_) (fun hc => ?_)
            · have hf := oi_f hf hc
              refine x_iconst C (pc := 142) dX8_equalNeighbours_142 ?_
              have e9 := Option.some.inj hf
              subst e9
              exact Jr_49 _ _ _ (lv_sub hl [1, 3, 4] rfl) h
            · have hf := oi_t hf hc
              refine x_iconst C (pc := 138) dX8_equalNeighbours_138 ?_
              refine lv_goto hx hb (pc := 139) (tgt := 143) dX8_equalNeighbours_139 rfl ?_
              have e9 := Option.some.inj hf
              subst e9
              exact Jr_49 _ _ _ (lv_sub hl [1, 3, 4] rfl) h
      clear hf
      have hf := hrr_40
      refine x_iflt C (pc := 31) (tgt := 84) g_32 dX8_equalNeighbours_31 rfl (fun hc => ?_) (fun hc => ?_)
      · have hf := oi_t hf hc
        refine x_iconst C (pc := 84) dX8_equalNeighbours_84 ?_
        have e9 := Option.some.inj hf
        subst e9
        exact Jr_40 _ _ _ (lv_sub hl [0, 1, 2, 3] rfl) h
      · have hf := oi_f hf hc
        refine lv_aload_n hx hb (pc := 34) dX8_equalNeighbours_34 rfl (lv_at hl 0 rfl) ?_
        refine x_get C h (pc := 35) xf_X8_25 0 rfl (v := .ref (a 6)) rfl dX8_equalNeighbours_35 ?_
        refine lv_iload hx hb (pc := 38) dX8_equalNeighbours_38 (lv_at hl 3 rfl) ?_
        obtain ⟨g_33, hf⟩ := og_some hf
        refine x_iald C h (pc := 40) 3 0 rfl rfl (Nat.le_of_ble_eq_true rfl) g_33 dX8_equalNeighbours_40 ?_
        refine lv_aload_n hx hb (pc := 41) dX8_equalNeighbours_41 rfl (lv_at hl 0 rfl) ?_
        refine x_get C h (pc := 42) xf_X8_25 0 rfl (v := .ref (a 6)) rfl dX8_equalNeighbours_42 ?_
        refine lv_iload_n hx hb (pc := 45) dX8_equalNeighbours_45 rfl (lv_at hl 2 rfl) ?_
        refine x_iald C h (pc := 46) 3 0 rfl rfl (Nat.le_of_ble_eq_true rfl) g_31 dX8_equalNeighbours_46 ?_
        obtain ⟨g_34, hf⟩ := og_some hf
        refine x_icmple C (pc := 47) (tgt := 84) g_34 g_32 dX8_equalNeighbours_47 rfl (fun hc => ?_) (fun hc => ?_)
        · have hf := oi_t hf hc
          refine x_iconst C (pc := 84) dX8_equalNeighbours_84 ?_
          have e9 := Option.some.inj hf
          subst e9
          exact Jr_40 _ _ _ (lv_sub hl [0, 1, 2, 3] rfl) h
        · have hf := oi_f hf hc
          refine lv_aload_n hx hb (pc := 50) dX8_equalNeighbours_50 rfl (lv_at hl 0 rfl) ?_
          refine lv_aload_n hx hb (pc := 51) dX8_equalNeighbours_51 rfl (lv_at hl 0 rfl) ?_
          refine x_get C h (pc := 52) xf_X8_25 0 rfl (v := .ref (a 6)) rfl dX8_equalNeighbours_52 ?_
          refine lv_iload_n hx hb (pc := 55) dX8_equalNeighbours_55 rfl (lv_at hl 2 rfl) ?_
          refine x_iald C h (pc := 56) 3 0 rfl rfl (Nat.le_of_ble_eq_true rfl) g_31 dX8_equalNeighbours_56 ?_
          obtain ⟨q_35, hq_35, hf⟩ := ob_some hf
          refine x_callVi C h (pc := 57) hl (c_mo_firstOf l D cI cJ cZ cO a M_edits M_typed M_readRows M_readColumns M_top M_bottom M_left M_right M_panes M_pane (M_pane l3) N q_35 hq_35) xv_X8_firstOf lk_X8_199 ⟨(Nat.le_of_ble_eq_true rfl), (Nat.le_of_ble_eq_true rfl)⟩ rfl [0, 3] [1, 2, 4, 5, 6] (nw := 7) (wr := [((a 1), aI cI 151 M_now), ((a 5), aI cI 49 M_queue), ((a 8), aI cI 49 M_size), ((a 10), aI cZ 2401 M_near), ((a 11), aI cI 49 M_nearMany)]) (as := [(a 0), (a 1), (a 5), (a 6), (a 8), (a 10), (a 11)]) (ws' := [((a 0), oM a M_edits M_typed M_readRows M_readColumns M_top M_bottom M_left M_right M_panes), ((a 1), aI cI 151 M_now), ((a 5), aI cI 49 M_queue), ((a 6), aI cI 49 M_pane), ((a 8), aI cI 49 M_size), ((a 10), aI cZ 2401 M_near), ((a 11), aI cI 49 M_nearMany)]) rfl rfl rfl rfl rfl rfl rfl rfl rfl 0 rfl rfl rfl rfl (Nat.le_of_ble_eq_true rfl) dX8_equalNeighbours_57 (fun H locs h => ?_)
          refine lv_iload_n hx hb (pc := 60) dX8_equalNeighbours_60 rfl (lv_at hl 2 rfl) ?_
          obtain ⟨g_36, hf⟩ := og_some hf
          obtain ⟨g_37, hf⟩ := og_some hf
          refine x_icmpne C (pc := 61) (tgt := 84) g_36 g_37 dX8_equalNeighbours_61 rfl (fun hc => ?_) (fun hc => ?_)
          · have hf := oi_f hf hc
            refine x_iconst C (pc := 84) dX8_equalNeighbours_84 ?_
            have e9 := Option.some.inj hf
            subst e9
            exact Jr_40 _ _ _ (lv_sub hl [0, 1, 2, 3] rfl) h
          · have hf := oi_t hf hc
            refine lv_aload_n hx hb (pc := 64) dX8_equalNeighbours_64 rfl (lv_at hl 0 rfl) ?_
            refine lv_aload_n hx hb (pc := 65) dX8_equalNeighbours_65 rfl (lv_at hl 0 rfl) ?_
            refine x_get C h (pc := 66) xf_X8_25 0 rfl (v := .ref (a 6)) rfl dX8_equalNeighbours_66 ?_
            refine lv_iload hx hb (pc := 69) dX8_equalNeighbours_69 (lv_at hl 3 rfl) ?_
            refine x_iald C h (pc := 71) 3 0 rfl rfl (Nat.le_of_ble_eq_true rfl) g_33 dX8_equalNeighbours_71 ?_
            obtain ⟨q_38, hq_38, hf⟩ := ob_some hf
            refine x_callVi C h (pc := 72) hl (c_mo_firstOf l D cI cJ cZ cO a M_edits M_typed M_readRows M_readColumns M_top M_bottom M_left M_right M_panes M_pane (M_pane l4) N q_38 hq_38) xv_X8_firstOf lk_X8_199 ⟨(Nat.le_of_ble_eq_true rfl), (Nat.le_of_ble_eq_true rfl)⟩ rfl [0, 3] [1, 2, 4, 5, 6] (nw := 7) (wr := [((a 1), aI cI 151 M_now), ((a 5), aI cI 49 M_queue), ((a 8), aI cI 49 M_size), ((a 10), aI cZ 2401 M_near), ((a 11), aI cI 49 M_nearMany)]) (as := [(a 0), (a 1), (a 5), (a 6), (a 8), (a 10), (a 11)]) (ws' := [((a 0), oM a M_edits M_typed M_readRows M_readColumns M_top M_bottom M_left M_right M_panes), ((a 1), aI cI 151 M_now), ((a 5), aI cI 49 M_queue), ((a 6), aI cI 49 M_pane), ((a 8), aI cI 49 M_size), ((a 10), aI cZ 2401 M_near), ((a 11), aI cI 49 M_nearMany)]) rfl rfl rfl rfl rfl rfl rfl rfl rfl 0 rfl rfl rfl rfl (Nat.le_of_ble_eq_true rfl) dX8_equalNeighbours_72 (fun H locs h => ?_)
            refine lv_iload hx hb (pc := 75) dX8_equalNeighbours_75 (lv_at hl 3 rfl) ?_
            obtain ⟨g_39, hf⟩ := og_some hf
            refine x_icmpne C (pc := 77) (tgt := 84) g_39 g_29 dX8_equalNeighbours_77 rfl (fun hc => ?_) (fun hc => ?_)
            · have hf := oi_f hf hc
              refine x_iconst C (pc := 84) dX8_equalNeighbours_84 ?_
              have e9 := Option.some.inj hf
              subst e9
              exact Jr_40 _ _ _ (lv_sub hl [0, 1, 2, 3] rfl) h
            · have hf := oi_t hf hc
              refine x_iconst C (pc := 80) dX8_equalNeighbours_80 ?_
              refine lv_goto hx hb (pc := 81) (tgt := 85) dX8_equalNeighbours_81 rfl ?_
              have e9 := Option.some.inj hf
              subst e9
              exact Jr_40 _ _ _ (lv_sub hl [0, 1, 2, 3] rfl) h
set_option maxHeartbeats 4000000 in
set_option maxRecDepth 100000 in
theorem w_mo_equalNeighbours_9 {p : Program} {l : Launch} {e : Env} {s : State} {m : MethodId} {args : Array Value} {below : List Frame} {meth : Method} {c : Code} {Q : State → Prop} {D : va_G} {cI cJ cZ cO : ClassId} {A : Nat → Prop} {H0 : Heap} {w0 : Cond} (C : XC p s m args c cX8_equalNeighbours 6 RX8 w0 D (xT cI cJ cZ cO)) (a : Nat → Nat) (M_edits : Int) (M_typed : Int) (M_readRows : Int) (M_readColumns : Int) (M_now : Int → Int) (Res : Int × Int × Int × Int × Int × Int × (Int → Int) × (Int → Int) × (Int → Int) × (Int → Int) × (Int → Int)) (hret : XRI p l e rm_mo_equalNeighbours s m args below meth c cX8_equalNeighbours D A H0 Q Res.1 [((a 0), oM a M_edits M_typed M_readRows M_readColumns Res.2.1 Res.2.2.1 Res.2.2.2.1 Res.2.2.2.2.1 Res.2.2.2.2.2.1), ((a 1), aI cI 151 M_now), ((a 5), aI cI 49 Res.2.2.2.2.2.2.1), ((a 6), aI cI 49 Res.2.2.2.2.2.2.2.1), ((a 8), aI cI 49 Res.2.2.2.2.2.2.2.2.1), ((a 10), aI cZ 2401 Res.2.2.2.2.2.2.2.2.2.1), ((a 11), aI cI 49 Res.2.2.2.2.2.2.2.2.2.2)]) (N : Nat) (M_top : Int) (M_bottom : Int) (M_left : Int) (M_right : Int) (M_panes : Int) (M_queue : Int → Int) (M_pane : Int → Int) (M_size : Int → Int) (M_near : Int → Int) (M_nearMany : Int → Int) : ∀ (n : Nat) (l2 : Int) (l3 : Int) (ls : Array Slot) (H : Heap) (locs : List Loc), lv_has ls 6 [(0, .ref (a 0)), (2, iv l2), (3, iv l3)] → XH D A H0 [((a 0), oM a M_edits M_typed M_readRows M_readColumns M_top M_bottom M_left M_right M_panes), ((a 1), aI cI 151 M_now), ((a 5), aI cI 49 M_queue), ((a 6), aI cI 49 M_pane), ((a 8), aI cI 49 M_size), ((a 10), aI cZ 2401 M_near), ((a 11), aI cI 49 M_nearMany)] H locs → f_mo_equalNeighbours_9 N M_top M_bottom M_left M_right M_panes M_queue M_pane M_size M_near M_nearMany M_now n l2 l3 = some Res → W p l e rm_mo_equalNeighbours s m args below meth c H locs 0 0 Q (F0 m 9 ls []) := by
  have hx := C.1.1
  have hb := C.1.2.1
  intro n
  induction n with
  | zero => intro l2 l3 ls H locs hl h hf; cases hf
  | succ n ih =>
    intro l2 l3 ls H locs hl h hf
    rw [f_mo_equalNeighbours_9.eq_2] at hf
    refine lv_iload_n hx hb (pc := 9) dX8_equalNeighbours_9 rfl (lv_at hl 2 rfl) ?_
    refine x_bipush C (pc := 10) dX8_equalNeighbours_10 (by decide) ?_
    obtain ⟨g_28, hf⟩ := og_some hf
    refine x_icmpge C (pc := 12) (tgt := 157) g_28 ⟨by decide, by decide⟩ dX8_equalNeighbours_12 rfl (fun hc => ?_) (fun hc => ?_)
    · have hf := oi_t hf hc
      refine lv_iload_n hx hb (pc := 157) dX8_equalNeighbours_157 rfl (lv_at hl 1 rfl) ?_
      have e9 := Option.some.inj hf
      subst e9
      exact hret _ _ _ _ dX8_equalNeighbours_158 h
    · have hf := oi_f hf hc
      refine x_iconst C (pc := 15) dX8_equalNeighbours_15 ?_
      refine lv_istore hx hb (pc := 16) (lv' := [(4, iv 0), (0, .ref (a 0)), (2, iv l2), (3, iv l3)]) dX8_equalNeighbours_16 hl (Nat.le_of_ble_eq_true rfl) rfl (fun ls hl => ?_)
      exact w_mo_equalNeighbours_18 C a M_edits M_typed M_readRows M_readColumns M_now Res hret N l3 M_top M_bottom M_left M_right M_panes M_queue M_pane M_size M_near M_nearMany (f_mo_equalNeighbours_9 N M_top M_bottom M_left M_right M_panes M_queue M_pane M_size M_near M_nearMany M_now n) ih N l2 0 _ _ _ (lv_sub hl [1, 2, 3, 0] rfl) h hf
set_option maxHeartbeats 4000000 in
set_option maxRecDepth 100000 in
theorem c_mo_equalNeighbours (l : Launch) (D : va_G) (cI cJ cZ cO : ClassId) (a : Nat → Nat) (M_edits : Int) (M_typed : Int) (M_readRows : Int) (M_readColumns : Int) (M_top : Int) (M_bottom : Int) (M_left : Int) (M_right : Int) (M_panes : Int) (M_now : Int → Int) (M_queue : Int → Int) (M_pane : Int → Int) (M_size : Int → Int) (M_near : Int → Int) (M_nearMany : Int → Int) (N : Nat) (Res : Int × Int × Int × Int × Int × Int × (Int → Int) × (Int → Int) × (Int → Int) × (Int → Int) × (Int → Int)) (hf : f_mo_equalNeighbours N M_top M_bottom M_left M_right M_panes M_now M_queue M_pane M_size M_near M_nearMany = some Res) : CoI l D (xT cI cJ cZ cO) yX8_equalNeighbours cX8_equalNeighbours 6 (some .int) rm_mo_equalNeighbours [.ref (a 0)] [((a 0), oM a M_edits M_typed M_readRows M_readColumns M_top M_bottom M_left M_right M_panes), ((a 1), aI cI 151 M_now), ((a 5), aI cI 49 M_queue), ((a 6), aI cI 49 M_pane), ((a 8), aI cI 49 M_size), ((a 10), aI cZ 2401 M_near), ((a 11), aI cI 49 M_nearMany)] Res.1 [((a 0), oM a M_edits M_typed M_readRows M_readColumns Res.2.1 Res.2.2.1 Res.2.2.2.1 Res.2.2.2.2.1 Res.2.2.2.2.2.1), ((a 1), aI cI 151 M_now), ((a 5), aI cI 49 Res.2.2.2.2.2.2.1), ((a 6), aI cI 49 Res.2.2.2.2.2.2.2.1), ((a 8), aI cI 49 Res.2.2.2.2.2.2.2.2.1), ((a 10), aI cZ 2401 Res.2.2.2.2.2.2.2.2.2.1), ((a 11), aI cI 49 Res.2.2.2.2.2.2.2.2.2.2)] := by
  refine co_i (by decide) ⟨rfl, rfl⟩ (Nat.le_of_ble_eq_true rfl) ?_
  intro p e s m args below meth c A Q ls C hret hl h
  have hx := C.1.1
  have hb := C.1.2.1
  have hl : lv_has ls 6 [(0, .ref (a 0))] := hl
  unfold f_mo_equalNeighbours at hf
  refine lv_aload_n hx hb (pc := 0) dX8_equalNeighbours_0 rfl (lv_at hl 0 rfl) ?_
  obtain ⟨q_27, hq_27, hf⟩ := ob_some hf
  refine x_callVi C h (pc := 1) hl (c_mo_findNear l D cI cJ cZ cO a M_edits M_typed M_readRows M_readColumns M_top M_bottom M_left M_right M_panes M_now M_queue M_pane M_size M_near M_nearMany N q_27 hq_27) xv_X8_findNear lk_X8_168 ⟨(Nat.le_of_ble_eq_true rfl), (Nat.le_of_ble_eq_true rfl)⟩ rfl [0, 1, 2, 3, 4, 5, 6] [] (nw := 7) (wr := []) (as := [(a 0), (a 1), (a 5), (a 6), (a 8), (a 10), (a 11)]) (ws' := [((a 0), oM a M_edits M_typed M_readRows M_readColumns q_27.2.1 q_27.2.2.1 q_27.2.2.2.1 q_27.2.2.2.2.1 q_27.2.2.2.2.2.1), ((a 1), aI cI 151 M_now), ((a 5), aI cI 49 q_27.2.2.2.2.2.2.1), ((a 6), aI cI 49 q_27.2.2.2.2.2.2.2.1), ((a 8), aI cI 49 q_27.2.2.2.2.2.2.2.2.1), ((a 10), aI cZ 2401 q_27.2.2.2.2.2.2.2.2.2.1), ((a 11), aI cI 49 q_27.2.2.2.2.2.2.2.2.2.2)]) rfl rfl rfl rfl rfl rfl rfl rfl rfl 0 rfl rfl rfl rfl (Nat.le_of_ble_eq_true rfl) dX8_equalNeighbours_1 (fun H locs h => ?_)
  refine lv_istore_n hx hb (pc := 4) (lv' := [(1, iv q_27.1), (0, .ref (a 0))]) dX8_equalNeighbours_4 rfl hl (Nat.le_of_ble_eq_true rfl) rfl (fun ls hl => ?_)
  refine x_iconst C (pc := 5) dX8_equalNeighbours_5 ?_
  refine lv_istore_n hx hb (pc := 6) (lv' := [(2, iv 0), (1, iv q_27.1), (0, .ref (a 0))]) dX8_equalNeighbours_6 rfl hl (Nat.le_of_ble_eq_true rfl) rfl (fun ls hl => ?_)
  refine x_iconst C (pc := 7) dX8_equalNeighbours_7 ?_
  refine lv_istore_n hx hb (pc := 8) (lv' := [(3, iv 0), (2, iv 0), (1, iv q_27.1), (0, .ref (a 0))]) dX8_equalNeighbours_8 rfl hl (Nat.le_of_ble_eq_true rfl) rfl (fun ls hl => ?_)
  exact w_mo_equalNeighbours_9 C a M_edits M_typed M_readRows M_readColumns M_now Res hret N q_27.2.1 q_27.2.2.1 q_27.2.2.2.1 q_27.2.2.2.2.1 q_27.2.2.2.2.2.1 q_27.2.2.2.2.2.2.1 q_27.2.2.2.2.2.2.2.1 q_27.2.2.2.2.2.2.2.2.1 q_27.2.2.2.2.2.2.2.2.2.1 q_27.2.2.2.2.2.2.2.2.2.2 N 0 0 _ _ _ (lv_sub hl [3, 1, 0] rfl) h hf
