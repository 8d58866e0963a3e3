abbrev rm_mo_isPane : Room := { frames := 4, cells := 0, slots := 0, locals := 95 }
set_option maxHeartbeats 4000000 in
set_option maxRecDepth 100000 in
theorem c_mo_isPane (l : Launch) (D : va_G) (cI cJ cZ cO : ClassId) (a : Nat → Nat) (M_edits : Int) (M_typed : Int) (M_readRows : Int) (M_readColumns : Int) (M_top : Int) (M_bottom : Int) (M_left : Int) (M_right : Int) (M_panes : Int) (M_now : Int → Int) (M_queue : Int → Int) (M_pane : Int → Int) (M_size : Int → Int) (l1 : Int) (N : Nat) (Res : Int × Int × Int × Int × Int × Int × (Int → Int) × (Int → Int) × (Int → Int)) (hf : f_mo_isPane N l1 M_top M_bottom M_left M_right M_panes M_now M_queue M_pane M_size = some Res) : CoI l D (xT cI cJ cZ cO) yX8_isPane cX8_isPane 2 (some .boolean) rm_mo_isPane [.ref (a 0), iv l1] [((a 0), oM a M_edits M_typed M_readRows M_readColumns M_top M_bottom M_left M_right M_panes), ((a 1), aI cI 151 M_now), ((a 5), aI cI 49 M_queue), ((a 6), aI cI 49 M_pane), ((a 8), aI cI 49 M_size)] Res.1 [((a 0), oM a M_edits M_typed M_readRows M_readColumns Res.2.1 Res.2.2.1 Res.2.2.2.1 Res.2.2.2.2.1 Res.2.2.2.2.2.1), ((a 1), aI cI 151 M_now), ((a 5), aI cI 49 Res.2.2.2.2.2.2.1), ((a 6), aI cI 49 Res.2.2.2.2.2.2.2.1), ((a 8), aI cI 49 Res.2.2.2.2.2.2.2.2)] := by
  refine co_z (by decide) ⟨rfl, rfl⟩ (Nat.le_of_ble_eq_true rfl) ?_
  intro p e s m args below meth c A Q ls C hret hl h
  have hx := C.1.1
  have hb := C.1.2.1
  have hl : lv_has ls 2 [(0, .ref (a 0)), (1, iv l1)] := hl
  unfold f_mo_isPane at hf
  refine lv_aload_n hx hb (pc := 0) dX8_isPane_0 rfl (lv_at hl 0 rfl) ?_
  obtain ⟨q_1, hq_1, hf⟩ := ob_some hf
  refine x_callVv C h (pc := 1) hl (c_mo_findPanes l D cI cJ cZ cO a M_edits M_typed M_readRows M_readColumns M_top M_bottom M_left M_right M_panes M_now M_queue M_pane M_size N q_1 hq_1) xv_X8_findPanes lk_X8_89 ⟨(Nat.le_of_ble_eq_true rfl), (Nat.le_of_ble_eq_true rfl)⟩ rfl [0, 1, 2, 3, 4] [] (nw := 5) (wr := []) (as := [(a 0), (a 1), (a 5), (a 6), (a 8)]) (ws' := [((a 0), oM a M_edits M_typed M_readRows M_readColumns q_1.1 q_1.2.1 q_1.2.2.1 q_1.2.2.2.1 q_1.2.2.2.2.1), ((a 1), aI cI 151 M_now), ((a 5), aI cI 49 q_1.2.2.2.2.2.1), ((a 6), aI cI 49 q_1.2.2.2.2.2.2.1), ((a 8), aI cI 49 q_1.2.2.2.2.2.2.2)]) rfl rfl rfl rfl rfl rfl rfl rfl rfl 0 rfl rfl rfl rfl (Nat.le_of_ble_eq_true rfl) dX8_isPane_1 (fun H locs h => ?_)
  refine lv_iload_n hx hb (pc := 4) dX8_isPane_4 rfl (lv_at hl 1 rfl) ?_
  refine x_iconst C (pc := 5) dX8_isPane_5 ?_
  refine lv_aload_n hx hb (pc := 6) dX8_isPane_6 rfl (lv_at hl 0 rfl) ?_
  refine x_get C h (pc := 7) xf_X8_92 0 rfl (v := iv q_1.2.2.2.2.1) rfl dX8_isPane_7 ?_
  refine x_iconst C (pc := 10) dX8_isPane_10 ?_
  refine x_isub C (pc := 11) dX8_isPane_11 ?_
  obtain ⟨q_2, hq_2, hf⟩ := ob_some hf
  refine x_callSi C h (pc := 12) hl (c_mo_in l D cI cJ cZ cO a l1 0 (q_1.2.2.2.2.1 - 1) N q_2 hq_2) xs_X8_in lk_X8_65 ⟨(Nat.le_of_ble_eq_true rfl), (Nat.le_of_ble_eq_true rfl)⟩ rfl [] [0, 1, 2, 3, 4] (nw := 5) (wr := [((a 0), oM a M_edits M_typed M_readRows M_readColumns q_1.1 q_1.2.1 q_1.2.2.1 q_1.2.2.2.1 q_1.2.2.2.2.1), ((a 1), aI cI 151 M_now), ((a 5), aI cI 49 q_1.2.2.2.2.2.1), ((a 6), aI cI 49 q_1.2.2.2.2.2.2.1), ((a 8), aI cI 49 q_1.2.2.2.2.2.2.2)]) (as := [(a 0), (a 1), (a 5), (a 6), (a 8)]) (ws' := [((a 0), oM a M_edits M_typed M_readRows M_readColumns q_1.1 q_1.2.1 q_1.2.2.1 q_1.2.2.2.1 q_1.2.2.2.2.1), ((a 1), aI cI 151 M_now), ((a 5), aI cI 49 q_1.2.2.2.2.2.1), ((a 6), aI cI 49 q_1.2.2.2.2.2.2.1), ((a 8), aI cI 49 q_1.2.2.2.2.2.2.2)]) rfl rfl rfl rfl rfl rfl rfl rfl rfl rfl (Nat.le_of_ble_eq_true rfl) dX8_isPane_12 (fun H locs h => ?_)
  obtain ⟨g_3, hf⟩ := og_some hf
  have e9 := Option.some.inj hf
  subst e9
  exact hret _ _ _ _ g_3 dX8_isPane_15 h
abbrev rm_mo_corners : Room := { frames := 0, cells := 0, slots := 0, locals := 0 }
set_option maxHeartbeats 4000000 in
set_option maxRecDepth 100000 in
theorem w_mo_corners_21 {p : Program} {l : Launch} {e : Env} {s : State} {m : MethodId} {args : Array Value} {below : List Frame} {meth : Method} {c : Code} {Q : State → Prop} {D : va_G} {cI cJ cZ cO : ClassId} {A : Nat → Prop} {H0 : Heap} {w0 : Cond} (C : XC p s m args c cX8_corners 8 RX8 w0 D (xT cI cJ cZ cO)) (a : Nat → Nat) (xm : Nat) (M_edits : Int) (M_typed : Int) (M_readRows : Int) (M_readColumns : Int) (M_top : Int) (M_bottom : Int) (M_left : Int) (M_right : Int) (M_panes : Int) (M_now : Int → Int) (M_marks : Int → Int) (Res : Int) (hret : XRI p l e rm_mo_corners s m args below meth c cX8_corners D A H0 Q Res [((a 0), oM a M_edits M_typed M_readRows M_readColumns M_top M_bottom M_left M_right M_panes), ((a 1), aI cI 151 M_now), (xm, aI cI 49 M_marks)]) (N : Nat) (l2 : Int) (l4 : Int) (k5 : Int → Int → Option (Int)) (hk5 : ∀ (l3' : Int) (l4' : Int) (ls : Array Slot) (H : Heap) (locs : List Loc), lv_has ls 8 [(0, .ref (a 0)), (1, .ref xm), (2, iv l2), (3, iv l3'), (4, iv l4')] → XH D A H0 [((a 0), oM a M_edits M_typed M_readRows M_readColumns M_top M_bottom M_left M_right M_panes), ((a 1), aI cI 151 M_now), (xm, aI cI 49 M_marks)] H locs → k5 l3' l4' = some Res → W p l e rm_mo_corners s m args below meth c H locs 0 0 Q (F0 m 5 ls [])) : ∀ (n : Nat) (l3 : Int) (l5 : Int) (ls : Array Slot) (H : Heap) (locs : List Loc), lv_has ls 8 [(0, .ref (a 0)), (1, .ref xm), (2, iv l2), (3, iv l3), (4, iv l4), (5, iv l5)] → XH D A H0 [((a 0), oM a M_edits M_typed M_readRows M_readColumns M_top M_bottom M_left M_right M_panes), ((a 1), aI cI 151 M_now), (xm, aI cI 49 M_marks)] H locs → f_mo_corners_21 N l2 l4 M_now M_marks k5 n l3 l5 = some Res → W p l e rm_mo_corners s m args below meth c H locs 0 0 Q (F0 m 21 ls []) := by
  have hx := C.1.1
  have hb := C.1.2.1
  intro n
  induction n with
  | zero => intro l3 l5 ls H locs hl h hf; cases hf
  | succ n ih =>
    intro l3 l5 ls H locs hl h hf
    rw [f_mo_corners_21.eq_2] at hf
    refine lv_iload hx hb (pc := 21) dX8_corners_21 (lv_at hl 5 rfl) ?_
    refine x_iconst C (pc := 23) dX8_corners_23 ?_
    refine x_iadd C (pc := 24) dX8_corners_24 ?_
    refine lv_aload_n hx hb (pc := 25) dX8_corners_25 rfl (lv_at hl 0 rfl) ?_
    refine x_get C h (pc := 26) xf_X8_7 0 rfl (v := .ref (a 1)) rfl dX8_corners_26 ?_
    refine x_iconst C (pc := 29) dX8_corners_29 ?_
    refine x_iald C h (pc := 30) 1 0 rfl rfl (Nat.le_of_ble_eq_true rfl) ⟨by decide, by decide⟩ dX8_corners_30 ?_
    obtain ⟨g_30, hf⟩ := og_some hf
    obtain ⟨g_31, hf⟩ := og_some hf
    refine x_icmpge C (pc := 31) (tgt := 131) g_30 g_31 dX8_corners_31 rfl (fun hc => ?_) (fun hc => ?_)
    · have hf := oi_t hf hc
      obtain ⟨l4_32, el4_32, hf⟩ := ol_some hf
      refine x_iinc C (pc := 131) (k := 4) (lw' := [(4, iv l4_32), (0, .ref (a 0)), (1, .ref xm), (2, iv l2), (3, iv l3), (5, iv l5)]) dX8_corners_131 hl rfl el4_32 (Nat.le_of_ble_eq_true rfl) rfl (fun ls hl => ?_)
      refine lv_goto hx hb (pc := 134) (tgt := 5) dX8_corners_134 rfl ?_
      exact hk5 l3 l4_32 _ _ _ (lv_sub hl [1, 2, 3, 4, 0] rfl) h hf
    · have hf := oi_f hf hc
      refine x_bipush C (pc := 34) dX8_corners_34 (by decide) ?_
      refine lv_iload hx hb (pc := 36) dX8_corners_36 (lv_at hl 4 rfl) ?_
      refine x_imul C (pc := 38) dX8_corners_38 ?_
      refine lv_iload hx hb (pc := 39) dX8_corners_39 (lv_at hl 5 rfl) ?_
      refine x_iadd C (pc := 41) dX8_corners_41 ?_
      obtain ⟨l6_33, el6_33, hf⟩ := ol_some hf
      refine x_topi el6_33 ?_
      refine lv_istore hx hb (pc := 42) (lv' := [(6, iv l6_33), (0, .ref (a 0)), (1, .ref xm), (2, iv l2), (3, iv l3), (4, iv l4), (5, iv l5)]) dX8_corners_42 hl (Nat.le_of_ble_eq_true rfl) rfl (fun ls hl => ?_)
      refine lv_aload_n hx hb (pc := 44) dX8_corners_44 rfl (lv_at hl 2 rfl) ?_
      refine lv_iload hx hb (pc := 45) dX8_corners_45 (lv_at hl 0 rfl) ?_
      obtain ⟨g_34, hf⟩ := og_some hf
      refine x_iald C h (pc := 47) 2 0 rfl rfl (Nat.le_of_ble_eq_true rfl) g_34 dX8_corners_47 ?_
      refine lv_iload_n hx hb (pc := 48) dX8_corners_48 rfl (lv_at hl 3 rfl) ?_
      obtain ⟨g_35, hf⟩ := og_some hf
      obtain ⟨g_36, hf⟩ := og_some hf
      obtain ⟨r_37, hrr_37, hf⟩ := ob_some hf
      have Jr_37 : ∀ (ls : Array Slot) (H : Heap) (locs : List Loc), lv_has ls 8 [(0, .ref (a 0)), (1, .ref xm), (2, iv l2), (3, iv l3), (4, iv l4), (5, iv l5), (6, iv l6_33)] → XH D A H0 [((a 0), oM a M_edits M_typed M_readRows M_readColumns M_top M_bottom M_left M_right M_panes), ((a 1), aI cI 151 M_now), (xm, aI cI 49 M_marks)] H locs → W p l e rm_mo_corners s m args below meth c H locs 0 0 Q (F0 m 57 ls [iv r_37]) := by
        intro ls H locs hl h
        refine lv_aload_n hx hb (pc := 57) dX8_corners_57 rfl (lv_at hl 1 rfl) ?_
        refine lv_iload hx hb (pc := 58) dX8_corners_58 (lv_at hl 6 rfl) ?_
        refine x_iconst C (pc := 60) dX8_corners_60 ?_
        refine x_iadd C (pc := 61) dX8_corners_61 ?_
        obtain ⟨g_38, hf⟩ := og_some hf
        refine x_iald C h (pc := 62) 2 0 rfl rfl (Nat.le_of_ble_eq_true rfl) g_38 dX8_corners_62 ?_
        refine lv_iload_n hx hb (pc := 63) dX8_corners_63 rfl (lv_at hl 2 rfl) ?_
        obtain ⟨g_39, hf⟩ := og_some hf
        obtain ⟨r_40, hrr_40, hf⟩ := ob_some hf
        have Jr_40 : ∀ (ls : Array Slot) (H : Heap) (locs : List Loc), lv_has ls 8 [(0, .ref (a 0)), (1, .ref xm), (2, iv l2), (3, iv l3), (4, iv l4), (5, iv l5), (6, iv l6_33)] → XH D A H0 [((a 0), oM a M_edits M_typed M_readRows M_readColumns M_top M_bottom M_left M_right M_panes), ((a 1), aI cI 151 M_now), (xm, aI cI 49 M_marks)] H locs → W p l e rm_mo_corners s m args below meth c H locs 0 0 Q (F0 m 72 ls [iv r_40, iv r_37]) := by
          intro ls H locs hl h
          refine x_iadd C (pc := 72) dX8_corners_72 ?_
          refine lv_aload_n hx hb (pc := 73) dX8_corners_73 rfl (lv_at hl 1 rfl) ?_
          refine lv_iload hx hb (pc := 74) dX8_corners_74 (lv_at hl 6 rfl) ?_
          refine x_bipush C (pc := 76) dX8_corners_76 (by decide) ?_
          refine x_iadd C (pc := 78) dX8_corners_78 ?_
          obtain ⟨g_41, hf⟩ := og_some hf
          refine x_iald C h (pc := 79) 2 0 rfl rfl (Nat.le_of_ble_eq_true rfl) g_41 dX8_corners_79 ?_
          refine lv_iload_n hx hb (pc := 80) dX8_corners_80 rfl (lv_at hl 2 rfl) ?_
          obtain ⟨g_42, hf⟩ := og_some hf
          obtain ⟨r_43, hrr_43, hf⟩ := ob_some hf
          have Jr_43 : ∀ (ls : Array Slot) (H : Heap) (locs : List Loc), lv_has ls 8 [(0, .ref (a 0)), (1, .ref xm), (2, iv l2), (3, iv l3), (4, iv l4), (5, iv l5), (6, iv l6_33)] → XH D A H0 [((a 0), oM a M_edits M_typed M_readRows M_readColumns M_top M_bottom M_left M_right M_panes), ((a 1), aI cI 151 M_now), (xm, aI cI 49 M_marks)] H locs → W p l e rm_mo_corners s m args below meth c H locs 0 0 Q (F0 m 89 ls [iv r_43, iv (r_37 + r_40)]) := by
            intro ls H locs hl h
            refine x_iadd C (pc := 89) dX8_corners_89 ?_
            refine lv_aload_n hx hb (pc := 90) dX8_corners_90 rfl (lv_at hl 1 rfl) ?_
            refine lv_iload hx hb (pc := 91) dX8_corners_91 (lv_at hl 6 rfl) ?_
            refine x_bipush C (pc := 93) dX8_corners_93 (by decide) ?_
            refine x_iadd C (pc := 95) dX8_corners_95 ?_
            refine x_iconst C (pc := 96) dX8_corners_96 ?_
            refine x_iadd C (pc := 97) dX8_corners_97 ?_
            obtain ⟨g_44, hf⟩ := og_some hf
            refine x_iald C h (pc := 98) 2 0 rfl rfl (Nat.le_of_ble_eq_true rfl) g_44 dX8_corners_98 ?_
            refine lv_iload_n hx hb (pc := 99) dX8_corners_99 rfl (lv_at hl 2 rfl) ?_
            obtain ⟨g_45, hf⟩ := og_some hf
            obtain ⟨r_46, hrr_46, hf⟩ := ob_some hf
            have Jr_46 : ∀ (ls : Array Slot) (H : Heap) (locs : List Loc), lv_has ls 8 [(0, .ref (a 0)), (1, .ref xm), (2, iv l2), (3, iv l3), (4, iv l4), (5, iv l5)] → XH D A H0 [((a 0), oM a M_edits M_typed M_readRows M_readColumns M_top M_bottom M_left M_right M_panes), ((a 1), aI cI 151 M_now), (xm, aI cI 49 M_marks)] H locs → W p l e rm_mo_corners s m args below meth c H locs 0 0 Q (F0 m 108 ls [iv r_46, iv ((r_37 + r_40) + r_43)]) := by
              intro ls H locs hl h
              refine x_iadd C (pc := 108) dX8_corners_108 ?_
              obtain ⟨l7_47, el7_47, hf⟩ := ol_some hf
              refine x_topi el7_47 ?_
              refine lv_istore hx hb (pc := 109) (lv' := [(7, iv l7_47), (0, .ref (a 0)), (1, .ref xm), (2, iv l2), (3, iv l3), (4, iv l4), (5, iv l5)]) dX8_corners_109 hl (Nat.le_of_ble_eq_true rfl) rfl (fun ls hl => ?_)
              refine lv_iload_n hx hb (pc := 111) dX8_corners_111 rfl (lv_at hl 4 rfl) ?_
              refine lv_iload hx hb (pc := 112) dX8_corners_112 (lv_at hl 0 rfl) ?_
              refine x_iconst C (pc := 114) dX8_corners_114 ?_
              obtain ⟨g_48, hf⟩ := og_some hf
              obtain ⟨r_49, hrr_49, hf⟩ := ob_some hf
              have Jr_49 : ∀ (ls : Array Slot) (H : Heap) (locs : List Loc), lv_has ls 8 [(0, .ref (a 0)), (1, .ref xm), (2, iv l2), (4, iv l4), (5, iv l5)] → XH D A H0 [((a 0), oM a M_edits M_typed M_readRows M_readColumns M_top M_bottom M_left M_right M_panes), ((a 1), aI cI 151 M_now), (xm, aI cI 49 M_marks)] H locs → W p l e rm_mo_corners s m args below meth c H locs 0 0 Q (F0 m 123 ls [iv r_49, iv l3]) := by
                intro ls H locs hl h
                refine x_iadd C (pc := 123) dX8_corners_123 ?_
                obtain ⟨l3_50, el3_50, hf⟩ := ol_some hf
                refine x_topi el3_50 ?_
                refine lv_istore_n hx hb (pc := 124) (lv' := [(3, iv l3_50), (0, .ref (a 0)), (1, .ref xm), (2, iv l2), (4, iv l4), (5, iv l5)]) dX8_corners_124 rfl hl (Nat.le_of_ble_eq_true rfl) rfl (fun ls hl => ?_)
                obtain ⟨l5_51, el5_51, hf⟩ := ol_some hf
                refine x_iinc C (pc := 125) (k := 5) (lw' := [(5, iv l5_51), (3, iv l3_50), (0, .ref (a 0)), (1, .ref xm), (2, iv l2), (4, iv l4)]) dX8_corners_125 hl rfl el5_51 (Nat.le_of_ble_eq_true rfl) rfl (fun ls hl => ?_)
                refine lv_goto hx hb (pc := 128) (tgt := 21) dX8_corners_128 rfl ?_
                exact ih l3_50 l5_51 _ _ _ (lv_sub hl [2, 3, 4, 1, 5, 0] rfl) h hf
              clear hf
              have hf := hrr_49
              refine x_icmpne C (pc := 115) (tgt := 122) g_48 ⟨by decide, by decide⟩ dX8_corners_115 rfl (fun hc => ?_) (fun hc => ?_)
              · have hf := oi_f hf hc
                refine x_iconst C (pc := 122) dX8_corners_122 ?_
                have e9 := Option.some.inj hf
                subst e9
                exact Jr_49 _ _ _ (lv_sub hl [1, 2, 3, 5, 6] rfl) h
              · have hf := oi_t hf hc
                refine x_iconst C (pc := 118) dX8_corners_118 ?_
                refine lv_goto hx hb (pc := 119) (tgt := 123) dX8_corners_119 rfl ?_
                have e9 := Option.some.inj hf
                subst e9
                exact Jr_49 _ _ _ (lv_sub hl [1, 2, 3, 5, 6] rfl) h
            clear hf
            have hf := hrr_46
            refine x_icmpne C (pc := 100) (tgt := 107) g_45 g_36 dX8_corners_100 rfl (fun hc => ?_) (fun hc => ?_)
            · have hf := oi_f hf hc
              refine x_iconst C (pc := 107) dX8_corners_107 ?_
              have e9 := Option.some.inj hf
              subst e9
              exact Jr_46 _ _ _ (lv_sub hl [0, 1, 2, 3, 4, 5] rfl) h
            · have hf := oi_t hf hc
              refine x_iconst C (pc := 103) dX8_corners_103 ?_
              refine lv_goto hx hb (pc := 104) (tgt := 108) dX8_corners_104 rfl ?_
              have e9 := Option.some.inj hf
              subst e9
              exact Jr_46 _ _ _ (lv_sub hl [0, 1, 2, 3, 4, 5] rfl) h
          clear hf
          have hf := hrr_43
          refine x_icmpne C (pc := 81) (tgt := 88) g_42 g_36 dX8_corners_81 rfl (fun hc => ?_) (fun hc => ?_)
          · have hf := oi_f hf hc
            refine x_iconst C (pc := 88) dX8_corners_88 ?_
            have e9 := Option.some.inj hf
            subst e9
            exact Jr_43 _ _ _ (lv_sub hl [0, 1, 2, 3, 4, 5, 6] rfl) h
          · have hf := oi_t hf hc
            refine x_iconst C (pc := 84) dX8_corners_84 ?_
            refine lv_goto hx hb (pc := 85) (tgt := 89) dX8_corners_85 rfl ?_
            have e9 := Option.some.inj hf
            subst e9
            exact Jr_43 _ _ _ (lv_sub hl [0, 1, 2, 3, 4, 5, 6] rfl) h
        clear hf
        have hf := hrr_40
        refine x_icmpne C (pc := 64) (tgt := 71) g_39 g_36 dX8_corners_64 rfl (fun hc => ?_) (fun hc => ?_)
        · have hf := oi_f hf hc
          refine x_iconst C (pc := 71) dX8_corners_71 ?_
          have e9 := Option.some.inj hf
          subst e9
          exact Jr_40 _ _ _ (lv_sub hl [0, 1, 2, 3, 4, 5, 6] rfl) h
        · have hf := oi_t hf hc
          refine x_iconst C (pc := 67) dX8_corners_67 ?_
          refine lv_goto hx hb (pc := 68) (tgt := 72) dX8_corners_68 rfl ?_
          have e9 := Option.some.inj hf
          subst e9
          exact Jr_40 _ _ _ (lv_sub hl [0, 1, 2, 3, 4, 5, 6] rfl) h
      clear hf
      have hf := hrr_37
      refine x_icmpne C (pc := 49) (tgt := 56) g_35 g_36 dX8_corners_49 rfl (fun hc => ?_) (fun hc => ?_)
      · have hf := oi_f hf hc
        refine x_iconst C (pc := 56) dX8_corners_56 ?_
        have e9 := Option.some.inj hf
        subst e9
        exact Jr_37 _ _ _ (lv_sub hl [1, 2, 3, 4, 5, 6, 0] rfl) h
      · have hf := oi_t hf hc
        refine x_iconst C (pc := 52) dX8_corners_52 ?_
        refine lv_goto hx hb (pc := 53) (tgt := 57) dX8_corners_53 rfl ?_
        have e9 := Option.some.inj hf
        subst e9
        exact Jr_37 _ _ _ (lv_sub hl [1, 2, 3, 4, 5, 6, 0] rfl) h
set_option maxHeartbeats 4000000 in
set_option maxRecDepth 100000 in
theorem w_mo_corners_5 {p : Program} {l : Launch} {e : Env} {s : State} {m : MethodId} {args : Array Value} {below : List Frame} {meth : Method} {c : Code} {Q : State → Prop} {D : va_G} {cI cJ cZ cO : ClassId} {A : Nat → Prop} {H0 : Heap} {w0 : Cond} (C : XC p s m args c cX8_corners 8 RX8 w0 D (xT cI cJ cZ cO)) (a : Nat → Nat) (xm : Nat) (M_edits : Int) (M_typed : Int) (M_readRows : Int) (M_readColumns : Int) (M_top : Int) (M_bottom : Int) (M_left : Int) (M_right : Int) (M_panes : Int) (M_now : Int → Int) (M_marks : Int → Int) (Res : Int) (hret : XRI p l e rm_mo_corners s m args below meth c cX8_corners D A H0 Q Res [((a 0), oM a M_edits M_typed M_readRows M_readColumns M_top M_bottom M_left M_right M_panes), ((a 1), aI cI 151 M_now), (xm, aI cI 49 M_marks)]) (N : Nat) (l2 : Int) : ∀ (n : Nat) (l3 : Int) (l4 : Int) (ls : Array Slot) (H : Heap) (locs : List Loc), lv_has ls 8 [(0, .ref (a 0)), (1, .ref xm), (2, iv l2), (3, iv l3), (4, iv l4)] → XH D A H0 [((a 0), oM a M_edits M_typed M_readRows M_readColumns M_top M_bottom M_left M_right M_panes), ((a 1), aI cI 151 M_now), (xm, aI cI 49 M_marks)] H locs → f_mo_corners_5 N l2 M_now M_marks n l3 l4 = some Res → W p l e rm_mo_corners s m args below meth c H locs 0 0 Q (F0 m 5 ls []) := by
  have hx := C.1.1
  have hb := C.1.2.1
  intro n
  induction n with
  | zero => intro l3 l4 ls H locs hl h hf; cases hf
  | succ n ih =>
    intro l3 l4 ls H locs hl h hf
    rw [f_mo_corners_5.eq_2] at hf
    refine lv_iload hx hb (pc := 5) dX8_corners_5 (lv_at hl 4 rfl) ?_
    refine x_iconst C (pc := 7) dX8_corners_7 ?_
    refine x_iadd C (pc := 8) dX8_corners_8 ?_
    refine lv_aload_n hx hb (pc := 9) dX8_corners_9 rfl (lv_at hl 0 rfl) ?_
    refine x_get C h (pc := 10) xf_X8_7 0 rfl (v := .ref (a 1)) rfl dX8_corners_10 ?_
    refine x_iconst C (pc := 13) dX8_corners_13 ?_
    refine x_iald C h (pc := 14) 1 0 rfl rfl (Nat.le_of_ble_eq_true rfl) ⟨by decide, by decide⟩ dX8_corners_14 ?_
    obtain ⟨g_28, hf⟩ := og_some hf
    obtain ⟨g_29, hf⟩ := og_some hf
    refine x_icmpge C (pc := 15) (tgt := 137) g_28 g_29 dX8_corners_15 rfl (fun hc => ?_) (fun hc => ?_)
    · have hf := oi_t hf hc
      refine lv_iload_n hx hb (pc := 137) dX8_corners_137 rfl (lv_at hl 3 rfl) ?_
      have e9 := Option.some.inj hf
      subst e9
      exact hret _ _ _ _ dX8_corners_138 h
    · have hf := oi_f hf hc
      refine x_iconst C (pc := 18) dX8_corners_18 ?_
      refine lv_istore hx hb (pc := 19) (lv' := [(5, iv 0), (0, .ref (a 0)), (1, .ref xm), (2, iv l2), (3, iv l3), (4, iv l4)]) dX8_corners_19 hl (Nat.le_of_ble_eq_true rfl) rfl (fun ls hl => ?_)
      exact w_mo_corners_21 C a xm M_edits M_typed M_readRows M_readColumns M_top M_bottom M_left M_right M_panes M_now M_marks Res hret N l2 l4 (f_mo_corners_5 N l2 M_now M_marks n) ih N l3 0 _ _ _ (lv_sub hl [1, 2, 3, 4, 5, 0] rfl) h hf
set_option maxHeartbeats 4000000 in
set_option maxRecDepth 100000 in
theorem c_mo_corners (l : Launch) (D : va_G) (cI cJ cZ cO : ClassId) (a : Nat → Nat) (xm : Nat) (M_edits : Int) (M_typed : Int) (M_readRows : Int) (M_readColumns : Int) (M_top : Int) (M_bottom : Int) (M_left : Int) (M_right : Int) (M_panes : Int) (M_now : Int → Int) (M_marks : Int → Int) (l2 : Int) (N : Nat) (Res : Int) (hf : f_mo_corners N l2 M_now M_marks = some Res) : CoI l D (xT cI cJ cZ cO) yX8_corners cX8_corners 8 (some .int) rm_mo_corners [.ref (a 0), .ref xm, iv l2] [((a 0), oM a M_edits M_typed M_readRows M_readColumns M_top M_bottom M_left M_right M_panes), ((a 1), aI cI 151 M_now), (xm, aI cI 49 M_marks)] Res [((a 0), oM a M_edits M_typed M_readRows M_readColumns M_top M_bottom M_left M_right M_panes), ((a 1), aI cI 151 M_now), (xm, aI cI 49 M_marks)] := by
  refine co_i (by decide) ⟨rfl, rfl⟩ (Nat.le_of_ble_eq_true rfl) ?_
  intro p e s m args below meth c A Q ls C hret hl h
  have hx := C.1.1
  have hb := C.1.2.1
  have hl : lv_has ls 8 [(0, .ref (a 0)), (1, .ref xm), (2, iv l2)] := hl
  unfold f_mo_corners at hf
  refine x_iconst C (pc := 0) dX8_corners_0 ?_
  refine lv_istore_n hx hb (pc := 1) (lv' := [(3, iv 0), (0, .ref (a 0)), (1, .ref xm), (2, iv l2)]) dX8_corners_1 rfl hl (Nat.le_of_ble_eq_true rfl) rfl (fun ls hl => ?_)
  refine x_iconst C (pc := 2) dX8_corners_2 ?_
  refine lv_istore hx hb (pc := 3) (lv' := [(4, iv 0), (3, iv 0), (0, .ref (a 0)), (1, .ref xm), (2, iv l2)]) dX8_corners_3 hl (Nat.le_of_ble_eq_true rfl) rfl (fun ls hl => ?_)
  exact w_mo_corners_5 C a xm M_edits M_typed M_readRows M_readColumns M_top M_bottom M_left M_right M_panes M_now M_marks Res hret N l2 N 0 0 _ _ _ (lv_sub hl [2, 3, 4, 1, 0] rfl) h hf
abbrev rm_mo_isEdge : Room := { frames := 0, cells := 0, slots := 0, locals := 0 }
set_option maxHeartbeats 4000000 in
set_option maxRecDepth 100000 in
theorem c_mo_isEdge (l : Launch) (D : va_G) (cI cJ cZ cO : ClassId) (a : Nat → Nat) (M_edits : Int) (M_typed : Int) (M_readRows : Int) (M_readColumns : Int) (M_top : Int) (M_bottom : Int) (M_left : Int) (M_right : Int) (M_panes : Int) (M_now : Int → Int) (l1 : Int) (N : Nat) (Res : Int) (hf : f_mo_isEdge N l1 M_now = some Res) : CoI l D (xT cI cJ cZ cO) yX8_isEdge cX8_isEdge 4 (some .boolean) rm_mo_isEdge [.ref (a 0), iv l1] [((a 0), oM a M_edits M_typed M_readRows M_readColumns M_top M_bottom M_left M_right M_panes), ((a 1), aI cI 151 M_now)] Res [((a 0), oM a M_edits M_typed M_readRows M_readColumns M_top M_bottom M_left M_right M_panes), ((a 1), aI cI 151 M_now)] := by
  refine co_z (by decide) ⟨rfl, rfl⟩ (Nat.le_of_ble_eq_true rfl) ?_
  intro p e s m args below meth c A Q ls C hret hl h
  have hx := C.1.1
  have hb := C.1.2.1
  have hl : lv_has ls 4 [(0, .ref (a 0)), (1, iv l1)] := hl
  unfold f_mo_isEdge at hf
  refine lv_iload_n hx hb (pc := 0) dX8_isEdge_0 rfl (lv_at hl 1 rfl) ?_
  refine x_bipush C (pc := 1) dX8_isEdge_1 (by decide) ?_
  obtain ⟨g_1, hf⟩ := og_some hf
  refine x_idiv C (pc := 3) g_1 ⟨by decide, by decide⟩ dX8_isEdge_3 ?_
  obtain ⟨l2_2, el2_2, hf⟩ := ol_some hf
  refine x_topi el2_2 ?_
  refine lv_istore_n hx hb (pc := 4) (lv' := [(2, iv l2_2), (0, .ref (a 0)), (1, iv l1)]) dX8_isEdge_4 rfl hl (Nat.le_of_ble_eq_true rfl) rfl (fun ls hl => ?_)
  refine lv_iload_n hx hb (pc := 5) dX8_isEdge_5 rfl (lv_at hl 2 rfl) ?_
  refine x_bipush C (pc := 6) dX8_isEdge_6 (by decide) ?_
  refine x_irem C (pc := 8) g_1 ⟨by decide, by decide⟩ dX8_isEdge_8 ?_
  obtain ⟨l3_3, el3_3, hf⟩ := ol_some hf
  refine x_topi el3_3 ?_
  refine lv_istore_n hx hb (pc := 9) (lv' := [(3, iv l3_3), (2, iv l2_2), (0, .ref (a 0)), (1, iv l1)]) dX8_isEdge_9 rfl hl (Nat.le_of_ble_eq_true rfl) rfl (fun ls hl => ?_)
  refine lv_iload_n hx hb (pc := 10) dX8_isEdge_10 rfl (lv_at hl 1 rfl) ?_
  obtain ⟨g_4, hf⟩ := og_some hf
  refine x_ifeq C (pc := 11) (tgt := 42) g_4 dX8_isEdge_11 rfl (fun hc => ?_) (fun hc => ?_)
  · have hf := oi_t hf hc
    refine x_iconst C (pc := 42) dX8_isEdge_42 ?_
    refine lv_goto hx hb (pc := 43) (tgt := 47) dX8_isEdge_43 rfl ?_
    have e9 := Option.some.inj hf
    subst e9
    exact hret _ _ _ _ (Or.inr rfl) dX8_isEdge_47 h
  · have hf := oi_f hf hc
    refine lv_iload_n hx hb (pc := 14) dX8_isEdge_14 rfl (lv_at hl 0 rfl) ?_
    obtain ⟨g_5, hf⟩ := og_some hf
    refine x_ifeq C (pc := 15) (tgt := 42) g_5 dX8_isEdge_15 rfl (fun hc => ?_) (fun hc => ?_)
    · have hf := oi_t hf hc
      refine x_iconst C (pc := 42) dX8_isEdge_42 ?_
      refine lv_goto hx hb (pc := 43) (tgt := 47) dX8_isEdge_43 rfl ?_
      have e9 := Option.some.inj hf
      subst e9
      exact hret _ _ _ _ (Or.inr rfl) dX8_isEdge_47 h
    · have hf := oi_f hf hc
      refine lv_iload_n hx hb (pc := 18) dX8_isEdge_18 rfl (lv_at hl 1 rfl) ?_
      refine lv_aload_n hx hb (pc := 19) dX8_isEdge_19 rfl (lv_at hl 2 rfl) ?_
      refine x_get C h (pc := 20) xf_X8_7 0 rfl (v := .ref (a 1)) rfl dX8_isEdge_20 ?_
      refine x_iconst C (pc := 23) dX8_isEdge_23 ?_
      refine x_iald C h (pc := 24) 1 0 rfl rfl (Nat.le_of_ble_eq_true rfl) ⟨by decide, by decide⟩ dX8_isEdge_24 ?_
      refine x_iconst C (pc := 25) dX8_isEdge_25 ?_
      refine x_isub C (pc := 26) dX8_isEdge_26 ?_
      obtain ⟨g_6, hf⟩ := og_some hf
      refine x_icmpeq C (pc := 27) (tgt := 42) g_4 g_6 dX8_isEdge_27 rfl (fun hc => ?_) (fun hc => ?_)
      · have hf := oi_t hf hc
        refine x_iconst C (pc := 42) dX8_isEdge_42 ?_
        refine lv_goto hx hb (pc := 43) (tgt := 47) dX8_isEdge_43 rfl ?_
        have e9 := Option.some.inj hf
        subst e9
        exact hret _ _ _ _ (Or.inr rfl) dX8_isEdge_47 h
      · have hf := oi_f hf hc
        refine lv_iload_n hx hb (pc := 30) dX8_isEdge_30 rfl (lv_at hl 0 rfl) ?_
        refine lv_aload_n hx hb (pc := 31) dX8_isEdge_31 rfl (lv_at hl 2 rfl) ?_
        refine x_get C h (pc := 32) xf_X8_7 0 rfl (v := .ref (a 1)) rfl dX8_isEdge_32 ?_
        refine x_iconst C (pc := 35) dX8_isEdge_35 ?_
        refine x_iald C h (pc := 36) 1 0 rfl rfl (Nat.le_of_ble_eq_true rfl) ⟨by decide, by decide⟩ dX8_isEdge_36 ?_
        refine x_iconst C (pc := 37) dX8_isEdge_37 ?_
        refine x_isub C (pc := 38) dX8_isEdge_38 ?_
        obtain ⟨g_7, hf⟩ := og_some hf
        refine x_icmpne C (pc := 39) (tgt := 46) g_5 g_7 dX8_isEdge_39 rfl (fun hc => ?_) (fun hc => ?_)
        · have hf := oi_f hf hc
          refine x_iconst C (pc := 46) dX8_isEdge_46 ?_
          have e9 := Option.some.inj hf
          subst e9
          exact hret _ _ _ _ (Or.inl rfl) dX8_isEdge_47 h
        · have hf := oi_t hf hc
          refine x_iconst C (pc := 42) dX8_isEdge_42 ?_
          refine lv_goto hx hb (pc := 43) (tgt := 47) dX8_isEdge_43 rfl ?_
          have e9 := Option.some.inj hf
          subst e9
          exact hret _ _ _ _ (Or.inr rfl) dX8_isEdge_47 h
abbrev rm_mo_isHole : Room := { frames := 2, cells := 0, slots := 0, locals := 44 }
set_option maxHeartbeats 4000000 in
set_option maxRecDepth 100000 in
theorem w_mo_isHole_83 {p : Program} {l : Launch} {e : Env} {s : State} {m : MethodId} {args : Array Value} {below : List Frame} {meth : Method} {c : Code} {Q : State → Prop} {D : va_G} {cI cJ cZ cO : ClassId} {A : Nat → Prop} {H0 : Heap} {w0 : Cond} (C : XC p s m args c cX8_isHole 11 RX8 w0 D (xT cI cJ cZ cO)) (a : Nat → Nat) (xm : Nat) (M_edits : Int) (M_typed : Int) (M_readRows : Int) (M_readColumns : Int) (M_top : Int) (M_bottom : Int) (M_left : Int) (M_right : Int) (M_panes : Int) (M_now : Int → Int) (M_marks : Int → Int) (Res : Int × (Int → Int) × (Int → Int)) (hret : XRZ p l e rm_mo_isHole s m args below meth c cX8_isHole D A H0 Q Res.1 [((a 0), oM a M_edits M_typed M_readRows M_readColumns M_top M_bottom M_left M_right M_panes), ((a 1), aI cI 151 M_now), ((a 5), aI cI 49 Res.2.1), ((a 9), aI cZ 49 Res.2.2), (xm, aI cI 49 M_marks)]) (N : Nat) (l2 : Int) (l4 : Int) (l6 : Int) (l7 : Int) (l8 : Int) (k23 : Int → Int → Int → (Int → Int) → (Int → Int) → Option (Int × (Int → Int) × (Int → Int))) (hk23 : ∀ (l4' : Int) (l5' : Int) (l6' : Int) (M_queue' : Int → Int) (M_seen' : Int → Int) (ls : Array Slot) (H : Heap) (locs : List Loc), lv_has ls 11 [(0, .ref (a 0)), (1, .ref xm), (2, iv l2), (4, iv l4'), (5, iv l5'), (6, iv l6')] → XH D A H0 [((a 0), oM a M_edits M_typed M_readRows M_readColumns M_top M_bottom M_left M_right M_panes), ((a 1), aI cI 151 M_now), ((a 5), aI cI 49 M_queue'), ((a 9), aI cZ 49 M_seen'), (xm, aI cI 49 M_marks)] H locs → k23 l4' l5' l6' M_queue' M_seen' = some Res → W p l e rm_mo_isHole s m args below meth c H locs 0 0 Q (F0 m 23 ls [])) : ∀ (n : Nat) (l5 : Int) (l9 : Int) (M_queue : Int → Int) (M_seen : Int → Int) (ls : Array Slot) (H : Heap) (locs : List Loc), lv_has ls 11 [(0, .ref (a 0)), (1, .ref xm), (2, iv l2), (4, iv l4), (5, iv l5), (6, iv l6), (7, iv l7), (8, iv l8), (9, iv l9)] → XH D A H0 [((a 0), oM a M_edits M_typed M_readRows M_readColumns M_top M_bottom M_left M_right M_panes), ((a 1), aI cI 151 M_now), ((a 5), aI cI 49 M_queue), ((a 9), aI cZ 49 M_seen), (xm, aI cI 49 M_marks)] H locs → f_mo_isHole_83 N l2 l4 l6 l7 l8 M_now M_marks k23 n l5 l9 M_queue M_seen = some Res → W p l e rm_mo_isHole s m args below meth c H locs 0 0 Q (F0 m 83 ls []) := by
  have hx := C.1.1
  have hb := C.1.2.1
  intro n
  induction n with
  | zero => intro l5 l9 M_queue M_seen ls H locs hl h hf; cases hf
  | succ n ih =>
    intro l5 l9 M_queue M_seen ls H locs hl h hf
    rw [f_mo_isHole_83.eq_2] at hf
    refine lv_iload hx hb (pc := 83) dX8_isHole_83 (lv_at hl 8 rfl) ?_
    refine x_bipush C (pc := 85) dX8_isHole_85 (by decide) ?_
    obtain ⟨g_15, hf⟩ := og_some hf
    refine x_icmpge C (pc := 87) (tgt := 183) g_15 ⟨by decide, by decide⟩ dX8_isHole_87 rfl (fun hc => ?_) (fun hc => ?_)
    · have hf := oi_t hf hc
      obtain ⟨l6_16, el6_16, hf⟩ := ol_some hf
      refine x_iinc C (pc := 183) (k := 5) (lw' := [(6, iv l6_16), (0, .ref (a 0)), (1, .ref xm), (2, iv l2), (4, iv l4), (5, iv l5), (7, iv l7), (8, iv l8), (9, iv l9)]) dX8_isHole_183 hl rfl el6_16 (Nat.le_of_ble_eq_true rfl) rfl (fun ls hl => ?_)
      refine lv_goto hx hb (pc := 186) (tgt := 23) dX8_isHole_186 rfl ?_
      exact hk23 l4 l5 l6_16 M_queue M_seen _ _ _ (lv_sub hl [1, 2, 3, 4, 5, 0] rfl) h hf
    · have hf := oi_f hf hc
      refine x_bipush C (pc := 90) dX8_isHole_90 (by decide) ?_
      refine lv_iload hx hb (pc := 92) dX8_isHole_92 (lv_at hl 6 rfl) ?_
      refine lv_iload hx hb (pc := 94) dX8_isHole_94 (lv_at hl 8 rfl) ?_
      refine x_iconst C (pc := 96) dX8_isHole_96 ?_
      obtain ⟨g_17, hf⟩ := og_some hf
      refine x_idiv C (pc := 97) g_17 ⟨by decide, by decide⟩ dX8_isHole_97 ?_
      refine x_iadd C (pc := 98) dX8_isHole_98 ?_
      refine x_iconst C (pc := 99) dX8_isHole_99 ?_
      refine x_isub C (pc := 100) dX8_isHole_100 ?_
      refine x_imul C (pc := 101) dX8_isHole_101 ?_
      refine lv_iload hx hb (pc := 102) dX8_isHole_102 (lv_at hl 7 rfl) ?_
      refine x_iadd C (pc := 104) dX8_isHole_104 ?_
      refine lv_iload hx hb (pc := 105) dX8_isHole_105 (lv_at hl 8 rfl) ?_
      refine x_iconst C (pc := 107) dX8_isHole_107 ?_
      refine x_irem C (pc := 108) g_17 ⟨by decide, by decide⟩ dX8_isHole_108 ?_
      refine x_iadd C (pc := 109) dX8_isHole_109 ?_
      refine x_iconst C (pc := 110) dX8_isHole_110 ?_
      refine x_isub C (pc := 111) dX8_isHole_111 ?_
      obtain ⟨l10_18, el10_18, hf⟩ := ol_some hf
      refine x_topi el10_18 ?_
      refine lv_istore hx hb (pc := 112) (lv' := [(10, iv l10_18), (0, .ref (a 0)), (1, .ref xm), (2, iv l2), (4, iv l4), (5, iv l5), (6, iv l6), (7, iv l7), (8, iv l8), (9, iv l9)]) dX8_isHole_112 hl (Nat.le_of_ble_eq_true rfl) rfl (fun ls hl => ?_)
      refine lv_aload_n hx hb (pc := 114) dX8_isHole_114 rfl (lv_at hl 1 rfl) ?_
      refine lv_iload hx hb (pc := 115) dX8_isHole_115 (lv_at hl 7 rfl) ?_
      refine lv_iload hx hb (pc := 117) dX8_isHole_117 (lv_at hl 9 rfl) ?_
      refine x_iconst C (pc := 119) dX8_isHole_119 ?_
      refine x_idiv C (pc := 120) g_17 ⟨by decide, by decide⟩ dX8_isHole_120 ?_
      refine x_iadd C (pc := 121) dX8_isHole_121 ?_
      refine x_iconst C (pc := 122) dX8_isHole_122 ?_
      refine x_isub C (pc := 123) dX8_isHole_123 ?_
      refine lv_iload hx hb (pc := 124) dX8_isHole_124 (lv_at hl 8 rfl) ?_
      refine lv_iload hx hb (pc := 126) dX8_isHole_126 (lv_at hl 9 rfl) ?_
      refine x_iconst C (pc := 128) dX8_isHole_128 ?_
      refine x_irem C (pc := 129) g_17 ⟨by decide, by decide⟩ dX8_isHole_129 ?_
      refine x_iadd C (pc := 130) dX8_isHole_130 ?_
      refine x_iconst C (pc := 131) dX8_isHole_131 ?_
      refine x_isub C (pc := 132) dX8_isHole_132 ?_
      obtain ⟨q_19, hq_19, hf⟩ := ob_some hf
      refine x_callVi C h (pc := 133) hl (c_mo_isCell l D cI cJ cZ cO a M_edits M_typed M_readRows M_readColumns M_top M_bottom M_left M_right M_panes M_now ((l7 + (l9 / 3)) - 1) ((l8 + (l9 % 3)) - 1) N q_19 hq_19) xv_X8_isCell lk_X8_95 ⟨(Nat.le_of_ble_eq_true rfl), (Nat.le_of_ble_eq_true rfl)⟩ rfl [0, 1] [2, 3, 4] (nw := 5) (wr := [((a 5), aI cI 49 M_queue), ((a 9), aI cZ 49 M_seen), (xm, aI cI 49 M_marks)]) (as := [(a 0), (a 1), (a 5), (a 9), xm]) (ws' := [((a 0), oM a M_edits M_typed M_readRows M_readColumns M_top M_bottom M_left M_right M_panes), ((a 1), aI cI 151 M_now), ((a 5), aI cI 49 M_queue), ((a 9), aI cZ 49 M_seen), (xm, aI cI 49 M_marks)]) rfl rfl rfl rfl rfl rfl rfl rfl rfl 0 rfl rfl rfl rfl (Nat.le_of_ble_eq_true rfl) dX8_isHole_133 (fun H locs h => ?_)
      obtain ⟨g_20, hf⟩ := og_some hf
      obtain ⟨r_33, hrr_33, hf⟩ := ob_some hf
      have Jr_33 : ∀ (ls : Array Slot) (H : Heap) (locs : List Loc), lv_has ls 11 [(0, .ref (a 0)), (1, .ref xm), (2, iv l2), (4, iv l4), (5, iv r_33.1), (6, iv l6), (7, iv l7), (8, iv l8), (9, iv r_33.2.1)] → XH D A H0 [((a 0), oM a M_edits M_typed M_readRows M_readColumns M_top M_bottom M_left M_right M_panes), ((a 1), aI cI 151 M_now), ((a 5), aI cI 49 r_33.2.2.1), ((a 9), aI cZ 49 r_33.2.2.2), (xm, aI cI 49 M_marks)] H locs → W p l e rm_mo_isHole s m args below meth c H locs 0 0 Q (F0 m 83 ls []) := by
        intro ls H locs hl h
        exact ih r_33.1 r_33.2.1 r_33.2.2.1 r_33.2.2.2 _ _ _ (lv_sub hl [0, 1, 2, 3, 4, 5, 6, 7, 8] rfl) h hf
      clear hf
      have hf := hrr_33
      refine x_ifeq C (pc := 136) (tgt := 177) g_20 dX8_isHole_136 rfl (fun hc => ?_) (fun hc => ?_)
      · have hf := oi_t hf hc
        obtain ⟨l9_21, el9_21, hf⟩ := ol_some hf
        refine x_iinc C (pc := 177) (k := 9) (lw' := [(9, iv l9_21), (10, iv l10_18), (0, .ref (a 0)), (1, .ref xm), (2, iv l2), (4, iv l4), (5, iv l5), (6, iv l6), (7, iv l7), (8, iv l8)]) dX8_isHole_177 hl rfl el9_21 (Nat.le_of_ble_eq_true rfl) rfl (fun ls hl => ?_)
        refine lv_goto hx hb (pc := 180) (tgt := 83) dX8_isHole_180 rfl ?_
        have e9 := Option.some.inj hf
        subst e9
        exact Jr_33 _ _ _ (lv_sub hl [2, 3, 4, 5, 6, 7, 8, 9, 0] rfl) h
      · have hf := oi_f hf hc
        refine lv_aload_n hx hb (pc := 139) dX8_isHole_139 rfl (lv_at hl 2 rfl) ?_
        refine lv_iload hx hb (pc := 140) dX8_isHole_140 (lv_at hl 0 rfl) ?_
        obtain ⟨g_22, hf⟩ := og_some hf
        refine x_iald C h (pc := 142) 4 0 rfl rfl (Nat.le_of_ble_eq_true rfl) g_22 dX8_isHole_142 ?_
        refine lv_iload_n hx hb (pc := 143) dX8_isHole_143 rfl (lv_at hl 3 rfl) ?_
        obtain ⟨g_23, hf⟩ := og_some hf
        obtain ⟨g_24, hf⟩ := og_some hf
        refine x_icmpeq C (pc := 144) (tgt := 177) g_23 g_24 dX8_isHole_144 rfl (fun hc => ?_) (fun hc => ?_)
        · have hf := oi_t hf hc
          obtain ⟨l9_25, el9_25, hf⟩ := ol_some hf
          refine x_iinc C (pc := 177) (k := 9) (lw' := [(9, iv l9_25), (10, iv l10_18), (0, .ref (a 0)), (1, .ref xm), (2, iv l2), (4, iv l4), (5, iv l5), (6, iv l6), (7, iv l7), (8, iv l8)]) dX8_isHole_177 hl rfl el9_25 (Nat.le_of_ble_eq_true rfl) rfl (fun ls hl => ?_)
          refine lv_goto hx hb (pc := 180) (tgt := 83) dX8_isHole_180 rfl ?_
          have e9 := Option.some.inj hf
          subst e9
          exact Jr_33 _ _ _ (lv_sub hl [2, 3, 4, 5, 6, 7, 8, 9, 0] rfl) h
        · have hf := oi_f hf hc
          refine lv_aload_n hx hb (pc := 147) dX8_isHole_147 rfl (lv_at hl 1 rfl) ?_
          refine x_get C h (pc := 148) xf_X8_34 0 rfl (v := .ref (a 9)) rfl dX8_isHole_148 ?_
          refine lv_iload hx hb (pc := 151) dX8_isHole_151 (lv_at hl 0 rfl) ?_
          refine x_zald C h (pc := 153) 3 2 rfl rfl (Nat.le_of_ble_eq_true rfl) g_22 dX8_isHole_153 ?_
          obtain ⟨g_26, hf⟩ := og_some hf
          refine x_ifne C (pc := 154) (tgt := 177) g_26 dX8_isHole_154 rfl (fun hc => ?_) (fun hc => ?_)
          · have hf := oi_f hf hc
            obtain ⟨l9_27, el9_27, hf⟩ := ol_some hf
            refine x_iinc C (pc := 177) (k := 9) (lw' := [(9, iv l9_27), (10, iv l10_18), (0, .ref (a 0)), (1, .ref xm), (2, iv l2), (4, iv l4), (5, iv l5), (6, iv l6), (7, iv l7), (8, iv l8)]) dX8_isHole_177 hl rfl el9_27 (Nat.le_of_ble_eq_true rfl) rfl (fun ls hl => ?_)
            refine lv_goto hx hb (pc := 180) (tgt := 83) dX8_isHole_180 rfl ?_
            have e9 := Option.some.inj hf
            subst e9
            exact Jr_33 _ _ _ (lv_sub hl [2, 3, 4, 5, 6, 7, 8, 9, 0] rfl) h
          · have hf := oi_t hf hc
            refine lv_aload_n hx hb (pc := 157) dX8_isHole_157 rfl (lv_at hl 1 rfl) ?_
            refine x_get C h (pc := 158) xf_X8_34 0 rfl (v := .ref (a 9)) rfl dX8_isHole_158 ?_
            refine lv_iload hx hb (pc := 161) dX8_isHole_161 (lv_at hl 0 rfl) ?_
            refine x_iconst C (pc := 163) dX8_isHole_163 ?_
            obtain ⟨M_seen_28, eM_seen_28, hf⟩ := ol_some hf
            refine x_zast C h (pc := 164) (ws' := [((a 0), oM a M_edits M_typed M_readRows M_readColumns M_top M_bottom M_left M_right M_panes), ((a 1), aI cI 151 M_now), ((a 5), aI cI 49 M_queue), ((a 9), aI cZ 49 M_seen_28), (xm, aI cI 49 M_marks)]) 3 2 rfl rfl (Nat.le_of_ble_eq_true rfl) g_22 (Or.inr rfl) eM_seen_28 rfl dX8_isHole_164 (fun H locs h => ?_)
            refine lv_aload_n hx hb (pc := 165) dX8_isHole_165 rfl (lv_at hl 1 rfl) ?_
            refine x_get C h (pc := 166) xf_X8_22 0 rfl (v := .ref (a 5)) rfl dX8_isHole_166 ?_
            refine lv_iload hx hb (pc := 169) dX8_isHole_169 (lv_at hl 5 rfl) ?_
            refine lv_iload hx hb (pc := 171) dX8_isHole_171 (lv_at hl 0 rfl) ?_
            obtain ⟨g_29, hf⟩ := og_some hf
            obtain ⟨M_queue_30, eM_queue_30, hf⟩ := ol_some hf
            refine x_iast C h (pc := 173) (ws' := [((a 0), oM a M_edits M_typed M_readRows M_readColumns M_top M_bottom M_left M_right M_panes), ((a 1), aI cI 151 M_now), ((a 5), aI cI 49 M_queue_30), ((a 9), aI cZ 49 M_seen_28), (xm, aI cI 49 M_marks)]) 2 0 rfl rfl (Nat.le_of_ble_eq_true rfl) g_29 eM_queue_30 rfl dX8_isHole_173 (fun H locs h => ?_)
            obtain ⟨l5_31, el5_31, hf⟩ := ol_some hf
            refine x_iinc C (pc := 174) (k := 5) (lw' := [(5, iv l5_31), (10, iv l10_18), (0, .ref (a 0)), (1, .ref xm), (2, iv l2), (4, iv l4), (6, iv l6), (7, iv l7), (8, iv l8), (9, iv l9)]) dX8_isHole_174 hl rfl el5_31 (Nat.le_of_ble_eq_true rfl) rfl (fun ls hl => ?_)
            obtain ⟨l9_32, el9_32, hf⟩ := ol_some hf
            refine x_iinc C (pc := 177) (k := 9) (lw' := [(9, iv l9_32), (5, iv l5_31), (10, iv l10_18), (0, .ref (a 0)), (1, .ref xm), (2, iv l2), (4, iv l4), (6, iv l6), (7, iv l7), (8, iv l8)]) dX8_isHole_177 hl rfl el9_32 (Nat.le_of_ble_eq_true rfl) rfl (fun ls hl => ?_)
            refine lv_goto hx hb (pc := 180) (tgt := 83) dX8_isHole_180 rfl ?_
            have e9 := Option.some.inj hf
            subst e9
            exact Jr_33 _ _ _ (lv_sub hl [3, 4, 5, 6, 1, 7, 8, 9, 0] rfl) h
set_option maxHeartbeats 4000000 in
set_option maxRecDepth 100000 in
theorem w_mo_isHole_23 {p : Program} {l : Launch} {e : Env} {s : State} {m : MethodId} {args : Array Value} {below : List Frame} {meth : Method} {c : Code} {Q : State → Prop} {D : va_G} {cI cJ cZ cO : ClassId} {A : Nat → Prop} {H0 : Heap} {w0 : Cond} (C : XC p s m args c cX8_isHole 11 RX8 w0 D (xT cI cJ cZ cO)) (a : Nat → Nat) (xm : Nat) (M_edits : Int) (M_typed : Int) (M_readRows : Int) (M_readColumns : Int) (M_top : Int) (M_bottom : Int) (M_left : Int) (M_right : Int) (M_panes : Int) (M_now : Int → Int) (M_marks : Int → Int) (Res : Int × (Int → Int) × (Int → Int)) (hret : XRZ p l e rm_mo_isHole s m args below meth c cX8_isHole D A H0 Q Res.1 [((a 0), oM a M_edits M_typed M_readRows M_readColumns M_top M_bottom M_left M_right M_panes), ((a 1), aI cI 151 M_now), ((a 5), aI cI 49 Res.2.1), ((a 9), aI cZ 49 Res.2.2), (xm, aI cI 49 M_marks)]) (N : Nat) (l2 : Int) : ∀ (n : Nat) (l4 : Int) (l5 : Int) (l6 : Int) (M_queue : Int → Int) (M_seen : Int → Int) (ls : Array Slot) (H : Heap) (locs : List Loc), lv_has ls 11 [(0, .ref (a 0)), (1, .ref xm), (2, iv l2), (4, iv l4), (5, iv l5), (6, iv l6)] → XH D A H0 [((a 0), oM a M_edits M_typed M_readRows M_readColumns M_top M_bottom M_left M_right M_panes), ((a 1), aI cI 151 M_now), ((a 5), aI cI 49 M_queue), ((a 9), aI cZ 49 M_seen), (xm, aI cI 49 M_marks)] H locs → f_mo_isHole_23 N l2 M_now M_marks n l4 l5 l6 M_queue M_seen = some Res → W p l e rm_mo_isHole s m args below meth c H locs 0 0 Q (F0 m 23 ls []) := by
  have hx := C.1.1
  have hb := C.1.2.1
  intro n
  induction n with
  | zero => intro l4 l5 l6 M_queue M_seen ls H locs hl h hf; cases hf
  | succ n ih =>
    intro l4 l5 l6 M_queue M_seen ls H locs hl h hf
    rw [f_mo_isHole_23.eq_2] at hf
    refine lv_iload hx hb (pc := 23) dX8_isHole_23 (lv_at hl 5 rfl) ?_
    refine lv_iload hx hb (pc := 25) dX8_isHole_25 (lv_at hl 4 rfl) ?_
    obtain ⟨g_4, hf⟩ := og_some hf
    obtain ⟨g_5, hf⟩ := og_some hf
    refine x_icmpge C (pc := 27) (tgt := 189) g_4 g_5 dX8_isHole_27 rfl (fun hc => ?_) (fun hc => ?_)
    · have hf := oi_t hf hc
      refine lv_iload hx hb (pc := 189) dX8_isHole_189 (lv_at hl 3 rfl) ?_
      obtain ⟨g_6, hf⟩ := og_some hf
      have e9 := Option.some.inj hf
      subst e9
      exact hret _ _ _ _ g_6 dX8_isHole_191 h
    · have hf := oi_f hf hc
      refine lv_aload_n hx hb (pc := 30) dX8_isHole_30 rfl (lv_at hl 0 rfl) ?_
      refine x_get C h (pc := 31) xf_X8_22 0 rfl (v := .ref (a 5)) rfl dX8_isHole_31 ?_
      refine lv_iload hx hb (pc := 34) dX8_isHole_34 (lv_at hl 5 rfl) ?_
      obtain ⟨g_7, hf⟩ := og_some hf
      refine x_iald C h (pc := 36) 2 0 rfl rfl (Nat.le_of_ble_eq_true rfl) g_7 dX8_isHole_36 ?_
      refine x_bipush C (pc := 37) dX8_isHole_37 (by decide) ?_
      obtain ⟨g_8, hf⟩ := og_some hf
      refine x_idiv C (pc := 39) g_8 ⟨by decide, by decide⟩ dX8_isHole_39 ?_
      obtain ⟨l7_9, el7_9, hf⟩ := ol_some hf
      refine x_topi el7_9 ?_
      refine lv_istore hx hb (pc := 40) (lv' := [(7, iv l7_9), (0, .ref (a 0)), (1, .ref xm), (2, iv l2), (4, iv l4), (5, iv l5), (6, iv l6)]) dX8_isHole_40 hl (Nat.le_of_ble_eq_true rfl) rfl (fun ls hl => ?_)
      refine lv_aload_n hx hb (pc := 42) dX8_isHole_42 rfl (lv_at hl 1 rfl) ?_
      refine x_get C h (pc := 43) xf_X8_22 0 rfl (v := .ref (a 5)) rfl dX8_isHole_43 ?_
      refine lv_iload hx hb (pc := 46) dX8_isHole_46 (lv_at hl 6 rfl) ?_
      refine x_iald C h (pc := 48) 2 0 rfl rfl (Nat.le_of_ble_eq_true rfl) g_7 dX8_isHole_48 ?_
      refine x_bipush C (pc := 49) dX8_isHole_49 (by decide) ?_
      refine x_irem C (pc := 51) g_8 ⟨by decide, by decide⟩ dX8_isHole_51 ?_
      obtain ⟨l8_10, el8_10, hf⟩ := ol_some hf
      refine x_topi el8_10 ?_
      refine lv_istore hx hb (pc := 52) (lv' := [(8, iv l8_10), (7, iv l7_9), (0, .ref (a 0)), (1, .ref xm), (2, iv l2), (4, iv l4), (5, iv l5), (6, iv l6)]) dX8_isHole_52 hl (Nat.le_of_ble_eq_true rfl) rfl (fun ls hl => ?_)
      refine lv_iload hx hb (pc := 54) dX8_isHole_54 (lv_at hl 5 rfl) ?_
      obtain ⟨g_11, hf⟩ := og_some hf
      obtain ⟨r_14, hrr_14, hf⟩ := ob_some hf
      have Jr_14 : ∀ (ls : Array Slot) (H : Heap) (locs : List Loc), lv_has ls 11 [(0, .ref (a 0)), (1, .ref xm), (2, iv l2), (4, iv r_14), (5, iv l5), (6, iv l6), (7, iv l7_9), (8, iv l8_10), (9, iv 0)] → XH D A H0 [((a 0), oM a M_edits M_typed M_readRows M_readColumns M_top M_bottom M_left M_right M_panes), ((a 1), aI cI 151 M_now), ((a 5), aI cI 49 M_queue), ((a 9), aI cZ 49 M_seen), (xm, aI cI 49 M_marks)] H locs → W p l e rm_mo_isHole s m args below meth c H locs 0 0 Q (F0 m 83 ls []) := by
        intro ls H locs hl h
        exact w_mo_isHole_83 C a xm M_edits M_typed M_readRows M_readColumns M_top M_bottom M_left M_right M_panes M_now M_marks Res hret N l2 r_14 l6 l7_9 l8_10 (f_mo_isHole_23 N l2 M_now M_marks n) ih N l5 0 M_queue M_seen _ _ _ (lv_sub hl [0, 1, 2, 3, 4, 5, 6, 7, 8] rfl) h hf
      clear hf
      have hf := hrr_14
      refine x_ifeq C (pc := 56) (tgt := 77) g_11 dX8_isHole_56 rfl (fun hc => ?_) (fun hc => ?_)
      · have hf := oi_t hf hc
        refine x_iconst C (pc := 77) dX8_isHole_77 ?_
        refine lv_istore hx hb (pc := 78) (lv' := [(4, iv 0), (8, iv l8_10), (7, iv l7_9), (0, .ref (a 0)), (1, .ref xm), (2, iv l2), (5, iv l5), (6, iv l6)]) dX8_isHole_78 hl (Nat.le_of_ble_eq_true rfl) rfl (fun ls hl => ?_)
        refine x_iconst C (pc := 80) dX8_isHole_80 ?_
        refine lv_istore hx hb (pc := 81) (lv' := [(9, iv 0), (4, iv 0), (8, iv l8_10), (7, iv l7_9), (0, .ref (a 0)), (1, .ref xm), (2, iv l2), (5, iv l5), (6, iv l6)]) dX8_isHole_81 hl (Nat.le_of_ble_eq_true rfl) rfl (fun ls hl => ?_)
        have e9 := Option.some.inj hf
        subst e9
        exact Jr_14 _ _ _ (lv_sub hl [4, 5, 6, 1, 7, 8, 3, 2, 0] rfl) h
      · have hf := oi_f hf hc
        refine lv_aload_n hx hb (pc := 59) dX8_isHole_59 rfl (lv_at hl 2 rfl) ?_
        refine lv_aload_n hx hb (pc := 60) dX8_isHole_60 rfl (lv_at hl 2 rfl) ?_
        refine x_get C h (pc := 61) xf_X8_22 0 rfl (v := .ref (a 5)) rfl dX8_isHole_61 ?_
        refine lv_iload hx hb (pc := 64) dX8_isHole_64 (lv_at hl 7 rfl) ?_
        refine x_iald C h (pc := 66) 2 0 rfl rfl (Nat.le_of_ble_eq_true rfl) g_7 dX8_isHole_66 ?_
        obtain ⟨q_12, hq_12, hf⟩ := ob_some hf
        refine x_callVi C h (pc := 67) hl (c_mo_isEdge l D cI cJ cZ cO a M_edits M_typed M_readRows M_readColumns M_top M_bottom M_left M_right M_panes M_now (M_queue l6) N q_12 hq_12) xv_X8_isEdge lk_X8_138 ⟨(Nat.le_of_ble_eq_true rfl), (Nat.le_of_ble_eq_true rfl)⟩ rfl [0, 1] [2, 3, 4] (nw := 5) (wr := [((a 5), aI cI 49 M_queue), ((a 9), aI cZ 49 M_seen), (xm, aI cI 49 M_marks)]) (as := [(a 0), (a 1), (a 5), (a 9), xm]) (ws' := [((a 0), oM a M_edits M_typed M_readRows M_readColumns M_top M_bottom M_left M_right M_panes), ((a 1), aI cI 151 M_now), ((a 5), aI cI 49 M_queue), ((a 9), aI cZ 49 M_seen), (xm, aI cI 49 M_marks)]) rfl rfl rfl rfl rfl rfl rfl rfl rfl 0 rfl rfl rfl rfl (Nat.le_of_ble_eq_true rfl) dX8_isHole_67 (fun H locs h => ?_)
        obtain ⟨g_13, hf⟩ := og_some hf
        refine x_ifne C (pc := 70) (tgt := 77) g_13 dX8_isHole_70 rfl (fun hc => ?_) (fun hc => ?_)
        · have hf := oi_f hf hc
          refine x_iconst C (pc := 77) dX8_isHole_77 ?_
          refine lv_istore hx hb (pc := 78) (lv' := [(4, iv 0), (8, iv l8_10), (7, iv l7_9), (0, .ref (a 0)), (1, .ref xm), (2, iv l2), (5, iv l5), (6, iv l6)]) dX8_isHole_78 hl (Nat.le_of_ble_eq_true rfl) rfl (fun ls hl => ?_)
          refine x_iconst C (pc := 80) dX8_isHole_80 ?_
          refine lv_istore hx hb (pc := 81) (lv' := [(9, iv 0), (4, iv 0), (8, iv l8_10), (7, iv l7_9), (0, .ref (a 0)), (1, .ref xm), (2, iv l2), (5, iv l5), (6, iv l6)]) dX8_isHole_81 hl (Nat.le_of_ble_eq_true rfl) rfl (fun ls hl => ?_)
          have e9 := Option.some.inj hf
          subst e9
          exact Jr_14 _ _ _ (lv_sub hl [4, 5, 6, 1, 7, 8, 3, 2, 0] rfl) h
        · have hf := oi_t hf hc
          refine x_iconst C (pc := 73) dX8_isHole_73 ?_
          refine lv_goto hx hb (pc := 74) (tgt := 78) dX8_isHole_74 rfl ?_
          refine lv_istore hx hb (pc := 78) (lv' := [(4, iv 1), (8, iv l8_10), (7, iv l7_9), (0, .ref (a 0)), (1, .ref xm), (2, iv l2), (5, iv l5), (6, iv l6)]) dX8_isHole_78 hl (Nat.le_of_ble_eq_true rfl) rfl (fun ls hl => ?_)
          refine x_iconst C (pc := 80) dX8_isHole_80 ?_
          refine lv_istore hx hb (pc := 81) (lv' := [(9, iv 0), (4, iv 1), (8, iv l8_10), (7, iv l7_9), (0, .ref (a 0)), (1, .ref xm), (2, iv l2), (5, iv l5), (6, iv l6)]) dX8_isHole_81 hl (Nat.le_of_ble_eq_true rfl) rfl (fun ls hl => ?_)
          have e9 := Option.some.inj hf
          subst e9
          exact Jr_14 _ _ _ (lv_sub hl [4, 5, 6, 1, 7, 8, 3, 2, 0] rfl) h
set_option maxHeartbeats 4000000 in
set_option maxRecDepth 100000 in
theorem c_mo_isHole (l : Launch) (D : va_G) (cI cJ cZ cO : ClassId) (a : Nat → Nat) (xm : Nat) (M_edits : Int) (M_typed : Int) (M_readRows : Int) (M_readColumns : Int) (M_top : Int) (M_bottom : Int) (M_left : Int) (M_right : Int) (M_panes : Int) (M_now : Int → Int) (M_queue : Int → Int) (M_seen : Int → Int) (M_marks : Int → Int) (l2 : Int) (l3 : Int) (N : Nat) (Res : Int × (Int → Int) × (Int → Int)) (hf : f_mo_isHole N l2 l3 M_now M_queue M_seen M_marks = some Res) : CoI l D (xT cI cJ cZ cO) yX8_isHole cX8_isHole 11 (some .boolean) rm_mo_isHole [.ref (a 0), .ref xm, iv l2, iv l3] [((a 0), oM a M_edits M_typed M_readRows M_readColumns M_top M_bottom M_left M_right M_panes), ((a 1), aI cI 151 M_now), ((a 5), aI cI 49 M_queue), ((a 9), aI cZ 49 M_seen), (xm, aI cI 49 M_marks)] Res.1 [((a 0), oM a M_edits M_typed M_readRows M_readColumns M_top M_bottom M_left M_right M_panes), ((a 1), aI cI 151 M_now), ((a 5), aI cI 49 Res.2.1), ((a 9), aI cZ 49 Res.2.2), (xm, aI cI 49 M_marks)] := by
  refine co_z (by decide) ⟨rfl, rfl⟩ (Nat.le_of_ble_eq_true rfl) ?_
  intro p e s m args below meth c A Q ls C hret hl h
  have hx := C.1.1
  have hb := C.1.2.1
  have hl : lv_has ls 11 [(0, .ref (a 0)), (1, .ref xm), (2, iv l2), (3, iv l3)] := hl
  unfold f_mo_isHole at hf
  refine x_iconst C (pc := 0) dX8_isHole_0 ?_
  refine lv_istore hx hb (pc := 1) (lv' := [(4, iv 1), (0, .ref (a 0)), (1, .ref xm), (2, iv l2), (3, iv l3)]) dX8_isHole_1 hl (Nat.le_of_ble_eq_true rfl) rfl (fun ls hl => ?_)
  refine lv_aload_n hx hb (pc := 3) dX8_isHole_3 rfl (lv_at hl 1 rfl) ?_
  refine x_get C h (pc := 4) xf_X8_34 0 rfl (v := .ref (a 9)) rfl dX8_isHole_4 ?_
  refine lv_iload_n hx hb (pc := 7) dX8_isHole_7 rfl (lv_at hl 4 rfl) ?_
  refine x_iconst C (pc := 8) dX8_isHole_8 ?_
  obtain ⟨g_1, hf⟩ := og_some hf
  obtain ⟨M_seen_2, eM_seen_2, hf⟩ := ol_some hf
  refine x_zast C h (pc := 9) (ws' := [((a 0), oM a M_edits M_typed M_readRows M_readColumns M_top M_bottom M_left M_right M_panes), ((a 1), aI cI 151 M_now), ((a 5), aI cI 49 M_queue), ((a 9), aI cZ 49 M_seen_2), (xm, aI cI 49 M_marks)]) 3 2 rfl rfl (Nat.le_of_ble_eq_true rfl) g_1 (Or.inr rfl) eM_seen_2 rfl dX8_isHole_9 (fun H locs h => ?_)
  refine lv_aload_n hx hb (pc := 10) dX8_isHole_10 rfl (lv_at hl 1 rfl) ?_
  refine x_get C h (pc := 11) xf_X8_22 0 rfl (v := .ref (a 5)) rfl dX8_isHole_11 ?_
  refine x_iconst C (pc := 14) dX8_isHole_14 ?_
  refine lv_iload_n hx hb (pc := 15) dX8_isHole_15 rfl (lv_at hl 4 rfl) ?_
  obtain ⟨M_queue_3, eM_queue_3, hf⟩ := ol_some hf
  refine x_iast C h (pc := 16) (ws' := [((a 0), oM a M_edits M_typed M_readRows M_readColumns M_top M_bottom M_left M_right M_panes), ((a 1), aI cI 151 M_now), ((a 5), aI cI 49 M_queue_3), ((a 9), aI cZ 49 M_seen_2), (xm, aI cI 49 M_marks)]) 2 0 rfl rfl (Nat.le_of_ble_eq_true rfl) ⟨by decide, by decide⟩ eM_queue_3 rfl dX8_isHole_16 (fun H locs h => ?_)
  refine x_iconst C (pc := 17) dX8_isHole_17 ?_
  refine lv_istore hx hb (pc := 18) (lv' := [(5, iv 1), (4, iv 1), (0, .ref (a 0)), (1, .ref xm), (2, iv l2), (3, iv l3)]) dX8_isHole_18 hl (Nat.le_of_ble_eq_true rfl) rfl (fun ls hl => ?_)
  refine x_iconst C (pc := 20) dX8_isHole_20 ?_
  refine lv_istore hx hb (pc := 21) (lv' := [(6, iv 0), (5, iv 1), (4, iv 1), (0, .ref (a 0)), (1, .ref xm), (2, iv l2), (3, iv l3)]) dX8_isHole_21 hl (Nat.le_of_ble_eq_true rfl) rfl (fun ls hl => ?_)
  exact w_mo_isHole_23 C a xm M_edits M_typed M_readRows M_readColumns M_top M_bottom M_left M_right M_panes M_now M_marks Res hret N l2 N 1 1 0 M_queue_3 M_seen_2 _ _ _ (lv_sub hl [3, 4, 5, 2, 1, 0] rfl) h hf
abbrev rm_mo_holesOf : Room := { frames := 3, cells := 0, slots := 0, locals := 74 }
set_option maxHeartbeats 4000000 in
set_option maxRecDepth 100000 in
theorem w_mo_holesOf_26 {p : Program} {l : Launch} {e : Env} {s : State} {m : MethodId} {args : Array Value} {below : List Frame} {meth : Method} {c : Code} {Q : State → Prop} {D : va_G} {cI cJ cZ cO : ClassId} {A : Nat → Prop} {H0 : Heap} {w0 : Cond} (C : XC p s m args c cX8_holesOf 5 RX8 w0 D (xT cI cJ cZ cO)) (a : Nat → Nat) (xm : Nat) (M_edits : Int) (M_typed : Int) (M_readRows : Int) (M_readColumns : Int) (M_top : Int) (M_bottom : Int) (M_left : Int) (M_right : Int) (M_panes : Int) (M_now : Int → Int) (M_marks : Int → Int) (Res : Int × (Int → Int) × (Int → Int)) (hret : XRI p l e rm_mo_holesOf s m args below meth c cX8_holesOf D A H0 Q Res.1 [((a 0), oM a M_edits M_typed M_readRows M_readColumns M_top M_bottom M_left M_right M_panes), ((a 1), aI cI 151 M_now), ((a 5), aI cI 49 Res.2.1), ((a 9), aI cZ 49 Res.2.2), (xm, aI cI 49 M_marks)]) (N : Nat) (l2 : Int) : ∀ (n : Nat) (l3 : Int) (l4 : Int) (M_queue : Int → Int) (M_seen : Int → Int) (ls : Array Slot) (H : Heap) (locs : List Loc), lv_has ls 5 [(0, .ref (a 0)), (1, .ref xm), (2, iv l2), (3, iv l3), (4, iv l4)] → XH D A H0 [((a 0), oM a M_edits M_typed M_readRows M_readColumns M_top M_bottom M_left M_right M_panes), ((a 1), aI cI 151 M_now), ((a 5), aI cI 49 M_queue), ((a 9), aI cZ 49 M_seen), (xm, aI cI 49 M_marks)] H locs → f_mo_holesOf_26 N l2 M_now M_marks n l3 l4 M_queue M_seen = some Res → W p l e rm_mo_holesOf s m args below meth c H locs 0 0 Q (F0 m 26 ls []) := by
  have hx := C.1.1
  have hb := C.1.2.1
  intro n
  induction n with
  | zero => intro l3 l4 M_queue M_seen ls H locs hl h hf; cases hf
  | succ n ih =>
    intro l3 l4 M_queue M_seen ls H locs hl h hf
    rw [f_mo_holesOf_26.eq_2] at hf
    refine lv_iload hx hb (pc := 26) dX8_holesOf_26 (lv_at hl 4 rfl) ?_
    refine x_bipush C (pc := 28) dX8_holesOf_28 (by decide) ?_
    obtain ⟨g_25, hf⟩ := og_some hf
    refine x_icmpge C (pc := 30) (tgt := 93) g_25 ⟨by decide, by decide⟩ dX8_holesOf_30 rfl (fun hc => ?_) (fun hc => ?_)
    · have hf := oi_t hf hc
      refine lv_iload_n hx hb (pc := 93) dX8_holesOf_93 rfl (lv_at hl 3 rfl) ?_
      have e9 := Option.some.inj hf
      subst e9
      exact hret _ _ _ _ dX8_holesOf_94 h
    · have hf := oi_f hf hc
      refine lv_aload_n hx hb (pc := 33) dX8_holesOf_33 rfl (lv_at hl 0 rfl) ?_
      refine lv_iload hx hb (pc := 34) dX8_holesOf_34 (lv_at hl 4 rfl) ?_
      refine x_bipush C (pc := 36) dX8_holesOf_36 (by decide) ?_
      obtain ⟨g_26, hf⟩ := og_some hf
      refine x_idiv C (pc := 38) g_26 ⟨by decide, by decide⟩ dX8_holesOf_38 ?_
      refine lv_iload hx hb (pc := 39) dX8_holesOf_39 (lv_at hl 4 rfl) ?_
      refine x_bipush C (pc := 41) dX8_holesOf_41 (by decide) ?_
      refine x_irem C (pc := 43) g_26 ⟨by decide, by decide⟩ dX8_holesOf_43 ?_
      obtain ⟨q_27, hq_27, hf⟩ := ob_some hf
      refine x_callVi C h (pc := 44) hl (c_mo_isCell l D cI cJ cZ cO a M_edits M_typed M_readRows M_readColumns M_top M_bottom M_left M_right M_panes M_now (l4 / 7) (l4 % 7) N q_27 hq_27) xv_X8_isCell lk_X8_95 ⟨(Nat.le_of_ble_eq_true rfl), (Nat.le_of_ble_eq_true rfl)⟩ rfl [0, 1] [2, 3, 4] (nw := 5) (wr := [((a 5), aI cI 49 M_queue), ((a 9), aI cZ 49 M_seen), (xm, aI cI 49 M_marks)]) (as := [(a 0), (a 1), (a 5), (a 9), xm]) (ws' := [((a 0), oM a M_edits M_typed M_readRows M_readColumns M_top M_bottom M_left M_right M_panes), ((a 1), aI cI 151 M_now), ((a 5), aI cI 49 M_queue), ((a 9), aI cZ 49 M_seen), (xm, aI cI 49 M_marks)]) rfl rfl rfl rfl rfl rfl rfl rfl rfl 0 rfl rfl rfl rfl (Nat.le_of_ble_eq_true rfl) dX8_holesOf_44 (fun H locs h => ?_)
      obtain ⟨g_28, hf⟩ := og_some hf
      refine x_ifeq C (pc := 47) (tgt := 87) g_28 dX8_holesOf_47 rfl (fun hc => ?_) (fun hc => ?_)
      · have hf := oi_t hf hc
        obtain ⟨l4_29, el4_29, hf⟩ := ol_some hf
        refine x_iinc C (pc := 87) (k := 4) (lw' := [(4, iv l4_29), (0, .ref (a 0)), (1, .ref xm), (2, iv l2), (3, iv l3)]) dX8_holesOf_87 hl rfl el4_29 (Nat.le_of_ble_eq_true rfl) rfl (fun ls hl => ?_)
        refine lv_goto hx hb (pc := 90) (tgt := 26) dX8_holesOf_90 rfl ?_
        exact ih l3 l4_29 M_queue M_seen _ _ _ (lv_sub hl [1, 2, 3, 4, 0] rfl) h hf
      · have hf := oi_f hf hc
        refine lv_aload_n hx hb (pc := 50) dX8_holesOf_50 rfl (lv_at hl 1 rfl) ?_
        refine lv_iload hx hb (pc := 51) dX8_holesOf_51 (lv_at hl 4 rfl) ?_
        obtain ⟨g_30, hf⟩ := og_some hf
        refine x_iald C h (pc := 53) 4 0 rfl rfl (Nat.le_of_ble_eq_true rfl) g_30 dX8_holesOf_53 ?_
        refine lv_iload_n hx hb (pc := 54) dX8_holesOf_54 rfl (lv_at hl 2 rfl) ?_
        obtain ⟨g_31, hf⟩ := og_some hf
        obtain ⟨g_32, hf⟩ := og_some hf
        refine x_icmpeq C (pc := 55) (tgt := 87) g_31 g_32 dX8_holesOf_55 rfl (fun hc => ?_) (fun hc => ?_)
        · have hf := oi_t hf hc
          obtain ⟨l4_33, el4_33, hf⟩ := ol_some hf
          refine x_iinc C (pc := 87) (k := 4) (lw' := [(4, iv l4_33), (0, .ref (a 0)), (1, .ref xm), (2, iv l2), (3, iv l3)]) dX8_holesOf_87 hl rfl el4_33 (Nat.le_of_ble_eq_true rfl) rfl (fun ls hl => ?_)
          refine lv_goto hx hb (pc := 90) (tgt := 26) dX8_holesOf_90 rfl ?_
          exact ih l3 l4_33 M_queue M_seen _ _ _ (lv_sub hl [1, 2, 3, 4, 0] rfl) h hf
        · have hf := oi_f hf hc
          refine lv_aload_n hx hb (pc := 58) dX8_holesOf_58 rfl (lv_at hl 0 rfl) ?_
          refine x_get C h (pc := 59) xf_X8_34 0 rfl (v := .ref (a 9)) rfl dX8_holesOf_59 ?_
          refine lv_iload hx hb (pc := 62) dX8_holesOf_62 (lv_at hl 4 rfl) ?_
          refine x_zald C h (pc := 64) 3 2 rfl rfl (Nat.le_of_ble_eq_true rfl) g_30 dX8_holesOf_64 ?_
          obtain ⟨g_34, hf⟩ := og_some hf
          refine x_ifne C (pc := 65) (tgt := 87) g_34 dX8_holesOf_65 rfl (fun hc => ?_) (fun hc => ?_)
          · have hf := oi_f hf hc
            obtain ⟨l4_35, el4_35, hf⟩ := ol_some hf
            refine x_iinc C (pc := 87) (k := 4) (lw' := [(4, iv l4_35), (0, .ref (a 0)), (1, .ref xm), (2, iv l2), (3, iv l3)]) dX8_holesOf_87 hl rfl el4_35 (Nat.le_of_ble_eq_true rfl) rfl (fun ls hl => ?_)
            refine lv_goto hx hb (pc := 90) (tgt := 26) dX8_holesOf_90 rfl ?_
            exact ih l3 l4_35 M_queue M_seen _ _ _ (lv_sub hl [1, 2, 3, 4, 0] rfl) h hf
          · have hf := oi_t hf hc
            refine lv_iload_n hx hb (pc := 68) dX8_holesOf_68 rfl (lv_at hl 3 rfl) ?_
            refine lv_aload_n hx hb (pc := 69) dX8_holesOf_69 rfl (lv_at hl 0 rfl) ?_
            refine lv_aload_n hx hb (pc := 70) dX8_holesOf_70 rfl (lv_at hl 1 rfl) ?_
            refine lv_iload_n hx hb (pc := 71) dX8_holesOf_71 rfl (lv_at hl 2 rfl) ?_
            refine lv_iload hx hb (pc := 72) dX8_holesOf_72 (lv_at hl 4 rfl) ?_
            obtain ⟨q_36, hq_36, hf⟩ := ob_some hf
            refine x_callVi C h (pc := 74) hl (c_mo_isHole l D cI cJ cZ cO a xm M_edits M_typed M_readRows M_readColumns M_top M_bottom M_left M_right M_panes M_now M_queue M_seen M_marks l2 l4 N q_36 hq_36) xv_X8_isHole lk_X8_142 ⟨(Nat.le_of_ble_eq_true rfl), (Nat.le_of_ble_eq_true rfl)⟩ rfl [0, 1, 2, 3, 4] [] (nw := 5) (wr := []) (as := [(a 0), (a 1), (a 5), (a 9), xm]) (ws' := [((a 0), oM a M_edits M_typed M_readRows M_readColumns M_top M_bottom M_left M_right M_panes), ((a 1), aI cI 151 M_now), ((a 5), aI cI 49 q_36.2.1), ((a 9), aI cZ 49 q_36.2.2), (xm, aI cI 49 M_marks)]) rfl rfl rfl rfl rfl rfl rfl rfl rfl 0 rfl rfl rfl rfl (Nat.le_of_ble_eq_true rfl) dX8_holesOf_74 (fun H locs h => ?_)
            obtain ⟨g_37, hf⟩ := og_some hf
            obtain ⟨r_38, hrr_38, hf⟩ := ob_some hf
            have Jr_38 : ∀ (ls : Array Slot) (H : Heap) (locs : List Loc), lv_has ls 5 [(0, .ref (a 0)), (1, .ref xm), (2, iv l2), (4, iv l4)] → XH D A H0 [((a 0), oM a M_edits M_typed M_readRows M_readColumns M_top M_bottom M_left M_right M_panes), ((a 1), aI cI 151 M_now), ((a 5), aI cI 49 q_36.2.1), ((a 9), aI cZ 49 q_36.2.2), (xm, aI cI 49 M_marks)] H locs → W p l e rm_mo_holesOf s m args below meth c H locs 0 0 Q (F0 m 85 ls [iv r_38, iv l3]) := by
              intro ls H locs hl h
              refine x_iadd C (pc := 85) dX8_holesOf_85 ?_
              obtain ⟨l3_39, el3_39, hf⟩ := ol_some hf
              refine x_topi el3_39 ?_
              refine lv_istore_n hx hb (pc := 86) (lv' := [(3, iv l3_39), (0, .ref (a 0)), (1, .ref xm), (2, iv l2), (4, iv l4)]) dX8_holesOf_86 rfl hl (Nat.le_of_ble_eq_true rfl) rfl (fun ls hl => ?_)
              obtain ⟨l4_40, el4_40, hf⟩ := ol_some hf
              refine x_iinc C (pc := 87) (k := 4) (lw' := [(4, iv l4_40), (3, iv l3_39), (0, .ref (a 0)), (1, .ref xm), (2, iv l2)]) dX8_holesOf_87 hl rfl el4_40 (Nat.le_of_ble_eq_true rfl) rfl (fun ls hl => ?_)
              refine lv_goto hx hb (pc := 90) (tgt := 26) dX8_holesOf_90 rfl ?_
              exact ih l3_39 l4_40 q_36.2.1 q_36.2.2 _ _ _ (lv_sub hl [2, 3, 4, 1, 0] rfl) h hf
            clear hf
            have hf := hrr_38
            refine x_ifeq C (pc := 77) (tgt := 84) g_37 dX8_holesOf_77 rfl (fun hc => ?_) (fun hc => ?_)
            · have hf := oi_t hf hc
              refine x_iconst C (pc := 84) dX8_holesOf_84 ?_
              have e9 := Option.some.inj hf
              subst e9
              exact Jr_38 _ _ _ (lv_sub hl [0, 1, 2, 4] rfl) h
            · have hf := oi_f hf hc
              refine x_iconst C (pc := 80) dX8_holesOf_80 ?_
              refine lv_goto hx hb (pc := 81) (tgt := 85) dX8_holesOf_81 rfl ?_
              have e9 := Option.some.inj hf
              subst e9
              exact Jr_38 _ _ _ (lv_sub hl [0, 1, 2, 4] rfl) h
set_option maxHeartbeats 4000000 in
set_option maxRecDepth 100000 in
theorem w_mo_holesOf_2 {p : Program} {l : Launch} {e : Env} {s : State} {m : MethodId} {args : Array Value} {below : List Frame} {meth : Method} {c : Code} {Q : State → Prop} {D : va_G} {cI cJ cZ cO : ClassId} {A : Nat → Prop} {H0 : Heap} {w0 : Cond} (C : XC p s m args c cX8_holesOf 5 RX8 w0 D (xT cI cJ cZ cO)) (a : Nat → Nat) (xm : Nat) (M_edits : Int) (M_typed : Int) (M_readRows : Int) (M_readColumns : Int) (M_top : Int) (M_bottom : Int) (M_left : Int) (M_right : Int) (M_panes : Int) (M_now : Int → Int) (M_marks : Int → Int) (Res : Int × (Int → Int) × (Int → Int)) (hret : XRI p l e rm_mo_holesOf s m args below meth c cX8_holesOf D A H0 Q Res.1 [((a 0), oM a M_edits M_typed M_readRows M_readColumns M_top M_bottom M_left M_right M_panes), ((a 1), aI cI 151 M_now), ((a 5), aI cI 49 Res.2.1), ((a 9), aI cZ 49 Res.2.2), (xm, aI cI 49 M_marks)]) (N : Nat) (l2 : Int) (M_queue : Int → Int) : ∀ (n : Nat) (l3 : Int) (M_seen : Int → Int) (ls : Array Slot) (H : Heap) (locs : List Loc), lv_has ls 5 [(0, .ref (a 0)), (1, .ref xm), (2, iv l2), (3, iv l3)] → XH D A H0 [((a 0), oM a M_edits M_typed M_readRows M_readColumns M_top M_bottom M_left M_right M_panes), ((a 1), aI cI 151 M_now), ((a 5), aI cI 49 M_queue), ((a 9), aI cZ 49 M_seen), (xm, aI cI 49 M_marks)] H locs → f_mo_holesOf_2 N l2 M_queue M_now M_marks n l3 M_seen = some Res → W p l e rm_mo_holesOf s m args below meth c H locs 0 0 Q (F0 m 2 ls []) := by
  have hx := C.1.1
  have hb := C.1.2.1
  intro n
  induction n with
  | zero => intro l3 M_seen ls H locs hl h hf; cases hf
  | succ n ih =>
    intro l3 M_seen ls H locs hl h hf
    rw [f_mo_holesOf_2.eq_2] at hf
    refine lv_iload_n hx hb (pc := 2) dX8_holesOf_2 rfl (lv_at hl 3 rfl) ?_
    refine x_bipush C (pc := 3) dX8_holesOf_3 (by decide) ?_
    obtain ⟨g_21, hf⟩ := og_some hf
    refine x_icmpge C (pc := 5) (tgt := 21) g_21 ⟨by decide, by decide⟩ dX8_holesOf_5 rfl (fun hc => ?_) (fun hc => ?_)
    · have hf := oi_t hf hc
      refine x_iconst C (pc := 21) dX8_holesOf_21 ?_
      refine lv_istore_n hx hb (pc := 22) (lv' := [(3, iv 0), (0, .ref (a 0)), (1, .ref xm), (2, iv l2)]) dX8_holesOf_22 rfl hl (Nat.le_of_ble_eq_true rfl) rfl (fun ls hl => ?_)
      refine x_iconst C (pc := 23) dX8_holesOf_23 ?_
      refine lv_istore hx hb (pc := 24) (lv' := [(4, iv 0), (3, iv 0), (0, .ref (a 0)), (1, .ref xm), (2, iv l2)]) dX8_holesOf_24 hl (Nat.le_of_ble_eq_true rfl) rfl (fun ls hl => ?_)
      exact w_mo_holesOf_26 C a xm M_edits M_typed M_readRows M_readColumns M_top M_bottom M_left M_right M_panes M_now M_marks Res hret N l2 N 0 0 M_queue M_seen _ _ _ (lv_sub hl [2, 3, 4, 1, 0] rfl) h hf
    · have hf := oi_f hf hc
      refine lv_aload_n hx hb (pc := 8) dX8_holesOf_8 rfl (lv_at hl 0 rfl) ?_
      refine x_get C h (pc := 9) xf_X8_34 0 rfl (v := .ref (a 9)) rfl dX8_holesOf_9 ?_
      refine lv_iload_n hx hb (pc := 12) dX8_holesOf_12 rfl (lv_at hl 3 rfl) ?_
      refine x_iconst C (pc := 13) dX8_holesOf_13 ?_
      obtain ⟨g_22, hf⟩ := og_some hf
      obtain ⟨M_seen_23, eM_seen_23, hf⟩ := ol_some hf
      refine x_zast C h (pc := 14) (ws' := [((a 0), oM a M_edits M_typed M_readRows M_readColumns M_top M_bottom M_left M_right M_panes), ((a 1), aI cI 151 M_now), ((a 5), aI cI 49 M_queue), ((a 9), aI cZ 49 M_seen_23), (xm, aI cI 49 M_marks)]) 3 2 rfl rfl (Nat.le_of_ble_eq_true rfl) g_22 (Or.inl rfl) eM_seen_23 rfl dX8_holesOf_14 (fun H locs h => ?_)
      obtain ⟨l3_24, el3_24, hf⟩ := ol_some hf
      refine x_iinc C (pc := 15) (k := 3) (lw' := [(3, iv l3_24), (0, .ref (a 0)), (1, .ref xm), (2, iv l2)]) dX8_holesOf_15 hl rfl el3_24 (Nat.le_of_ble_eq_true rfl) rfl (fun ls hl => ?_)
      refine lv_goto hx hb (pc := 18) (tgt := 2) dX8_holesOf_18 rfl ?_
      exact ih l3_24 M_seen_23 _ _ _ (lv_sub hl [1, 2, 3, 0] rfl) h hf
set_option maxHeartbeats 4000000 in
set_option maxRecDepth 100000 in
theorem c_mo_holesOf (l : Launch) (D : va_G) (cI cJ cZ cO : ClassId) (a : Nat → Nat) (xm : Nat) (M_edits : Int) (M_typed : Int) (M_readRows : Int) (M_readColumns : Int) (M_top : Int) (M_bottom : Int) (M_left : Int) (M_right : Int) (M_panes : Int) (M_now : Int → Int) (M_queue : Int → Int) (M_seen : Int → Int) (M_marks : Int → Int) (l2 : Int) (N : Nat) (Res : Int × (Int → Int) × (Int → Int)) (hf : f_mo_holesOf N l2 M_now M_queue M_seen M_marks = some Res) : CoI l D (xT cI cJ cZ cO) yX8_holesOf cX8_holesOf 5 (some .int) rm_mo_holesOf [.ref (a 0), .ref xm, iv l2] [((a 0), oM a M_edits M_typed M_readRows M_readColumns M_top M_bottom M_left M_right M_panes), ((a 1), aI cI 151 M_now), ((a 5), aI cI 49 M_queue), ((a 9), aI cZ 49 M_seen), (xm, aI cI 49 M_marks)] Res.1 [((a 0), oM a M_edits M_typed M_readRows M_readColumns M_top M_bottom M_left M_right M_panes), ((a 1), aI cI 151 M_now), ((a 5), aI cI 49 Res.2.1), ((a 9), aI cZ 49 Res.2.2), (xm, aI cI 49 M_marks)] := by
  refine co_i (by decide) ⟨rfl, rfl⟩ (Nat.le_of_ble_eq_true rfl) ?_
  intro p e s m args below meth c A Q ls C hret hl h
  have hx := C.1.1
  have hb := C.1.2.1
  have hl : lv_has ls 5 [(0, .ref (a 0)), (1, .ref xm), (2, iv l2)] := hl
  unfold f_mo_holesOf at hf
  refine x_iconst C (pc := 0) dX8_holesOf_0 ?_
  refine lv_istore_n hx hb (pc := 1) (lv' := [(3, iv 0), (0, .ref (a 0)), (1, .ref xm), (2, iv l2)]) dX8_holesOf_1 rfl hl (Nat.le_of_ble_eq_true rfl) rfl (fun ls hl => ?_)
  exact w_mo_holesOf_2 C a xm M_edits M_typed M_readRows M_readColumns M_top M_bottom M_left M_right M_panes M_now M_marks Res hret N l2 M_queue N 0 M_seen _ _ _ (lv_sub hl [1, 2, 3, 0] rfl) h hf
abbrev rm_mo_isEasy : Room := { frames := 4, cells := 0, slots := 0, locals := 98 }
set_option maxHeartbeats 4000000 in
set_option maxRecDepth 100000 in
theorem c_mo_isEasy (l : Launch) (D : va_G) (cI cJ cZ cO : ClassId) (a : Nat → Nat) (xm : Nat) (M_edits : Int) (M_typed : Int) (M_readRows : Int) (M_readColumns : Int) (M_top : Int) (M_bottom : Int) (M_left : Int) (M_right : Int) (M_panes : Int) (M_now : Int → Int) (M_queue : Int → Int) (M_seen : Int → Int) (M_marks : Int → Int) (l2 : Int) (l3 : Int) (N : Nat) (Res : Int × (Int → Int) × (Int → Int)) (hf : f_mo_isEasy N l2 l3 M_now M_queue M_seen M_marks = some Res) : CoI l D (xT cI cJ cZ cO) yX8_isEasy cX8_isEasy 4 (some .boolean) rm_mo_isEasy [.ref (a 0), .ref xm, iv l2, iv l3] [((a 0), oM a M_edits M_typed M_readRows M_readColumns M_top M_bottom M_left M_right M_panes), ((a 1), aI cI 151 M_now), ((a 5), aI cI 49 M_queue), ((a 9), aI cZ 49 M_seen), (xm, aI cI 49 M_marks)] Res.1 [((a 0), oM a M_edits M_typed M_readRows M_readColumns M_top M_bottom M_left M_right M_panes), ((a 1), aI cI 151 M_now), ((a 5), aI cI 49 Res.2.1), ((a 9), aI cZ 49 Res.2.2), (xm, aI cI 49 M_marks)] := by
  refine co_z (by decide) ⟨rfl, rfl⟩ (Nat.le_of_ble_eq_true rfl) ?_
  intro p e s m args below meth c A Q ls C hret hl h
  have hx := C.1.1
  have hb := C.1.2.1
  have hl : lv_has ls 4 [(0, .ref (a 0)), (1, .ref xm), (2, iv l2), (3, iv l3)] := hl
  unfold f_mo_isEasy at hf
  refine lv_iload_n hx hb (pc := 0) dX8_isEasy_0 rfl (lv_at hl 3 rfl) ?_
  refine lv_aload_n hx hb (pc := 1) dX8_isEasy_1 rfl (lv_at hl 0 rfl) ?_
  refine x_get C h (pc := 2) xf_X8_7 0 rfl (v := .ref (a 1)) rfl dX8_isEasy_2 ?_
  refine x_iconst C (pc := 5) dX8_isEasy_5 ?_
  refine x_iald C h (pc := 6) 1 0 rfl rfl (Nat.le_of_ble_eq_true rfl) ⟨by decide, by decide⟩ dX8_isEasy_6 ?_
  obtain ⟨g_1, hf⟩ := og_some hf
  obtain ⟨g_2, hf⟩ := og_some hf
  refine x_icmpgt C (pc := 7) (tgt := 44) g_1 g_2 dX8_isEasy_7 rfl (fun hc => ?_) (fun hc => ?_)
  · have hf := oi_t hf hc
    refine x_iconst C (pc := 44) dX8_isEasy_44 ?_
    have e9 := Option.some.inj hf
    subst e9
    exact hret _ _ _ _ (Or.inl rfl) dX8_isEasy_45 h
  · have hf := oi_f hf hc
    refine lv_aload_n hx hb (pc := 10) dX8_isEasy_10 rfl (lv_at hl 0 rfl) ?_
    refine lv_aload_n hx hb (pc := 11) dX8_isEasy_11 rfl (lv_at hl 1 rfl) ?_
    refine lv_iload_n hx hb (pc := 12) dX8_isEasy_12 rfl (lv_at hl 2 rfl) ?_
    obtain ⟨q_3, hq_3, hf⟩ := ob_some hf
    refine x_callVi C h (pc := 13) hl (c_mo_corners l D cI cJ cZ cO a xm M_edits M_typed M_readRows M_readColumns M_top M_bottom M_left M_right M_panes M_now M_marks l2 N q_3 hq_3) xv_X8_corners lk_X8_146 ⟨(Nat.le_of_ble_eq_true rfl), (Nat.le_of_ble_eq_true rfl)⟩ rfl [0, 1, 4] [2, 3] (nw := 5) (wr := [((a 5), aI cI 49 M_queue), ((a 9), aI cZ 49 M_seen)]) (as := [(a 0), (a 1), (a 5), (a 9), xm]) (ws' := [((a 0), oM a M_edits M_typed M_readRows M_readColumns M_top M_bottom M_left M_right M_panes), ((a 1), aI cI 151 M_now), ((a 5), aI cI 49 M_queue), ((a 9), aI cZ 49 M_seen), (xm, aI cI 49 M_marks)]) rfl rfl rfl rfl rfl rfl rfl rfl rfl 0 rfl rfl rfl rfl (Nat.le_of_ble_eq_true rfl) dX8_isEasy_13 (fun H locs h => ?_)
    refine lv_aload_n hx hb (pc := 16) dX8_isEasy_16 rfl (lv_at hl 0 rfl) ?_
    refine x_get C h (pc := 17) xf_X8_7 0 rfl (v := .ref (a 1)) rfl dX8_isEasy_17 ?_
    refine x_iconst C (pc := 20) dX8_isEasy_20 ?_
    refine x_iald C h (pc := 21) 1 0 rfl rfl (Nat.le_of_ble_eq_true rfl) ⟨by decide, by decide⟩ dX8_isEasy_21 ?_
    obtain ⟨g_4, hf⟩ := og_some hf
    obtain ⟨g_5, hf⟩ := og_some hf
    refine x_icmpgt C (pc := 22) (tgt := 44) g_4 g_5 dX8_isEasy_22 rfl (fun hc => ?_) (fun hc => ?_)
    · have hf := oi_t hf hc
      refine x_iconst C (pc := 44) dX8_isEasy_44 ?_
      have e9 := Option.some.inj hf
      subst e9
      exact hret _ _ _ _ (Or.inl rfl) dX8_isEasy_45 h
    · have hf := oi_f hf hc
      refine lv_iload_n hx hb (pc := 25) dX8_isEasy_25 rfl (lv_at hl 3 rfl) ?_
      refine x_bipush C (pc := 26) dX8_isEasy_26 (by decide) ?_
      refine x_icmplt C (pc := 28) (tgt := 40) g_1 ⟨by decide, by decide⟩ dX8_isEasy_28 rfl (fun hc => ?_) (fun hc => ?_)
      · have hf := oi_t hf hc
        refine x_iconst C (pc := 40) dX8_isEasy_40 ?_
        refine lv_goto hx hb (pc := 41) (tgt := 45) dX8_isEasy_41 rfl ?_
        have e9 := Option.some.inj hf
        subst e9
        exact hret _ _ _ _ (Or.inr rfl) dX8_isEasy_45 h
      · have hf := oi_f hf hc
        refine lv_aload_n hx hb (pc := 31) dX8_isEasy_31 rfl (lv_at hl 0 rfl) ?_
        refine lv_aload_n hx hb (pc := 32) dX8_isEasy_32 rfl (lv_at hl 1 rfl) ?_
        refine lv_iload_n hx hb (pc := 33) dX8_isEasy_33 rfl (lv_at hl 2 rfl) ?_
        obtain ⟨q_6, hq_6, hf⟩ := ob_some hf
        refine x_callVi C h (pc := 34) hl (c_mo_holesOf l D cI cJ cZ cO a xm M_edits M_typed M_readRows M_readColumns M_top M_bottom M_left M_right M_panes M_now M_queue M_seen M_marks l2 N q_6 hq_6) xv_X8_holesOf lk_X8_150 ⟨(Nat.le_of_ble_eq_true rfl), (Nat.le_of_ble_eq_true rfl)⟩ rfl [0, 1, 2, 3, 4] [] (nw := 5) (wr := []) (as := [(a 0), (a 1), (a 5), (a 9), xm]) (ws' := [((a 0), oM a M_edits M_typed M_readRows M_readColumns M_top M_bottom M_left M_right M_panes), ((a 1), aI cI 151 M_now), ((a 5), aI cI 49 q_6.2.1), ((a 9), aI cZ 49 q_6.2.2), (xm, aI cI 49 M_marks)]) rfl rfl rfl rfl rfl rfl rfl rfl rfl 0 rfl rfl rfl rfl (Nat.le_of_ble_eq_true rfl) dX8_isEasy_34 (fun H locs h => ?_)
        obtain ⟨g_7, hf⟩ := og_some hf
        refine x_ifne C (pc := 37) (tgt := 44) g_7 dX8_isEasy_37 rfl (fun hc => ?_) (fun hc => ?_)
        · have hf := oi_f hf hc
          refine x_iconst C (pc := 44) dX8_isEasy_44 ?_
          have e9 := Option.some.inj hf
          subst e9
          exact hret _ _ _ _ (Or.inl rfl) dX8_isEasy_45 h
        · have hf := oi_t hf hc
          refine x_iconst C (pc := 40) dX8_isEasy_40 ?_
          refine lv_goto hx hb (pc := 41) (tgt := 45) dX8_isEasy_41 rfl ?_
          have e9 := Option.some.inj hf
          subst e9
          exact hret _ _ _ _ (Or.inr rfl) dX8_isEasy_45 h
abbrev rm_mo_canCut : Room := { frames := 5, cells := 0, slots := 0, locals := 121 }
set_option maxHeartbeats 4000000 in
set_option maxRecDepth 100000 in
theorem c_mo_canCut (l : Launch) (D : va_G) (cI cJ cZ cO : ClassId) (a : Nat → Nat) (M_edits : Int) (M_typed : Int) (M_readRows : Int) (M_readColumns : Int) (M_top : Int) (M_bottom : Int) (M_left : Int) (M_right : Int) (M_panes : Int) (M_now : Int → Int) (M_queue : Int → Int) (M_pane : Int → Int) (M_size : Int → Int) (M_seen : Int → Int) (l1 : Int) (N : Nat) (Res : Int × (Int → Int) × (Int → Int)) (hf : f_mo_canCut N l1 M_now M_queue M_pane M_size M_seen = some Res) : CoI l D (xT cI cJ cZ cO) yX8_canCut cX8_canCut 2 (some .boolean) rm_mo_canCut [.ref (a 0), iv l1] [((a 0), oM a M_edits M_typed M_readRows M_readColumns M_top M_bottom M_left M_right M_panes), ((a 1), aI cI 151 M_now), ((a 5), aI cI 49 M_queue), ((a 6), aI cI 49 M_pane), ((a 8), aI cI 49 M_size), ((a 9), aI cZ 49 M_seen)] Res.1 [((a 0), oM a M_edits M_typed M_readRows M_readColumns M_top M_bottom M_left M_right M_panes), ((a 1), aI cI 151 M_now), ((a 5), aI cI 49 Res.2.1), ((a 6), aI cI 49 M_pane), ((a 8), aI cI 49 M_size), ((a 9), aI cZ 49 Res.2.2)] := by
  refine co_z (by decide) ⟨rfl, rfl⟩ (Nat.le_of_ble_eq_true rfl) ?_
  intro p e s m args below meth c A Q ls C hret hl h
  have hx := C.1.1
  have hb := C.1.2.1
  have hl : lv_has ls 2 [(0, .ref (a 0)), (1, iv l1)] := hl
  unfold f_mo_canCut at hf
  refine lv_aload_n hx hb (pc := 0) dX8_canCut_0 rfl (lv_at hl 0 rfl) ?_
  refine lv_aload_n hx hb (pc := 1) dX8_canCut_1 rfl (lv_at hl 0 rfl) ?_
  refine x_get C h (pc := 2) xf_X8_25 0 rfl (v := .ref (a 6)) rfl dX8_canCut_2 ?_
  refine lv_iload_n hx hb (pc := 5) dX8_canCut_5 rfl (lv_at hl 1 rfl) ?_
  refine lv_aload_n hx hb (pc := 6) dX8_canCut_6 rfl (lv_at hl 0 rfl) ?_
  refine x_get C h (pc := 7) xf_X8_31 0 rfl (v := .ref (a 8)) rfl dX8_canCut_7 ?_
  refine lv_iload_n hx hb (pc := 10) dX8_canCut_10 rfl (lv_at hl 1 rfl) ?_
  obtain ⟨g_1, hf⟩ := og_some hf
  refine x_iald C h (pc := 11) 4 0 rfl rfl (Nat.le_of_ble_eq_true rfl) g_1 dX8_canCut_11 ?_
  obtain ⟨q_2, hq_2, hf⟩ := ob_some hf
  refine x_callVi C h (pc := 12) hl (c_mo_isEasy l D cI cJ cZ cO a (a 6) M_edits M_typed M_readRows M_readColumns M_top M_bottom M_left M_right M_panes M_now M_queue M_seen M_pane l1 (M_size l1) N q_2 hq_2) xv_X8_isEasy lk_X8_153 ⟨(Nat.le_of_ble_eq_true rfl), (Nat.le_of_ble_eq_true rfl)⟩ rfl [0, 1, 2, 5, 3] [4] (nw := 6) (wr := [((a 8), aI cI 49 M_size)]) (as := [(a 0), (a 1), (a 5), (a 6), (a 8), (a 9)]) (ws' := [((a 0), oM a M_edits M_typed M_readRows M_readColumns M_top M_bottom M_left M_right M_panes), ((a 1), aI cI 151 M_now), ((a 5), aI cI 49 q_2.2.1), ((a 6), aI cI 49 M_pane), ((a 8), aI cI 49 M_size), ((a 9), aI cZ 49 q_2.2.2)]) rfl rfl rfl rfl rfl rfl rfl rfl rfl 0 rfl rfl rfl rfl (Nat.le_of_ble_eq_true rfl) dX8_canCut_12 (fun H locs h => ?_)
  obtain ⟨g_3, hf⟩ := og_some hf
  have e9 := Option.some.inj hf
  subst e9
  exact hret _ _ _ _ g_3 dX8_canCut_15 h
abbrev rm_mo_paneCount : Room := { frames := 4, cells := 0, slots := 0, locals := 95 }
set_option maxHeartbeats 4000000 in
set_option maxRecDepth 100000 in
theorem c_mo_paneCount (l : Launch) (D : va_G) (cI cJ cZ cO : ClassId) (a : Nat → Nat) (M_edits : Int) (M_typed : Int) (M_readRows : Int) (M_readColumns : Int) (M_top : Int) (M_bottom : Int) (M_left : Int) (M_right : Int) (M_panes : Int) (M_now : Int → Int) (M_queue : Int → Int) (M_pane : Int → Int) (M_size : Int → Int) (N : Nat) (Res : Int × Int × Int × Int × Int × Int × (Int → Int) × (Int → Int) × (Int → Int)) (hf : f_mo_paneCount N M_top M_bottom M_left M_right M_panes M_now M_queue M_pane M_size = some Res) : CoI l D (xT cI cJ cZ cO) yX8_paneCount cX8_paneCount 1 (some .int) rm_mo_paneCount [.ref (a 0)] [((a 0), oM a M_edits M_typed M_readRows M_readColumns M_top M_bottom M_left M_right M_panes), ((a 1), aI cI 151 M_now), ((a 5), aI cI 49 M_queue), ((a 6), aI cI 49 M_pane), ((a 8), aI cI 49 M_size)] Res.1 [((a 0), oM a M_edits M_typed M_readRows M_readColumns Res.2.1 Res.2.2.1 Res.2.2.2.1 Res.2.2.2.2.1 Res.2.2.2.2.2.1), ((a 1), aI cI 151 M_now), ((a 5), aI cI 49 Res.2.2.2.2.2.2.1), ((a 6), aI cI 49 Res.2.2.2.2.2.2.2.1), ((a 8), aI cI 49 Res.2.2.2.2.2.2.2.2)] := by
  refine co_i (by decide) ⟨rfl, rfl⟩ (Nat.le_of_ble_eq_true rfl) ?_
  intro p e s m args below meth c A Q ls C hret hl h
  have hx := C.1.1
  have hb := C.1.2.1
  have hl : lv_has ls 1 [(0, .ref (a 0))] := hl
  unfold f_mo_paneCount at hf
  refine lv_aload_n hx hb (pc := 0) dX8_paneCount_0 rfl (lv_at hl 0 rfl) ?_
  obtain ⟨q_1, hq_1, hf⟩ := ob_some hf
  refine x_callVv C h (pc := 1) hl (c_mo_findPanes l D cI cJ cZ cO a M_edits M_typed M_readRows M_readColumns M_top M_bottom M_left M_right M_panes M_now M_queue M_pane M_size N q_1 hq_1) xv_X8_findPanes lk_X8_89 ⟨(Nat.le_of_ble_eq_true rfl), (Nat.le_of_ble_eq_true rfl)⟩ rfl [0, 1, 2, 3, 4] [] (nw := 5) (wr := []) (as := [(a 0), (a 1), (a 5), (a 6), (a 8)]) (ws' := [((a 0), oM a M_edits M_typed M_readRows M_readColumns q_1.1 q_1.2.1 q_1.2.2.1 q_1.2.2.2.1 q_1.2.2.2.2.1), ((a 1), aI cI 151 M_now), ((a 5), aI cI 49 q_1.2.2.2.2.2.1), ((a 6), aI cI 49 q_1.2.2.2.2.2.2.1), ((a 8), aI cI 49 q_1.2.2.2.2.2.2.2)]) rfl rfl rfl rfl rfl rfl rfl rfl rfl 0 rfl rfl rfl rfl (Nat.le_of_ble_eq_true rfl) dX8_paneCount_1 (fun H locs h => ?_)
  refine lv_aload_n hx hb (pc := 4) dX8_paneCount_4 rfl (lv_at hl 0 rfl) ?_
  refine x_get C h (pc := 5) xf_X8_92 0 rfl (v := iv q_1.2.2.2.2.1) rfl dX8_paneCount_5 ?_
  have e9 := Option.some.inj hf
  subst e9
  exact hret _ _ _ _ dX8_paneCount_8 h
abbrev rm_mo_paneAt : Room := { frames := 4, cells := 0, slots := 0, locals := 95 }
set_option maxHeartbeats 4000000 in
set_option maxRecDepth 100000 in
theorem c_mo_paneAt (l : Launch) (D : va_G) (cI cJ cZ cO : ClassId) (a : Nat → Nat) (M_edits : Int) (M_typed : Int) (M_readRows : Int) (M_readColumns : Int) (M_top : Int) (M_bottom : Int) (M_left : Int) (M_right : Int) (M_panes : Int) (M_now : Int → Int) (M_queue : Int → Int) (M_pane : Int → Int) (M_size : Int → Int) (l1 : Int) (l2 : Int) (N : Nat) (Res : Int × Int × Int × Int × Int × Int × (Int → Int) × (Int → Int) × (Int → Int)) (hf : f_mo_paneAt N l1 l2 M_top M_bottom M_left M_right M_panes M_now M_queue M_pane M_size = some Res) : CoI l D (xT cI cJ cZ cO) yX8_paneAt cX8_paneAt 3 (some .int) rm_mo_paneAt [.ref (a 0), iv l1, iv l2] [((a 0), oM a M_edits M_typed M_readRows M_readColumns M_top M_bottom M_left M_right M_panes), ((a 1), aI cI 151 M_now), ((a 5), aI cI 49 M_queue), ((a 6), aI cI 49 M_pane), ((a 8), aI cI 49 M_size)] Res.1 [((a 0), oM a M_edits M_typed M_readRows M_readColumns Res.2.1 Res.2.2.1 Res.2.2.2.1 Res.2.2.2.2.1 Res.2.2.2.2.2.1), ((a 1), aI cI 151 M_now), ((a 5), aI cI 49 Res.2.2.2.2.2.2.1), ((a 6), aI cI 49 Res.2.2.2.2.2.2.2.1), ((a 8), aI cI 49 Res.2.2.2.2.2.2.2.2)] := by
  refine co_i (by decide) ⟨rfl, rfl⟩ (Nat.le_of_ble_eq_true rfl) ?_
  intro p e s m args below meth c A Q ls C hret hl h
  have hx := C.1.1
  have hb := C.1.2.1
  have hl : lv_has ls 3 [(0, .ref (a 0)), (1, iv l1), (2, iv l2)] := hl
  unfold f_mo_paneAt at hf
  refine lv_aload_n hx hb (pc := 0) dX8_paneAt_0 rfl (lv_at hl 0 rfl) ?_
  obtain ⟨q_1, hq_1, hf⟩ := ob_some hf
  refine x_callVv C h (pc := 1) hl (c_mo_findPanes l D cI cJ cZ cO a M_edits M_typed M_readRows M_readColumns M_top M_bottom M_left M_right M_panes M_now M_queue M_pane M_size N q_1 hq_1) xv_X8_findPanes lk_X8_89 ⟨(Nat.le_of_ble_eq_true rfl), (Nat.le_of_ble_eq_true rfl)⟩ rfl [0, 1, 2, 3, 4] [] (nw := 5) (wr := []) (as := [(a 0), (a 1), (a 5), (a 6), (a 8)]) (ws' := [((a 0), oM a M_edits M_typed M_readRows M_readColumns q_1.1 q_1.2.1 q_1.2.2.1 q_1.2.2.2.1 q_1.2.2.2.2.1), ((a 1), aI cI 151 M_now), ((a 5), aI cI 49 q_1.2.2.2.2.2.1), ((a 6), aI cI 49 q_1.2.2.2.2.2.2.1), ((a 8), aI cI 49 q_1.2.2.2.2.2.2.2)]) rfl rfl rfl rfl rfl rfl rfl rfl rfl 0 rfl rfl rfl rfl (Nat.le_of_ble_eq_true rfl) dX8_paneAt_1 (fun H locs h => ?_)
  refine lv_aload_n hx hb (pc := 4) dX8_paneAt_4 rfl (lv_at hl 0 rfl) ?_
  refine lv_iload_n hx hb (pc := 5) dX8_paneAt_5 rfl (lv_at hl 1 rfl) ?_
  refine lv_iload_n hx hb (pc := 6) dX8_paneAt_6 rfl (lv_at hl 2 rfl) ?_
  obtain ⟨q_2, hq_2, hf⟩ := ob_some hf
  refine x_callVi C h (pc := 7) hl (c_mo_isCell l D cI cJ cZ cO a M_edits M_typed M_readRows M_readColumns q_1.1 q_1.2.1 q_1.2.2.1 q_1.2.2.2.1 q_1.2.2.2.2.1 M_now l1 l2 N q_2 hq_2) xv_X8_isCell lk_X8_95 ⟨(Nat.le_of_ble_eq_true rfl), (Nat.le_of_ble_eq_true rfl)⟩ rfl [0, 1] [2, 3, 4] (nw := 5) (wr := [((a 5), aI cI 49 q_1.2.2.2.2.2.1), ((a 6), aI cI 49 q_1.2.2.2.2.2.2.1), ((a 8), aI cI 49 q_1.2.2.2.2.2.2.2)]) (as := [(a 0), (a 1), (a 5), (a 6), (a 8)]) (ws' := [((a 0), oM a M_edits M_typed M_readRows M_readColumns q_1.1 q_1.2.1 q_1.2.2.1 q_1.2.2.2.1 q_1.2.2.2.2.1), ((a 1), aI cI 151 M_now), ((a 5), aI cI 49 q_1.2.2.2.2.2.1), ((a 6), aI cI 49 q_1.2.2.2.2.2.2.1), ((a 8), aI cI 49 q_1.2.2.2.2.2.2.2)]) rfl rfl rfl rfl rfl rfl rfl rfl rfl 0 rfl rfl rfl rfl (Nat.le_of_ble_eq_true rfl) dX8_paneAt_7 (fun H locs h => ?_)
  obtain ⟨g_3, hf⟩ := og_some hf
  refine x_ifeq C (pc := 10) (tgt := 27) g_3 dX8_paneAt_10 rfl (fun hc => ?_) (fun hc => ?_)
  · have hf := oi_t hf hc
    refine x_iconst C (pc := 27) dX8_paneAt_27 ?_
    have e9 := Option.some.inj hf
    subst e9
    exact hret _ _ _ _ dX8_paneAt_28 h
  · have hf := oi_f hf hc
    refine lv_aload_n hx hb (pc := 13) dX8_paneAt_13 rfl (lv_at hl 0 rfl) ?_
    refine x_get C h (pc := 14) xf_X8_25 0 rfl (v := .ref (a 6)) rfl dX8_paneAt_14 ?_
    refine x_bipush C (pc := 17) dX8_paneAt_17 (by decide) ?_
    refine lv_iload_n hx hb (pc := 19) dX8_paneAt_19 rfl (lv_at hl 1 rfl) ?_
    refine x_imul C (pc := 20) dX8_paneAt_20 ?_
    refine lv_iload_n hx hb (pc := 21) dX8_paneAt_21 rfl (lv_at hl 2 rfl) ?_
    refine x_iadd C (pc := 22) dX8_paneAt_22 ?_
    obtain ⟨g_4, hf⟩ := og_some hf
    refine x_iald C h (pc := 23) 3 0 rfl rfl (Nat.le_of_ble_eq_true rfl) g_4 dX8_paneAt_23 ?_
    refine lv_goto hx hb (pc := 24) (tgt := 28) dX8_paneAt_24 rfl ?_
    have e9 := Option.some.inj hf
    subst e9
    exact hret _ _ _ _ dX8_paneAt_28 h
abbrev rm_mo_paneSize : Room := { frames := 5, cells := 0, slots := 0, locals := 116 }
set_option maxHeartbeats 4000000 in
set_option maxRecDepth 100000 in
theorem c_mo_paneSize (l : Launch) (D : va_G) (cI cJ cZ cO : ClassId) (a : Nat → Nat) (M_edits : Int) (M_typed : Int) (M_readRows : Int) (M_readColumns : Int) (M_top : Int) (M_bottom : Int) (M_left : Int) (M_right : Int) (M_panes : Int) (M_now : Int → Int) (M_queue : Int → Int) (M_pane : Int → Int) (M_size : Int → Int) (l1 : Int) (N : Nat) (Res : Int × Int × Int × Int × Int × Int × (Int → Int) × (Int → Int) × (Int → Int)) (hf : f_mo_paneSize N l1 M_top M_bottom M_left M_right M_panes M_now M_queue M_pane M_size = some Res) : CoI l D (xT cI cJ cZ cO) yX8_paneSize cX8_paneSize 2 (some .int) rm_mo_paneSize [.ref (a 0), iv l1] [((a 0), oM a M_edits M_typed M_readRows M_readColumns M_top M_bottom M_left M_right M_panes), ((a 1), aI cI 151 M_now), ((a 5), aI cI 49 M_queue), ((a 6), aI cI 49 M_pane), ((a 8), aI cI 49 M_size)] Res.1 [((a 0), oM a M_edits M_typed M_readRows M_readColumns Res.2.1 Res.2.2.1 Res.2.2.2.1 Res.2.2.2.2.1 Res.2.2.2.2.2.1), ((a 1), aI cI 151 M_now), ((a 5), aI cI 49 Res.2.2.2.2.2.2.1), ((a 6), aI cI 49 Res.2.2.2.2.2.2.2.1), ((a 8), aI cI 49 Res.2.2.2.2.2.2.2.2)] := by
  refine co_i (by decide) ⟨rfl, rfl⟩ (Nat.le_of_ble_eq_true rfl) ?_
  intro p e s m args below meth c A Q ls C hret hl h
  have hx := C.1.1
  have hb := C.1.2.1
  have hl : lv_has ls 2 [(0, .ref (a 0)), (1, iv l1)] := hl
  unfold f_mo_paneSize at hf
  refine lv_aload_n hx hb (pc := 0) dX8_paneSize_0 rfl (lv_at hl 0 rfl) ?_
  refine lv_iload_n hx hb (pc := 1) dX8_paneSize_1 rfl (lv_at hl 1 rfl) ?_
  obtain ⟨q_1, hq_1, hf⟩ := ob_some hf
  refine x_callVi C h (pc := 2) hl (c_mo_isPane l D cI cJ cZ cO a M_edits M_typed M_readRows M_readColumns M_top M_bottom M_left M_right M_panes M_now M_queue M_pane M_size l1 N q_1 hq_1) xv_X8_isPane lk_X8_156 ⟨(Nat.le_of_ble_eq_true rfl), (Nat.le_of_ble_eq_true rfl)⟩ rfl [0, 1, 2, 3, 4] [] (nw := 5) (wr := []) (as := [(a 0), (a 1), (a 5), (a 6), (a 8)]) (ws' := [((a 0), oM a M_edits M_typed M_readRows M_readColumns q_1.2.1 q_1.2.2.1 q_1.2.2.2.1 q_1.2.2.2.2.1 q_1.2.2.2.2.2.1), ((a 1), aI cI 151 M_now), ((a 5), aI cI 49 q_1.2.2.2.2.2.2.1), ((a 6), aI cI 49 q_1.2.2.2.2.2.2.2.1), ((a 8), aI cI 49 q_1.2.2.2.2.2.2.2.2)]) rfl rfl rfl rfl rfl rfl rfl rfl rfl 0 rfl rfl rfl rfl (Nat.le_of_ble_eq_true rfl) dX8_paneSize_2 (fun H locs h => ?_)
  obtain ⟨g_2, hf⟩ := og_some hf
  refine x_ifeq C (pc := 5) (tgt := 17) g_2 dX8_paneSize_5 rfl (fun hc => ?_) (fun hc => ?_)
  · have hf := oi_t hf hc
    refine x_iconst C (pc := 17) dX8_paneSize_17 ?_
    have e9 := Option.some.inj hf
    subst e9
    exact hret _ _ _ _ dX8_paneSize_18 h
  · have hf := oi_f hf hc
    refine lv_aload_n hx hb (pc := 8) dX8_paneSize_8 rfl (lv_at hl 0 rfl) ?_
    refine x_get C h (pc := 9) xf_X8_31 0 rfl (v := .ref (a 8)) rfl dX8_paneSize_9 ?_
    refine lv_iload_n hx hb (pc := 12) dX8_paneSize_12 rfl (lv_at hl 1 rfl) ?_
    obtain ⟨g_3, hf⟩ := og_some hf
    refine x_iald C h (pc := 13) 4 0 rfl rfl (Nat.le_of_ble_eq_true rfl) g_3 dX8_paneSize_13 ?_
    refine lv_goto hx hb (pc := 14) (tgt := 18) dX8_paneSize_14 rfl ?_
    have e9 := Option.some.inj hf
    subst e9
    exact hret _ _ _ _ dX8_paneSize_18 h
abbrev rm_mo_innerCorners : Room := { frames := 5, cells := 0, slots := 0, locals := 116 }
set_option maxHeartbeats 4000000 in
set_option maxRecDepth 100000 in
theorem c_mo_innerCorners (l : Launch) (D : va_G) (cI cJ cZ cO : ClassId) (a : Nat → Nat) (M_edits : Int) (M_typed : Int) (M_readRows : Int) (M_readColumns : Int) (M_top : Int) (M_bottom : Int) (M_left : Int) (M_right : Int) (M_panes : Int) (M_now : Int → Int) (M_queue : Int → Int) (M_pane : Int → Int) (M_size : Int → Int) (l1 : Int) (N : Nat) (Res : Int × Int × Int × Int × Int × Int × (Int → Int) × (Int → Int) × (Int → Int)) (hf : f_mo_innerCorners N l1 M_top M_bottom M_left M_right M_panes M_now M_queue M_pane M_size = some Res) : CoI l D (xT cI cJ cZ cO) yX8_innerCorners cX8_innerCorners 2 (some .int) rm_mo_innerCorners [.ref (a 0), iv l1] [((a 0), oM a M_edits M_typed M_readRows M_readColumns M_top M_bottom M_left M_right M_panes), ((a 1), aI cI 151 M_now), ((a 5), aI cI 49 M_queue), ((a 6), aI cI 49 M_pane), ((a 8), aI cI 49 M_size)] Res.1 [((a 0), oM a M_edits M_typed M_readRows M_readColumns Res.2.1 Res.2.2.1 Res.2.2.2.1 Res.2.2.2.2.1 Res.2.2.2.2.2.1), ((a 1), aI cI 151 M_now), ((a 5), aI cI 49 Res.2.2.2.2.2.2.1), ((a 6), aI cI 49 Res.2.2.2.2.2.2.2.1), ((a 8), aI cI 49 Res.2.2.2.2.2.2.2.2)] := by
  refine co_i (by decide) ⟨rfl, rfl⟩ (Nat.le_of_ble_eq_true rfl) ?_
  intro p e s m args below meth c A Q ls C hret hl h
  have hx := C.1.1
  have hb := C.1.2.1
  have hl : lv_has ls 2 [(0, .ref (a 0)), (1, iv l1)] := hl
  unfold f_mo_innerCorners at hf
  refine lv_aload_n hx hb (pc := 0) dX8_innerCorners_0 rfl (lv_at hl 0 rfl) ?_
  refine lv_iload_n hx hb (pc := 1) dX8_innerCorners_1 rfl (lv_at hl 1 rfl) ?_
  obtain ⟨q_1, hq_1, hf⟩ := ob_some hf
  refine x_callVi C h (pc := 2) hl (c_mo_isPane l D cI cJ cZ cO a M_edits M_typed M_readRows M_readColumns M_top M_bottom M_left M_right M_panes M_now M_queue M_pane M_size l1 N q_1 hq_1) xv_X8_isPane lk_X8_156 ⟨(Nat.le_of_ble_eq_true rfl), (Nat.le_of_ble_eq_true rfl)⟩ rfl [0, 1, 2, 3, 4] [] (nw := 5) (wr := []) (as := [(a 0), (a 1), (a 5), (a 6), (a 8)]) (ws' := [((a 0), oM a M_edits M_typed M_readRows M_readColumns q_1.2.1 q_1.2.2.1 q_1.2.2.2.1 q_1.2.2.2.2.1 q_1.2.2.2.2.2.1), ((a 1), aI cI 151 M_now), ((a 5), aI cI 49 q_1.2.2.2.2.2.2.1), ((a 6), aI cI 49 q_1.2.2.2.2.2.2.2.1), ((a 8), aI cI 49 q_1.2.2.2.2.2.2.2.2)]) rfl rfl rfl rfl rfl rfl rfl rfl rfl 0 rfl rfl rfl rfl (Nat.le_of_ble_eq_true rfl) dX8_innerCorners_2 (fun H locs h => ?_)
  obtain ⟨g_2, hf⟩ := og_some hf
  refine x_ifeq C (pc := 5) (tgt := 20) g_2 dX8_innerCorners_5 rfl (fun hc => ?_) (fun hc => ?_)
  · have hf := oi_t hf hc
    refine x_iconst C (pc := 20) dX8_innerCorners_20 ?_
    have e9 := Option.some.inj hf
    subst e9
    exact hret _ _ _ _ dX8_innerCorners_21 h
  · have hf := oi_f hf hc
    refine lv_aload_n hx hb (pc := 8) dX8_innerCorners_8 rfl (lv_at hl 0 rfl) ?_
    refine lv_aload_n hx hb (pc := 9) dX8_innerCorners_9 rfl (lv_at hl 0 rfl) ?_
    refine x_get C h (pc := 10) xf_X8_25 0 rfl (v := .ref (a 6)) rfl dX8_innerCorners_10 ?_
    refine lv_iload_n hx hb (pc := 13) dX8_innerCorners_13 rfl (lv_at hl 1 rfl) ?_
    obtain ⟨q_3, hq_3, hf⟩ := ob_some hf
    refine x_callVi C h (pc := 14) hl (c_mo_corners l D cI cJ cZ cO a (a 6) M_edits M_typed M_readRows M_readColumns q_1.2.1 q_1.2.2.1 q_1.2.2.2.1 q_1.2.2.2.2.1 q_1.2.2.2.2.2.1 M_now q_1.2.2.2.2.2.2.2.1 l1 N q_3 hq_3) xv_X8_corners lk_X8_146 ⟨(Nat.le_of_ble_eq_true rfl), (Nat.le_of_ble_eq_true rfl)⟩ rfl [0, 1, 3] [2, 4] (nw := 5) (wr := [((a 5), aI cI 49 q_1.2.2.2.2.2.2.1), ((a 8), aI cI 49 q_1.2.2.2.2.2.2.2.2)]) (as := [(a 0), (a 1), (a 5), (a 6), (a 8)]) (ws' := [((a 0), oM a M_edits M_typed M_readRows M_readColumns q_1.2.1 q_1.2.2.1 q_1.2.2.2.1 q_1.2.2.2.2.1 q_1.2.2.2.2.2.1), ((a 1), aI cI 151 M_now), ((a 5), aI cI 49 q_1.2.2.2.2.2.2.1), ((a 6), aI cI 49 q_1.2.2.2.2.2.2.2.1), ((a 8), aI cI 49 q_1.2.2.2.2.2.2.2.2)]) rfl rfl rfl rfl rfl rfl rfl rfl rfl 0 rfl rfl rfl rfl (Nat.le_of_ble_eq_true rfl) dX8_innerCorners_14 (fun H locs h => ?_)
    refine lv_goto hx hb (pc := 17) (tgt := 21) dX8_innerCorners_17 rfl ?_
    have e9 := Option.some.inj hf
    subst e9
    exact hret _ _ _ _ dX8_innerCorners_21 h
abbrev rm_mo_holes : Room := { frames := 5, cells := 0, slots := 0, locals := 116 }
set_option maxHeartbeats 4000000 in
set_option maxRecDepth 100000 in
theorem c_mo_holes (l : Launch) (D : va_G) (cI cJ cZ cO : ClassId) (a : Nat → Nat) (M_edits : Int) (M_typed : Int) (M_readRows : Int) (M_readColumns : Int) (M_top : Int) (M_bottom : Int) (M_left : Int) (M_right : Int) (M_panes : Int) (M_now : Int → Int) (M_queue : Int → Int) (M_pane : Int → Int) (M_size : Int → Int) (M_seen : Int → Int) (l1 : Int) (N : Nat) (Res : Int × Int × Int × Int × Int × Int × (Int → Int) × (Int → Int) × (Int → Int) × (Int → Int)) (hf : f_mo_holes N l1 M_top M_bottom M_left M_right M_panes M_now M_queue M_pane M_size M_seen = some Res) : CoI l D (xT cI cJ cZ cO) yX8_holes cX8_holes 2 (some .int) rm_mo_holes [.ref (a 0), iv l1] [((a 0), oM a M_edits M_typed M_readRows M_readColumns M_top M_bottom M_left M_right M_panes), ((a 1), aI cI 151 M_now), ((a 5), aI cI 49 M_queue), ((a 6), aI cI 49 M_pane), ((a 8), aI cI 49 M_size), ((a 9), aI cZ 49 M_seen)] Res.1 [((a 0), oM a M_edits M_typed M_readRows M_readColumns Res.2.1 Res.2.2.1 Res.2.2.2.1 Res.2.2.2.2.1 Res.2.2.2.2.2.1), ((a 1), aI cI 151 M_now), ((a 5), aI cI 49 Res.2.2.2.2.2.2.1), ((a 6), aI cI 49 Res.2.2.2.2.2.2.2.1), ((a 8), aI cI 49 Res.2.2.2.2.2.2.2.2.1), ((a 9), aI cZ 49 Res.2.2.2.2.2.2.2.2.2)] := by
  refine co_i (by decide) ⟨rfl, rfl⟩ (Nat.le_of_ble_eq_true rfl) ?_
  intro p e s m args below meth c A Q ls C hret hl h
  have hx := C.1.1
  have hb := C.1.2.1
  have hl : lv_has ls 2 [(0, .ref (a 0)), (1, iv l1)] := hl
  unfold f_mo_holes at hf
  refine lv_aload_n hx hb (pc := 0) dX8_holes_0 rfl (lv_at hl 0 rfl) ?_
  refine lv_iload_n hx hb (pc := 1) dX8_holes_1 rfl (lv_at hl 1 rfl) ?_
  obtain ⟨q_1, hq_1, hf⟩ := ob_some hf
  refine x_callVi C h (pc := 2) hl (c_mo_isPane l D cI cJ cZ cO a M_edits M_typed M_readRows M_readColumns M_top M_bottom M_left M_right M_panes M_now M_queue M_pane M_size l1 N q_1 hq_1) xv_X8_isPane lk_X8_156 ⟨(Nat.le_of_ble_eq_true rfl), (Nat.le_of_ble_eq_true rfl)⟩ rfl [0, 1, 2, 3, 4] [5] (nw := 6) (wr := [((a 9), aI cZ 49 M_seen)]) (as := [(a 0), (a 1), (a 5), (a 6), (a 8), (a 9)]) (ws' := [((a 0), oM a M_edits M_typed M_readRows M_readColumns q_1.2.1 q_1.2.2.1 q_1.2.2.2.1 q_1.2.2.2.2.1 q_1.2.2.2.2.2.1), ((a 1), aI cI 151 M_now), ((a 5), aI cI 49 q_1.2.2.2.2.2.2.1), ((a 6), aI cI 49 q_1.2.2.2.2.2.2.2.1), ((a 8), aI cI 49 q_1.2.2.2.2.2.2.2.2), ((a 9), aI cZ 49 M_seen)]) rfl rfl rfl rfl rfl rfl rfl rfl rfl 0 rfl rfl rfl rfl (Nat.le_of_ble_eq_true rfl) dX8_holes_2 (fun H locs h => ?_)
  obtain ⟨g_2, hf⟩ := og_some hf
  refine x_ifeq C (pc := 5) (tgt := 20) g_2 dX8_holes_5 rfl (fun hc => ?_) (fun hc => ?_)
  · have hf := oi_t hf hc
    refine x_iconst C (pc := 20) dX8_holes_20 ?_
    have e9 := Option.some.inj hf
    subst e9
    exact hret _ _ _ _ dX8_holes_21 h
  · have hf := oi_f hf hc
    refine lv_aload_n hx hb (pc := 8) dX8_holes_8 rfl (lv_at hl 0 rfl) ?_
    refine lv_aload_n hx hb (pc := 9) dX8_holes_9 rfl (lv_at hl 0 rfl) ?_
    refine x_get C h (pc := 10) xf_X8_25 0 rfl (v := .ref (a 6)) rfl dX8_holes_10 ?_
    refine lv_iload_n hx hb (pc := 13) dX8_holes_13 rfl (lv_at hl 1 rfl) ?_
    obtain ⟨q_3, hq_3, hf⟩ := ob_some hf
    refine x_callVi C h (pc := 14) hl (c_mo_holesOf l D cI cJ cZ cO a (a 6) M_edits M_typed M_readRows M_readColumns q_1.2.1 q_1.2.2.1 q_1.2.2.2.1 q_1.2.2.2.2.1 q_1.2.2.2.2.2.1 M_now q_1.2.2.2.2.2.2.1 M_seen q_1.2.2.2.2.2.2.2.1 l1 N q_3 hq_3) xv_X8_holesOf lk_X8_150 ⟨(Nat.le_of_ble_eq_true rfl), (Nat.le_of_ble_eq_true rfl)⟩ rfl [0, 1, 2, 5, 3] [4] (nw := 6) (wr := [((a 8), aI cI 49 q_1.2.2.2.2.2.2.2.2)]) (as := [(a 0), (a 1), (a 5), (a 6), (a 8), (a 9)]) (ws' := [((a 0), oM a M_edits M_typed M_readRows M_readColumns q_1.2.1 q_1.2.2.1 q_1.2.2.2.1 q_1.2.2.2.2.1 q_1.2.2.2.2.2.1), ((a 1), aI cI 151 M_now), ((a 5), aI cI 49 q_3.2.1), ((a 6), aI cI 49 q_1.2.2.2.2.2.2.2.1), ((a 8), aI cI 49 q_1.2.2.2.2.2.2.2.2), ((a 9), aI cZ 49 q_3.2.2)]) rfl rfl rfl rfl rfl rfl rfl rfl rfl 0 rfl rfl rfl rfl (Nat.le_of_ble_eq_true rfl) dX8_holes_14 (fun H locs h => ?_)
    refine lv_goto hx hb (pc := 17) (tgt := 21) dX8_holes_17 rfl ?_
    have e9 := Option.some.inj hf
    subst e9
    exact hret _ _ _ _ dX8_holes_21 h
abbrev rm_mo_canBeCut : Room := { frames := 6, cells := 0, slots := 0, locals := 142 }
set_option maxHeartbeats 4000000 in
set_option maxRecDepth 100000 in
theorem c_mo_canBeCut (l : Launch) (D : va_G) (cI cJ cZ cO : ClassId) (a : Nat → Nat) (M_edits : Int) (M_typed : Int) (M_readRows : Int) (M_readColumns : Int) (M_top : Int) (M_bottom : Int) (M_left : Int) (M_right : Int) (M_panes : Int) (M_now : Int → Int) (M_queue : Int → Int) (M_pane : Int → Int) (M_size : Int → Int) (M_seen : Int → Int) (l1 : Int) (N : Nat) (Res : Int × Int × Int × Int × Int × Int × (Int → Int) × (Int → Int) × (Int → Int) × (Int → Int)) (hf : f_mo_canBeCut N l1 M_top M_bottom M_left M_right M_panes M_now M_queue M_pane M_size M_seen = some Res) : CoI l D (xT cI cJ cZ cO) yX8_canBeCut cX8_canBeCut 2 (some .int) rm_mo_canBeCut [.ref (a 0), iv l1] [((a 0), oM a M_edits M_typed M_readRows M_readColumns M_top M_bottom M_left M_right M_panes), ((a 1), aI cI 151 M_now), ((a 5), aI cI 49 M_queue), ((a 6), aI cI 49 M_pane), ((a 8), aI cI 49 M_size), ((a 9), aI cZ 49 M_seen)] Res.1 [((a 0), oM a M_edits M_typed M_readRows M_readColumns Res.2.1 Res.2.2.1 Res.2.2.2.1 Res.2.2.2.2.1 Res.2.2.2.2.2.1), ((a 1), aI cI 151 M_now), ((a 5), aI cI 49 Res.2.2.2.2.2.2.1), ((a 6), aI cI 49 Res.2.2.2.2.2.2.2.1), ((a 8), aI cI 49 Res.2.2.2.2.2.2.2.2.1), ((a 9), aI cZ 49 Res.2.2.2.2.2.2.2.2.2)] := by
  refine co_i (by decide) ⟨rfl, rfl⟩ (Nat.le_of_ble_eq_true rfl) ?_
  intro p e s m args below meth c A Q ls C hret hl h
  have hx := C.1.1
  have hb := C.1.2.1
  have hl : lv_has ls 2 [(0, .ref (a 0)), (1, iv l1)] := hl
  unfold f_mo_canBeCut at hf
  refine lv_aload_n hx hb (pc := 0) dX8_canBeCut_0 rfl (lv_at hl 0 rfl) ?_
  refine lv_iload_n hx hb (pc := 1) dX8_canBeCut_1 rfl (lv_at hl 1 rfl) ?_
  obtain ⟨q_1, hq_1, hf⟩ := ob_some hf
  refine x_callVi C h (pc := 2) hl (c_mo_isPane l D cI cJ cZ cO a M_edits M_typed M_readRows M_readColumns M_top M_bottom M_left M_right M_panes M_now M_queue M_pane M_size l1 N q_1 hq_1) xv_X8_isPane lk_X8_156 ⟨(Nat.le_of_ble_eq_true rfl), (Nat.le_of_ble_eq_true rfl)⟩ rfl [0, 1, 2, 3, 4] [5] (nw := 6) (wr := [((a 9), aI cZ 49 M_seen)]) (as := [(a 0), (a 1), (a 5), (a 6), (a 8), (a 9)]) (ws' := [((a 0), oM a M_edits M_typed M_readRows M_readColumns q_1.2.1 q_1.2.2.1 q_1.2.2.2.1 q_1.2.2.2.2.1 q_1.2.2.2.2.2.1), ((a 1), aI cI 151 M_now), ((a 5), aI cI 49 q_1.2.2.2.2.2.2.1), ((a 6), aI cI 49 q_1.2.2.2.2.2.2.2.1), ((a 8), aI cI 49 q_1.2.2.2.2.2.2.2.2), ((a 9), aI cZ 49 M_seen)]) rfl rfl rfl rfl rfl rfl rfl rfl rfl 0 rfl rfl rfl rfl (Nat.le_of_ble_eq_true rfl) dX8_canBeCut_2 (fun H locs h => ?_)
  obtain ⟨g_2, hf⟩ := og_some hf
  refine x_ifne C (pc := 5) (tgt := 12) g_2 dX8_canBeCut_5 rfl (fun hc => ?_) (fun hc => ?_)
  · have hf := oi_f hf hc
    refine lv_aload_n hx hb (pc := 12) dX8_canBeCut_12 rfl (lv_at hl 0 rfl) ?_
    refine lv_iload_n hx hb (pc := 13) dX8_canBeCut_13 rfl (lv_at hl 1 rfl) ?_
    obtain ⟨q_3, hq_3, hf⟩ := ob_some hf
    refine x_callVi C h (pc := 14) hl (c_mo_canCut l D cI cJ cZ cO a M_edits M_typed M_readRows M_readColumns q_1.2.1 q_1.2.2.1 q_1.2.2.2.1 q_1.2.2.2.2.1 q_1.2.2.2.2.2.1 M_now q_1.2.2.2.2.2.2.1 q_1.2.2.2.2.2.2.2.1 q_1.2.2.2.2.2.2.2.2 M_seen l1 N q_3 hq_3) xv_X8_canCut lk_X8_159 ⟨(Nat.le_of_ble_eq_true rfl), (Nat.le_of_ble_eq_true rfl)⟩ rfl [0, 1, 2, 3, 4, 5] [] (nw := 6) (wr := []) (as := [(a 0), (a 1), (a 5), (a 6), (a 8), (a 9)]) (ws' := [((a 0), oM a M_edits M_typed M_readRows M_readColumns q_1.2.1 q_1.2.2.1 q_1.2.2.2.1 q_1.2.2.2.2.1 q_1.2.2.2.2.2.1), ((a 1), aI cI 151 M_now), ((a 5), aI cI 49 q_3.2.1), ((a 6), aI cI 49 q_1.2.2.2.2.2.2.2.1), ((a 8), aI cI 49 q_1.2.2.2.2.2.2.2.2), ((a 9), aI cZ 49 q_3.2.2)]) rfl rfl rfl rfl rfl rfl rfl rfl rfl 0 rfl rfl rfl rfl (Nat.le_of_ble_eq_true rfl) dX8_canBeCut_14 (fun H locs h => ?_)
    obtain ⟨g_4, hf⟩ := og_some hf
    refine x_ifeq C (pc := 17) (tgt := 24) g_4 dX8_canBeCut_17 rfl (fun hc => ?_) (fun hc => ?_)
    · have hf := oi_t hf hc
      refine x_iconst C (pc := 24) dX8_canBeCut_24 ?_
      have e9 := Option.some.inj hf
      subst e9
      exact hret _ _ _ _ dX8_canBeCut_25 h
    · have hf := oi_f hf hc
      refine x_iconst C (pc := 20) dX8_canBeCut_20 ?_
      refine lv_goto hx hb (pc := 21) (tgt := 25) dX8_canBeCut_21 rfl ?_
      have e9 := Option.some.inj hf
      subst e9
      exact hret _ _ _ _ dX8_canBeCut_25 h
  · have hf := oi_t hf hc
    refine x_iconst C (pc := 8) dX8_canBeCut_8 ?_
    refine lv_goto hx hb (pc := 9) (tgt := 25) dX8_canBeCut_9 rfl ?_
    have e9 := Option.some.inj hf
    subst e9
    exact hret _ _ _ _ dX8_canBeCut_25 h
abbrev rm_mo_cuttableCount : Room := { frames := 6, cells := 0, slots := 0, locals := 142 }
set_option maxHeartbeats 4000000 in
set_option maxRecDepth 100000 in
theorem w_mo_cuttableCount_8 {p : Program} {l : Launch} {e : Env} {s : State} {m : MethodId} {args : Array Value} {below : List Frame} {meth : Method} {c : Code} {Q : State → Prop} {D : va_G} {cI cJ cZ cO : ClassId} {A : Nat → Prop} {H0 : Heap} {w0 : Cond} (C : XC p s m args c cX8_cuttableCount 3 RX8 w0 D (xT cI cJ cZ cO)) (a : Nat → Nat) (M_edits : Int) (M_typed : Int) (M_readRows : Int) (M_readColumns : Int) (M_now : Int → Int) (Res : Int × Int × Int × Int × Int × Int × (Int → Int) × (Int → Int) × (Int → Int) × (Int → Int)) (hret : XRI p l e rm_mo_cuttableCount s m args below meth c cX8_cuttableCount D A H0 Q Res.1 [((a 0), oM a M_edits M_typed M_readRows M_readColumns Res.2.1 Res.2.2.1 Res.2.2.2.1 Res.2.2.2.2.1 Res.2.2.2.2.2.1), ((a 1), aI cI 151 M_now), ((a 5), aI cI 49 Res.2.2.2.2.2.2.1), ((a 6), aI cI 49 Res.2.2.2.2.2.2.2.1), ((a 8), aI cI 49 Res.2.2.2.2.2.2.2.2.1), ((a 9), aI cZ 49 Res.2.2.2.2.2.2.2.2.2)]) (N : Nat) (M_top : Int) (M_bottom : Int) (M_left : Int) (M_right : Int) (M_panes : Int) (M_pane : Int → Int) (M_size : Int → Int) : ∀ (n : Nat) (l1 : Int) (l2 : Int) (M_queue : Int → Int) (M_seen : Int → Int) (ls : Array Slot) (H : Heap) (locs : List Loc), lv_has ls 3 [(0, .ref (a 0)), (1, iv l1), (2, iv l2)] → XH D A H0 [((a 0), oM a M_edits M_typed M_readRows M_readColumns M_top M_bottom M_left M_right M_panes), ((a 1), aI cI 151 M_now), ((a 5), aI cI 49 M_queue), ((a 6), aI cI 49 M_pane), ((a 8), aI cI 49 M_size), ((a 9), aI cZ 49 M_seen)] H locs → f_mo_cuttableCount_8 N M_top M_bottom M_left M_right M_panes M_pane M_size M_now n l1 l2 M_queue M_seen = some Res → W p l e rm_mo_cuttableCount s m args below meth c H locs 0 0 Q (F0 m 8 ls []) := by
  have hx := C.1.1
  have hb := C.1.2.1
  intro n
  induction n with
  | zero => intro l1 l2 M_queue M_seen ls H locs hl h hf; cases hf
  | succ n ih =>
    intro l1 l2 M_queue M_seen ls H locs hl h hf
    rw [f_mo_cuttableCount_8.eq_2] at hf
    refine lv_iload_n hx hb (pc := 8) dX8_cuttableCount_8 rfl (lv_at hl 2 rfl) ?_
    refine lv_aload_n hx hb (pc := 9) dX8_cuttableCount_9 rfl (lv_at hl 0 rfl) ?_
    refine x_get C h (pc := 10) xf_X8_92 0 rfl (v := iv M_panes) rfl dX8_cuttableCount_10 ?_
    obtain ⟨g_10, hf⟩ := og_some hf
    obtain ⟨g_11, hf⟩ := og_some hf
    refine x_icmpge C (pc := 13) (tgt := 38) g_10 g_11 dX8_cuttableCount_13 rfl (fun hc => ?_) (fun hc => ?_)
    · have hf := oi_t hf hc
      refine lv_iload_n hx hb (pc := 38) dX8_cuttableCount_38 rfl (lv_at hl 1 rfl) ?_
      have e9 := Option.some.inj hf
      subst e9
      exact hret _ _ _ _ dX8_cuttableCount_39 h
    · have hf := oi_f hf hc
      refine lv_iload_n hx hb (pc := 16) dX8_cuttableCount_16 rfl (lv_at hl 1 rfl) ?_
      refine lv_aload_n hx hb (pc := 17) dX8_cuttableCount_17 rfl (lv_at hl 0 rfl) ?_
      refine lv_iload_n hx hb (pc := 18) dX8_cuttableCount_18 rfl (lv_at hl 2 rfl) ?_
      obtain ⟨q_12, hq_12, hf⟩ := ob_some hf
      refine x_callVi C h (pc := 19) hl (c_mo_canCut l D cI cJ cZ cO a M_edits M_typed M_readRows M_readColumns M_top M_bottom M_left M_right M_panes M_now M_queue M_pane M_size M_seen l2 N q_12 hq_12) xv_X8_canCut lk_X8_159 ⟨(Nat.le_of_ble_eq_true rfl), (Nat.le_of_ble_eq_true rfl)⟩ rfl [0, 1, 2, 3, 4, 5] [] (nw := 6) (wr := []) (as := [(a 0), (a 1), (a 5), (a 6), (a 8), (a 9)]) (ws' := [((a 0), oM a M_edits M_typed M_readRows M_readColumns M_top M_bottom M_left M_right M_panes), ((a 1), aI cI 151 M_now), ((a 5), aI cI 49 q_12.2.1), ((a 6), aI cI 49 M_pane), ((a 8), aI cI 49 M_size), ((a 9), aI cZ 49 q_12.2.2)]) rfl rfl rfl rfl rfl rfl rfl rfl rfl 0 rfl rfl rfl rfl (Nat.le_of_ble_eq_true rfl) dX8_cuttableCount_19 (fun H locs h => ?_)
      obtain ⟨g_13, hf⟩ := og_some hf
      obtain ⟨r_14, hrr_14, hf⟩ := ob_some hf
      have Jr_14 : ∀ (ls : Array Slot) (H : Heap) (locs : List Loc), lv_has ls 3 [(0, .ref (a 0)), (2, iv l2)] → XH D A H0 [((a 0), oM a M_edits M_typed M_readRows M_readColumns M_top M_bottom M_left M_right M_panes), ((a 1), aI cI 151 M_now), ((a 5), aI cI 49 q_12.2.1), ((a 6), aI cI 49 M_pane), ((a 8), aI cI 49 M_size), ((a 9), aI cZ 49 q_12.2.2)] H locs → W p l e rm_mo_cuttableCount s m args below meth c H locs 0 0 Q (F0 m 30 ls [iv r_14, iv l1]) := by
        intro ls H locs hl h
        refine x_iadd C (pc := 30) dX8_cuttableCount_30 ?_
        obtain ⟨l1_15, el1_15, hf⟩ := ol_some hf
        refine x_topi el1_15 ?_
        refine lv_istore_n hx hb (pc := 31) (lv' := [(1, iv l1_15), (0, .ref (a 0)), (2, iv l2)]) dX8_cuttableCount_31 rfl hl (Nat.le_of_ble_eq_true rfl) rfl (fun ls hl => ?_)
        obtain ⟨l2_16, el2_16, hf⟩ := ol_some hf
        refine x_iinc C (pc := 32) (k := 2) (lw' := [(2, iv l2_16), (1, iv l1_15), (0, .ref (a 0))]) dX8_cuttableCount_32 hl rfl el2_16 (Nat.le_of_ble_eq_true rfl) rfl (fun ls hl => ?_)
        refine lv_goto hx hb (pc := 35) (tgt := 8) dX8_cuttableCount_35 rfl ?_
        exact ih l1_15 l2_16 q_12.2.1 q_12.2.2 _ _ _ (lv_sub hl [2, 1, 0] rfl) h hf
      clear hf
      have hf := hrr_14
      refine x_ifeq C (pc := 22) (tgt := 29) g_13 dX8_cuttableCount_22 rfl (fun hc => ?_) (fun hc => ?_)
      · have hf := oi_t hf hc
        refine x_iconst C (pc := 29) dX8_cuttableCount_29 ?_
        have e9 := Option.some.inj hf
        subst e9
        exact Jr_14 _ _ _ (lv_sub hl [0, 2] rfl) h
      · have hf := oi_f hf hc
        refine x_iconst C (pc := 25) dX8_cuttableCount_25 ?_
        refine lv_goto hx hb (pc := 26) (tgt := 30) dX8_cuttableCount_26 rfl ?_
        have e9 := Option.some.inj hf
        subst e9
        exact Jr_14 _ _ _ (lv_sub hl [0, 2] rfl) h
set_option maxHeartbeats 4000000 in
set_option maxRecDepth 100000 in
theorem c_mo_cuttableCount (l : Launch) (D : va_G) (cI cJ cZ cO : ClassId) (a : Nat → Nat) (M_edits : Int) (M_typed : Int) (M_readRows : Int) (M_readColumns : Int) (M_top : Int) (M_bottom : Int) (M_left : Int) (M_right : Int) (M_panes : Int) (M_now : Int → Int) (M_queue : Int → Int) (M_pane : Int → Int) (M_size : Int → Int) (M_seen : Int → Int) (N : Nat) (Res : Int × Int × Int × Int × Int × Int × (Int → Int) × (Int → Int) × (Int → Int) × (Int → Int)) (hf : f_mo_cuttableCount N M_top M_bottom M_left M_right M_panes M_now M_queue M_pane M_size M_seen = some Res) : CoI l D (xT cI cJ cZ cO) yX8_cuttableCount cX8_cuttableCount 3 (some .int) rm_mo_cuttableCount [.ref (a 0)] [((a 0), oM a M_edits M_typed M_readRows M_readColumns M_top M_bottom M_left M_right M_panes), ((a 1), aI cI 151 M_now), ((a 5), aI cI 49 M_queue), ((a 6), aI cI 49 M_pane), ((a 8), aI cI 49 M_size), ((a 9), aI cZ 49 M_seen)] Res.1 [((a 0), oM a M_edits M_typed M_readRows M_readColumns Res.2.1 Res.2.2.1 Res.2.2.2.1 Res.2.2.2.2.1 Res.2.2.2.2.2.1), ((a 1), aI cI 151 M_now), ((a 5), aI cI 49 Res.2.2.2.2.2.2.1), ((a 6), aI cI 49 Res.2.2.2.2.2.2.2.1), ((a 8), aI cI 49 Res.2.2.2.2.2.2.2.2.1), ((a 9), aI cZ 49 Res.2.2.2.2.2.2.2.2.2)] := by
  refine co_i (by decide) ⟨rfl, rfl⟩ (Nat.le_of_ble_eq_true rfl) ?_
  intro p e s m args below meth c A Q ls C hret hl h
  have hx := C.1.1
  have hb := C.1.2.1
  have hl : lv_has ls 3 [(0, .ref (a 0))] := hl
  unfold f_mo_cuttableCount at hf
  refine lv_aload_n hx hb (pc := 0) dX8_cuttableCount_0 rfl (lv_at hl 0 rfl) ?_
  obtain ⟨q_9, hq_9, hf⟩ := ob_some hf
  refine x_callVv C h (pc := 1) hl (c_mo_findPanes l D cI cJ cZ cO a M_edits M_typed M_readRows M_readColumns M_top M_bottom M_left M_right M_panes M_now M_queue M_pane M_size N q_9 hq_9) xv_X8_findPanes lk_X8_89 ⟨(Nat.le_of_ble_eq_true rfl), (Nat.le_of_ble_eq_true rfl)⟩ rfl [0, 1, 2, 3, 4] [5] (nw := 6) (wr := [((a 9), aI cZ 49 M_seen)]) (as := [(a 0), (a 1), (a 5), (a 6), (a 8), (a 9)]) (ws' := [((a 0), oM a M_edits M_typed M_readRows M_readColumns q_9.1 q_9.2.1 q_9.2.2.1 q_9.2.2.2.1 q_9.2.2.2.2.1), ((a 1), aI cI 151 M_now), ((a 5), aI cI 49 q_9.2.2.2.2.2.1), ((a 6), aI cI 49 q_9.2.2.2.2.2.2.1), ((a 8), aI cI 49 q_9.2.2.2.2.2.2.2), ((a 9), aI cZ 49 M_seen)]) rfl rfl rfl rfl rfl rfl rfl rfl rfl 0 rfl rfl rfl rfl (Nat.le_of_ble_eq_true rfl) dX8_cuttableCount_1 (fun H locs h => ?_)
  refine x_iconst C (pc := 4) dX8_cuttableCount_4 ?_
  refine lv_istore_n hx hb (pc := 5) (lv' := [(1, iv 0), (0, .ref (a 0))]) dX8_cuttableCount_5 rfl hl (Nat.le_of_ble_eq_true rfl) rfl (fun ls hl => ?_)
  refine x_iconst C (pc := 6) dX8_cuttableCount_6 ?_
  refine lv_istore_n hx hb (pc := 7) (lv' := [(2, iv 0), (1, iv 0), (0, .ref (a 0))]) dX8_cuttableCount_7 rfl hl (Nat.le_of_ble_eq_true rfl) rfl (fun ls hl => ?_)
  exact w_mo_cuttableCount_8 C a M_edits M_typed M_readRows M_readColumns M_now Res hret N q_9.1 q_9.2.1 q_9.2.2.1 q_9.2.2.2.1 q_9.2.2.2.2.1 q_9.2.2.2.2.2.2.1 q_9.2.2.2.2.2.2.2 N 0 0 q_9.2.2.2.2.2.1 M_seen _ _ _ (lv_sub hl [2, 1, 0] rfl) h hf
abbrev rm_mo_isLoose : Room := { frames := 1, cells := 0, slots := 0, locals := 20 }
set_option maxHeartbeats 4000000 in
set_option maxRecDepth 100000 in
theorem c_mo_isLoose (l : Launch) (D : va_G) (cI cJ cZ cO : ClassId) (a : Nat → Nat) (M_edits : Int) (M_typed : Int) (M_readRows : Int) (M_readColumns : Int) (M_top : Int) (M_bottom : Int) (M_left : Int) (M_right : Int) (M_panes : Int) (M_now : Int → Int) (M_pane : Int → Int) (l1 : Int) (N : Nat) (Res : Int) (hf : f_mo_isLoose N l1 M_now M_pane = some Res) : CoI l D (xT cI cJ cZ cO) yX8_isLoose cX8_isLoose 3 (some .boolean) rm_mo_isLoose [.ref (a 0), iv l1] [((a 0), oM a M_edits M_typed M_readRows M_readColumns M_top M_bottom M_left M_right M_panes), ((a 1), aI cI 151 M_now), ((a 6), aI cI 49 M_pane)] Res [((a 0), oM a M_edits M_typed M_readRows M_readColumns M_top M_bottom M_left M_right M_panes), ((a 1), aI cI 151 M_now), ((a 6), aI cI 49 M_pane)] := by
  refine co_z (by decide) ⟨rfl, rfl⟩ (Nat.le_of_ble_eq_true rfl) ?_
  intro p e s m args below meth c A Q ls C hret hl h
  have hx := C.1.1
  have hb := C.1.2.1
  have hl : lv_has ls 3 [(0, .ref (a 0)), (1, iv l1)] := hl
  unfold f_mo_isLoose at hf
  refine lv_iload_n hx hb (pc := 0) dX8_isLoose_0 rfl (lv_at hl 1 rfl) ?_
  refine x_bipush C (pc := 1) dX8_isLoose_1 (by decide) ?_
  obtain ⟨g_1, hf⟩ := og_some hf
  refine x_irem C (pc := 3) g_1 ⟨by decide, by decide⟩ dX8_isLoose_3 ?_
  obtain ⟨l2_2, el2_2, hf⟩ := ol_some hf
  refine x_topi el2_2 ?_
  refine lv_istore_n hx hb (pc := 4) (lv' := [(2, iv l2_2), (0, .ref (a 0)), (1, iv l1)]) dX8_isLoose_4 rfl hl (Nat.le_of_ble_eq_true rfl) rfl (fun ls hl => ?_)
  refine lv_aload_n hx hb (pc := 5) dX8_isLoose_5 rfl (lv_at hl 1 rfl) ?_
  refine x_get C h (pc := 6) xf_X8_7 0 rfl (v := .ref (a 1)) rfl dX8_isLoose_6 ?_
  refine x_bipush C (pc := 9) dX8_isLoose_9 (by decide) ?_
  refine lv_iload_n hx hb (pc := 11) dX8_isLoose_11 rfl (lv_at hl 2 rfl) ?_
  refine x_iadd C (pc := 12) dX8_isLoose_12 ?_
  obtain ⟨g_3, hf⟩ := og_some hf
  refine x_iald C h (pc := 13) 1 0 rfl rfl (Nat.le_of_ble_eq_true rfl) g_3 dX8_isLoose_13 ?_
  refine x_iconst C (pc := 14) dX8_isLoose_14 ?_
  obtain ⟨g_4, hf⟩ := og_some hf
  refine x_icmpne C (pc := 15) (tgt := 45) g_4 ⟨by decide, by decide⟩ dX8_isLoose_15 rfl (fun hc => ?_) (fun hc => ?_)
  · have hf := oi_f hf hc
    refine x_iconst C (pc := 45) dX8_isLoose_45 ?_
    have e9 := Option.some.inj hf
    subst e9
    exact hret _ _ _ _ (Or.inl rfl) dX8_isLoose_46 h
  · have hf := oi_t hf hc
    refine lv_aload_n hx hb (pc := 18) dX8_isLoose_18 rfl (lv_at hl 1 rfl) ?_
    refine x_get C h (pc := 19) xf_X8_25 0 rfl (v := .ref (a 6)) rfl dX8_isLoose_19 ?_
    refine lv_iload_n hx hb (pc := 22) dX8_isLoose_22 rfl (lv_at hl 0 rfl) ?_
    obtain ⟨g_5, hf⟩ := og_some hf
    refine x_iald C h (pc := 23) 2 0 rfl rfl (Nat.le_of_ble_eq_true rfl) g_5 dX8_isLoose_23 ?_
    refine lv_aload_n hx hb (pc := 24) dX8_isLoose_24 rfl (lv_at hl 1 rfl) ?_
    refine x_get C h (pc := 25) xf_X8_25 0 rfl (v := .ref (a 6)) rfl dX8_isLoose_25 ?_
    refine lv_iload_n hx hb (pc := 28) dX8_isLoose_28 rfl (lv_at hl 0 rfl) ?_
    refine lv_iload_n hx hb (pc := 29) dX8_isLoose_29 rfl (lv_at hl 2 rfl) ?_
    refine x_bipush C (pc := 30) dX8_isLoose_30 (by decide) ?_
    refine x_idiv C (pc := 32) g_1 ⟨by decide, by decide⟩ dX8_isLoose_32 ?_
    obtain ⟨q_6, hq_6, hf⟩ := ob_some hf
    refine x_callSi C h (pc := 33) hl (c_mo_step l D cI cJ cZ cO a (l1 / 49) N q_6 hq_6) xs_X8_step lk_X8_106 ⟨(Nat.le_of_ble_eq_true rfl), (Nat.le_of_ble_eq_true rfl)⟩ rfl [] [0, 1, 2] (nw := 3) (wr := [((a 0), oM a M_edits M_typed M_readRows M_readColumns M_top M_bottom M_left M_right M_panes), ((a 1), aI cI 151 M_now), ((a 6), aI cI 49 M_pane)]) (as := [(a 0), (a 1), (a 6)]) (ws' := [((a 0), oM a M_edits M_typed M_readRows M_readColumns M_top M_bottom M_left M_right M_panes), ((a 1), aI cI 151 M_now), ((a 6), aI cI 49 M_pane)]) rfl rfl rfl rfl rfl rfl rfl rfl rfl rfl (Nat.le_of_ble_eq_true rfl) dX8_isLoose_33 (fun H locs h => ?_)
    refine x_iadd C (pc := 36) dX8_isLoose_36 ?_
    obtain ⟨g_7, hf⟩ := og_some hf
    refine x_iald C h (pc := 37) 2 0 rfl rfl (Nat.le_of_ble_eq_true rfl) g_7 dX8_isLoose_37 ?_
    obtain ⟨g_8, hf⟩ := og_some hf
    obtain ⟨g_9, hf⟩ := og_some hf
    refine x_icmpne C (pc := 38) (tgt := 45) g_8 g_9 dX8_isLoose_38 rfl (fun hc => ?_) (fun hc => ?_)
    · have hf := oi_f hf hc
      refine x_iconst C (pc := 45) dX8_isLoose_45 ?_
      have e9 := Option.some.inj hf
      subst e9
      exact hret _ _ _ _ (Or.inl rfl) dX8_isLoose_46 h
    · have hf := oi_t hf hc
      refine x_iconst C (pc := 41) dX8_isLoose_41 ?_
      refine lv_goto hx hb (pc := 42) (tgt := 46) dX8_isLoose_42 rfl ?_
      have e9 := Option.some.inj hf
      subst e9
      exact hret _ _ _ _ (Or.inr rfl) dX8_isLoose_46 h
abbrev rm_mo_looseCuts : Room := { frames := 4, cells := 0, slots := 0, locals := 95 }
set_option maxHeartbeats 4000000 in
set_option maxRecDepth 100000 in
theorem w_mo_looseCuts_8 {p : Program} {l : Launch} {e : Env} {s : State} {m : MethodId} {args : Array Value} {below : List Frame} {meth : Method} {c : Code} {Q : State → Prop} {D : va_G} {cI cJ cZ cO : ClassId} {A : Nat → Prop} {H0 : Heap} {w0 : Cond} (C : XC p s m args c cX8_looseCuts 3 RX8 w0 D (xT cI cJ cZ cO)) (a : Nat → Nat) (M_edits : Int) (M_typed : Int) (M_readRows : Int) (M_readColumns : Int) (M_now : Int → Int) (Res : Int × Int × Int × Int × Int × Int × (Int → Int) × (Int → Int) × (Int → Int)) (hret : XRI p l e rm_mo_looseCuts s m args below meth c cX8_looseCuts D A H0 Q Res.1 [((a 0), oM a M_edits M_typed M_readRows M_readColumns Res.2.1 Res.2.2.1 Res.2.2.2.1 Res.2.2.2.2.1 Res.2.2.2.2.2.1), ((a 1), aI cI 151 M_now), ((a 5), aI cI 49 Res.2.2.2.2.2.2.1), ((a 6), aI cI 49 Res.2.2.2.2.2.2.2.1), ((a 8), aI cI 49 Res.2.2.2.2.2.2.2.2)]) (N : Nat) (M_top : Int) (M_bottom : Int) (M_left : Int) (M_right : Int) (M_panes : Int) (M_queue : Int → Int) (M_pane : Int → Int) (M_size : Int → Int) : ∀ (n : Nat) (l1 : Int) (l2 : Int) (ls : Array Slot) (H : Heap) (locs : List Loc), lv_has ls 3 [(0, .ref (a 0)), (1, iv l1), (2, iv l2)] → XH D A H0 [((a 0), oM a M_edits M_typed M_readRows M_readColumns M_top M_bottom M_left M_right M_panes), ((a 1), aI cI 151 M_now), ((a 5), aI cI 49 M_queue), ((a 6), aI cI 49 M_pane), ((a 8), aI cI 49 M_size)] H locs → f_mo_looseCuts_8 N M_top M_bottom M_left M_right M_panes M_queue M_pane M_size M_now n l1 l2 = some Res → W p l e rm_mo_looseCuts s m args below meth c H locs 0 0 Q (F0 m 8 ls []) := by
  have hx := C.1.1
  have hb := C.1.2.1
  intro n
  induction n with
  | zero => intro l1 l2 ls H locs hl h hf; cases hf
  | succ n ih =>
    intro l1 l2 ls H locs hl h hf
    rw [f_mo_looseCuts_8.eq_2] at hf
    refine lv_iload_n hx hb (pc := 8) dX8_looseCuts_8 rfl (lv_at hl 2 rfl) ?_
    refine x_bipush C (pc := 9) dX8_looseCuts_9 (by decide) ?_
    obtain ⟨g_9, hf⟩ := og_some hf
    refine x_icmpge C (pc := 11) (tgt := 36) g_9 ⟨by decide, by decide⟩ dX8_looseCuts_11 rfl (fun hc => ?_) (fun hc => ?_)
    · have hf := oi_t hf hc
      refine lv_iload_n hx hb (pc := 36) dX8_looseCuts_36 rfl (lv_at hl 1 rfl) ?_
      have e9 := Option.some.inj hf
      subst e9
      exact hret _ _ _ _ dX8_looseCuts_37 h
    · have hf := oi_f hf hc
      refine lv_iload_n hx hb (pc := 14) dX8_looseCuts_14 rfl (lv_at hl 1 rfl) ?_
      refine lv_aload_n hx hb (pc := 15) dX8_looseCuts_15 rfl (lv_at hl 0 rfl) ?_
      refine lv_iload_n hx hb (pc := 16) dX8_looseCuts_16 rfl (lv_at hl 2 rfl) ?_
      obtain ⟨q_10, hq_10, hf⟩ := ob_some hf
      refine x_callVi C h (pc := 17) hl (c_mo_isLoose l D cI cJ cZ cO a M_edits M_typed M_readRows M_readColumns M_top M_bottom M_left M_right M_panes M_now M_pane l2 N q_10 hq_10) xv_X8_isLoose lk_X8_162 ⟨(Nat.le_of_ble_eq_true rfl), (Nat.le_of_ble_eq_true rfl)⟩ rfl [0, 1, 3] [2, 4] (nw := 5) (wr := [((a 5), aI cI 49 M_queue), ((a 8), aI cI 49 M_size)]) (as := [(a 0), (a 1), (a 5), (a 6), (a 8)]) (ws' := [((a 0), oM a M_edits M_typed M_readRows M_readColumns M_top M_bottom M_left M_right M_panes), ((a 1), aI cI 151 M_now), ((a 5), aI cI 49 M_queue), ((a 6), aI cI 49 M_pane), ((a 8), aI cI 49 M_size)]) rfl rfl rfl rfl rfl rfl rfl rfl rfl 0 rfl rfl rfl rfl (Nat.le_of_ble_eq_true rfl) dX8_looseCuts_17 (fun H locs h => ?_)
      obtain ⟨g_11, hf⟩ := og_some hf
      obtain ⟨r_12, hrr_12, hf⟩ := ob_some hf
      have Jr_12 : ∀ (ls : Array Slot) (H : Heap) (locs : List Loc), lv_has ls 3 [(0, .ref (a 0)), (2, iv l2)] → XH D A H0 [((a 0), oM a M_edits M_typed M_readRows M_readColumns M_top M_bottom M_left M_right M_panes), ((a 1), aI cI 151 M_now), ((a 5), aI cI 49 M_queue), ((a 6), aI cI 49 M_pane), ((a 8), aI cI 49 M_size)] H locs → W p l e rm_mo_looseCuts s m args below meth c H locs 0 0 Q (F0 m 28 ls [iv r_12, iv l1]) := by
        intro ls H locs hl h
        refine x_iadd C (pc := 28) dX8_looseCuts_28 ?_
        obtain ⟨l1_13, el1_13, hf⟩ := ol_some hf
        refine x_topi el1_13 ?_
        refine lv_istore_n hx hb (pc := 29) (lv' := [(1, iv l1_13), (0, .ref (a 0)), (2, iv l2)]) dX8_looseCuts_29 rfl hl (Nat.le_of_ble_eq_true rfl) rfl (fun ls hl => ?_)
        obtain ⟨l2_14, el2_14, hf⟩ := ol_some hf
        refine x_iinc C (pc := 30) (k := 2) (lw' := [(2, iv l2_14), (1, iv l1_13), (0, .ref (a 0))]) dX8_looseCuts_30 hl rfl el2_14 (Nat.le_of_ble_eq_true rfl) rfl (fun ls hl => ?_)
        refine lv_goto hx hb (pc := 33) (tgt := 8) dX8_looseCuts_33 rfl ?_
        exact ih l1_13 l2_14 _ _ _ (lv_sub hl [2, 1, 0] rfl) h hf
      clear hf
      have hf := hrr_12
      refine x_ifeq C (pc := 20) (tgt := 27) g_11 dX8_looseCuts_20 rfl (fun hc => ?_) (fun hc => ?_)
      · have hf := oi_t hf hc
        refine x_iconst C (pc := 27) dX8_looseCuts_27 ?_
        have e9 := Option.some.inj hf
        subst e9
        exact Jr_12 _ _ _ (lv_sub hl [0, 2] rfl) h
      · have hf := oi_f hf hc
        refine x_iconst C (pc := 23) dX8_looseCuts_23 ?_
        refine lv_goto hx hb (pc := 24) (tgt := 28) dX8_looseCuts_24 rfl ?_
        have e9 := Option.some.inj hf
        subst e9
        exact Jr_12 _ _ _ (lv_sub hl [0, 2] rfl) h
set_option maxHeartbeats 4000000 in
set_option maxRecDepth 100000 in
theorem c_mo_looseCuts (l : Launch) (D : va_G) (cI cJ cZ cO : ClassId) (a : Nat → Nat) (M_edits : Int) (M_typed : Int) (M_readRows : Int) (M_readColumns : Int) (M_top : Int) (M_bottom : Int) (M_left : Int) (M_right : Int) (M_panes : Int) (M_now : Int → Int) (M_queue : Int → Int) (M_pane : Int → Int) (M_size : Int → Int) (N : Nat) (Res : Int × Int × Int × Int × Int × Int × (Int → Int) × (Int → Int) × (Int → Int)) (hf : f_mo_looseCuts N M_top M_bottom M_left M_right M_panes M_now M_queue M_pane M_size = some Res) : CoI l D (xT cI cJ cZ cO) yX8_looseCuts cX8_looseCuts 3 (some .int) rm_mo_looseCuts [.ref (a 0)] [((a 0), oM a M_edits M_typed M_readRows M_readColumns M_top M_bottom M_left M_right M_panes), ((a 1), aI cI 151 M_now), ((a 5), aI cI 49 M_queue), ((a 6), aI cI 49 M_pane), ((a 8), aI cI 49 M_size)] Res.1 [((a 0), oM a M_edits M_typed M_readRows M_readColumns Res.2.1 Res.2.2.1 Res.2.2.2.1 Res.2.2.2.2.1 Res.2.2.2.2.2.1), ((a 1), aI cI 151 M_now), ((a 5), aI cI 49 Res.2.2.2.2.2.2.1), ((a 6), aI cI 49 Res.2.2.2.2.2.2.2.1), ((a 8), aI cI 49 Res.2.2.2.2.2.2.2.2)] := by
  refine co_i (by decide) ⟨rfl, rfl⟩ (Nat.le_of_ble_eq_true rfl) ?_
  intro p e s m args below meth c A Q ls C hret hl h
  have hx := C.1.1
  have hb := C.1.2.1
  have hl : lv_has ls 3 [(0, .ref (a 0))] := hl
  unfold f_mo_looseCuts at hf
  refine lv_aload_n hx hb (pc := 0) dX8_looseCuts_0 rfl (lv_at hl 0 rfl) ?_
  obtain ⟨q_8, hq_8, hf⟩ := ob_some hf
  refine x_callVv C h (pc := 1) hl (c_mo_findPanes l D cI cJ cZ cO a M_edits M_typed M_readRows M_readColumns M_top M_bottom M_left M_right M_panes M_now M_queue M_pane M_size N q_8 hq_8) xv_X8_findPanes lk_X8_89 ⟨(Nat.le_of_ble_eq_true rfl), (Nat.le_of_ble_eq_true rfl)⟩ rfl [0, 1, 2, 3, 4] [] (nw := 5) (wr := []) (as := [(a 0), (a 1), (a 5), (a 6), (a 8)]) (ws' := [((a 0), oM a M_edits M_typed M_readRows M_readColumns q_8.1 q_8.2.1 q_8.2.2.1 q_8.2.2.2.1 q_8.2.2.2.2.1), ((a 1), aI cI 151 M_now), ((a 5), aI cI 49 q_8.2.2.2.2.2.1), ((a 6), aI cI 49 q_8.2.2.2.2.2.2.1), ((a 8), aI cI 49 q_8.2.2.2.2.2.2.2)]) rfl rfl rfl rfl rfl rfl rfl rfl rfl 0 rfl rfl rfl rfl (Nat.le_of_ble_eq_true rfl) dX8_looseCuts_1 (fun H locs h => ?_)
  refine x_iconst C (pc := 4) dX8_looseCuts_4 ?_
  refine lv_istore_n hx hb (pc := 5) (lv' := [(1, iv 0), (0, .ref (a 0))]) dX8_looseCuts_5 rfl hl (Nat.le_of_ble_eq_true rfl) rfl (fun ls hl => ?_)
  refine x_iconst C (pc := 6) dX8_looseCuts_6 ?_
  refine lv_istore_n hx hb (pc := 7) (lv' := [(2, iv 0), (1, iv 0), (0, .ref (a 0))]) dX8_looseCuts_7 rfl hl (Nat.le_of_ble_eq_true rfl) rfl (fun ls hl => ?_)
  exact w_mo_looseCuts_8 C a M_edits M_typed M_readRows M_readColumns M_now Res hret N q_8.1 q_8.2.1 q_8.2.2.1 q_8.2.2.2.1 q_8.2.2.2.2.1 q_8.2.2.2.2.2.1 q_8.2.2.2.2.2.2.1 q_8.2.2.2.2.2.2.2 N 0 0 _ _ _ (lv_sub hl [2, 1, 0] rfl) h hf
abbrev rm_mo_removeLooseCuts : Room := { frames := 5, cells := 0, slots := 0, locals := 117 }
set_option maxHeartbeats 4000000 in
set_option maxRecDepth 100000 in
theorem w_mo_removeLooseCuts_18 {p : Program} {l : Launch} {e : Env} {s : State} {m : MethodId} {args : Array Value} {below : List Frame} {meth : Method} {c : Code} {Q : State → Prop} {D : va_G} {cI cJ cZ cO : ClassId} {A : Nat → Prop} {H0 : Heap} {w0 : Cond} (C : XC p s m args c cX8_removeLooseCuts 3 RX8 w0 D (xT cI cJ cZ cO)) (a : Nat → Nat) (M_typed : Int) (M_readRows : Int) (M_readColumns : Int) (Res : Int × Int × Int × Int × Int × Int × Int × (Int → Int) × (Int → Int) × (Int → Int) × (Int → Int) × (Int → Int)) (hret : XRI p l e rm_mo_removeLooseCuts s m args below meth c cX8_removeLooseCuts D A H0 Q Res.1 [((a 0), oM a Res.2.1 M_typed M_readRows M_readColumns Res.2.2.1 Res.2.2.2.1 Res.2.2.2.2.1 Res.2.2.2.2.2.1 Res.2.2.2.2.2.2.1), ((a 1), aI cI 151 Res.2.2.2.2.2.2.2.1), ((a 2), aI cI 1208 Res.2.2.2.2.2.2.2.2.1), ((a 5), aI cI 49 Res.2.2.2.2.2.2.2.2.2.1), ((a 6), aI cI 49 Res.2.2.2.2.2.2.2.2.2.2.1), ((a 8), aI cI 49 Res.2.2.2.2.2.2.2.2.2.2.2)]) (N : Nat) (l1 : Int) (M_edits : Int) (M_top : Int) (M_bottom : Int) (M_left : Int) (M_right : Int) (M_panes : Int) (M_past : Int → Int) (M_queue : Int → Int) (M_pane : Int → Int) (M_size : Int → Int) : ∀ (n : Nat) (l2 : Int) (M_now : Int → Int) (ls : Array Slot) (H : Heap) (locs : List Loc), lv_has ls 3 [(0, .ref (a 0)), (1, iv l1), (2, iv l2)] → XH D A H0 [((a 0), oM a M_edits M_typed M_readRows M_readColumns M_top M_bottom M_left M_right M_panes), ((a 1), aI cI 151 M_now), ((a 2), aI cI 1208 M_past), ((a 5), aI cI 49 M_queue), ((a 6), aI cI 49 M_pane), ((a 8), aI cI 49 M_size)] H locs → f_mo_removeLooseCuts_18 N l1 M_edits M_top M_bottom M_left M_right M_panes M_past M_queue M_pane M_size n l2 M_now = some Res → W p l e rm_mo_removeLooseCuts s m args below meth c H locs 0 0 Q (F0 m 18 ls []) := by
  have hx := C.1.1
  have hb := C.1.2.1
  intro n
  induction n with
  | zero => intro l2 M_now ls H locs hl h hf; cases hf
  | succ n ih =>
    intro l2 M_now ls H locs hl h hf
    rw [f_mo_removeLooseCuts_18.eq_2] at hf
    refine lv_iload_n hx hb (pc := 18) dX8_removeLooseCuts_18 rfl (lv_at hl 2 rfl) ?_
    refine x_bipush C (pc := 19) dX8_removeLooseCuts_19 (by decide) ?_
    obtain ⟨g_15, hf⟩ := og_some hf
    refine x_icmpge C (pc := 21) (tgt := 60) g_15 ⟨by decide, by decide⟩ dX8_removeLooseCuts_21 rfl (fun hc => ?_) (fun hc => ?_)
    · have hf := oi_t hf hc
      refine lv_iload_n hx hb (pc := 60) dX8_removeLooseCuts_60 rfl (lv_at hl 1 rfl) ?_
      have e9 := Option.some.inj hf
      subst e9
      exact hret _ _ _ _ dX8_removeLooseCuts_61 h
    · have hf := oi_f hf hc
      refine lv_aload_n hx hb (pc := 24) dX8_removeLooseCuts_24 rfl (lv_at hl 0 rfl) ?_
      refine x_get C h (pc := 25) xf_X8_7 0 rfl (v := .ref (a 1)) rfl dX8_removeLooseCuts_25 ?_
      refine x_bipush C (pc := 28) dX8_removeLooseCuts_28 (by decide) ?_
      refine lv_iload_n hx hb (pc := 30) dX8_removeLooseCuts_30 rfl (lv_at hl 2 rfl) ?_
      refine x_iadd C (pc := 31) dX8_removeLooseCuts_31 ?_
      refine lv_aload_n hx hb (pc := 32) dX8_removeLooseCuts_32 rfl (lv_at hl 0 rfl) ?_
      refine lv_iload_n hx hb (pc := 33) dX8_removeLooseCuts_33 rfl (lv_at hl 2 rfl) ?_
      obtain ⟨q_16, hq_16, hf⟩ := ob_some hf
      refine x_callVi C h (pc := 34) hl (c_mo_isLoose l D cI cJ cZ cO a M_edits M_typed M_readRows M_readColumns M_top M_bottom M_left M_right M_panes M_now M_pane l2 N q_16 hq_16) xv_X8_isLoose lk_X8_162 ⟨(Nat.le_of_ble_eq_true rfl), (Nat.le_of_ble_eq_true rfl)⟩ rfl [0, 1, 4] [2, 3, 5] (nw := 6) (wr := [((a 2), aI cI 1208 M_past), ((a 5), aI cI 49 M_queue), ((a 8), aI cI 49 M_size)]) (as := [(a 0), (a 1), (a 2), (a 5), (a 6), (a 8)]) (ws' := [((a 0), oM a M_edits M_typed M_readRows M_readColumns M_top M_bottom M_left M_right M_panes), ((a 1), aI cI 151 M_now), ((a 2), aI cI 1208 M_past), ((a 5), aI cI 49 M_queue), ((a 6), aI cI 49 M_pane), ((a 8), aI cI 49 M_size)]) rfl rfl rfl rfl rfl rfl rfl rfl rfl 0 rfl rfl rfl rfl (Nat.le_of_ble_eq_true rfl) dX8_removeLooseCuts_34 (fun H locs h => ?_)
      obtain ⟨g_17, hf⟩ := og_some hf
      obtain ⟨r_19, hrr_19, hf⟩ := ob_some hf
      have Jr_19 : ∀ (ls : Array Slot) (H : Heap) (locs : List Loc), lv_has ls 3 [(0, .ref (a 0)), (1, iv l1), (2, iv l2)] → XH D A H0 [((a 0), oM a M_edits M_typed M_readRows M_readColumns M_top M_bottom M_left M_right M_panes), ((a 1), aI cI 151 M_now), ((a 2), aI cI 1208 M_past), ((a 5), aI cI 49 M_queue), ((a 6), aI cI 49 M_pane), ((a 8), aI cI 49 M_size)] H locs → W p l e rm_mo_removeLooseCuts s m args below meth c H locs 0 0 Q (F0 m 53 ls [iv r_19, iv (53 + l2), .ref (a 1)]) := by
        intro ls H locs hl h
        obtain ⟨g_20, hf⟩ := og_some hf
        obtain ⟨M_now_21, eM_now_21, hf⟩ := ol_some hf
        refine x_iast C h (pc := 53) (ws' := [((a 0), oM a M_edits M_typed M_readRows M_readColumns M_top M_bottom M_left M_right M_panes), ((a 1), aI cI 151 M_now_21), ((a 2), aI cI 1208 M_past), ((a 5), aI cI 49 M_queue), ((a 6), aI cI 49 M_pane), ((a 8), aI cI 49 M_size)]) 1 0 rfl rfl (Nat.le_of_ble_eq_true rfl) g_20 eM_now_21 rfl dX8_removeLooseCuts_53 (fun H locs h => ?_)
        obtain ⟨l2_22, el2_22, hf⟩ := ol_some hf
        refine x_iinc C (pc := 54) (k := 2) (lw' := [(2, iv l2_22), (0, .ref (a 0)), (1, iv l1)]) dX8_removeLooseCuts_54 hl rfl el2_22 (Nat.le_of_ble_eq_true rfl) rfl (fun ls hl => ?_)
        refine lv_goto hx hb (pc := 57) (tgt := 18) dX8_removeLooseCuts_57 rfl ?_
        exact ih l2_22 M_now_21 _ _ _ (lv_sub hl [1, 2, 0] rfl) h hf
      clear hf
      have hf := hrr_19
      refine x_ifeq C (pc := 37) (tgt := 44) g_17 dX8_removeLooseCuts_37 rfl (fun hc => ?_) (fun hc => ?_)
      · have hf := oi_t hf hc
        refine lv_aload_n hx hb (pc := 44) dX8_removeLooseCuts_44 rfl (lv_at hl 0 rfl) ?_
        refine x_get C h (pc := 45) xf_X8_7 0 rfl (v := .ref (a 1)) rfl dX8_removeLooseCuts_45 ?_
        refine x_bipush C (pc := 48) dX8_removeLooseCuts_48 (by decide) ?_
        refine lv_iload_n hx hb (pc := 50) dX8_removeLooseCuts_50 rfl (lv_at hl 2 rfl) ?_
        refine x_iadd C (pc := 51) dX8_removeLooseCuts_51 ?_
        obtain ⟨g_18, hf⟩ := og_some hf
        refine x_iald C h (pc := 52) 1 0 rfl rfl (Nat.le_of_ble_eq_true rfl) g_18 dX8_removeLooseCuts_52 ?_
        have e9 := Option.some.inj hf
        subst e9
        exact Jr_19 _ _ _ (lv_sub hl [0, 1, 2] rfl) h
      · have hf := oi_f hf hc
        refine x_iconst C (pc := 40) dX8_removeLooseCuts_40 ?_
        refine lv_goto hx hb (pc := 41) (tgt := 53) dX8_removeLooseCuts_41 rfl ?_
        have e9 := Option.some.inj hf
        subst e9
        exact Jr_19 _ _ _ (lv_sub hl [0, 1, 2] rfl) h
set_option maxHeartbeats 4000000 in
set_option maxRecDepth 100000 in
theorem c_mo_removeLooseCuts (l : Launch) (D : va_G) (cI cJ cZ cO : ClassId) (a : Nat → Nat) (M_edits : Int) (M_typed : Int) (M_readRows : Int) (M_readColumns : Int) (M_top : Int) (M_bottom : Int) (M_left : Int) (M_right : Int) (M_panes : Int) (M_now : Int → Int) (M_past : Int → Int) (M_queue : Int → Int) (M_pane : Int → Int) (M_size : Int → Int) (N : Nat) (Res : Int × Int × Int × Int × Int × Int × Int × (Int → Int) × (Int → Int) × (Int → Int) × (Int → Int) × (Int → Int)) (hf : f_mo_removeLooseCuts N M_edits M_top M_bottom M_left M_right M_panes M_now M_past M_queue M_pane M_size = some Res) : CoI l D (xT cI cJ cZ cO) yX8_removeLooseCuts cX8_removeLooseCuts 3 (some .int) rm_mo_removeLooseCuts [.ref (a 0)] [((a 0), oM a M_edits M_typed M_readRows M_readColumns M_top M_bottom M_left M_right M_panes), ((a 1), aI cI 151 M_now), ((a 2), aI cI 1208 M_past), ((a 5), aI cI 49 M_queue), ((a 6), aI cI 49 M_pane), ((a 8), aI cI 49 M_size)] Res.1 [((a 0), oM a Res.2.1 M_typed M_readRows M_readColumns Res.2.2.1 Res.2.2.2.1 Res.2.2.2.2.1 Res.2.2.2.2.2.1 Res.2.2.2.2.2.2.1), ((a 1), aI cI 151 Res.2.2.2.2.2.2.2.1), ((a 2), aI cI 1208 Res.2.2.2.2.2.2.2.2.1), ((a 5), aI cI 49 Res.2.2.2.2.2.2.2.2.2.1), ((a 6), aI cI 49 Res.2.2.2.2.2.2.2.2.2.2.1), ((a 8), aI cI 49 Res.2.2.2.2.2.2.2.2.2.2.2)] := by
  refine co_i (by decide) ⟨rfl, rfl⟩ (Nat.le_of_ble_eq_true rfl) ?_
  intro p e s m args below meth c A Q ls C hret hl h
  have hx := C.1.1
  have hb := C.1.2.1
  have hl : lv_has ls 3 [(0, .ref (a 0))] := hl
  unfold f_mo_removeLooseCuts at hf
  refine lv_aload_n hx hb (pc := 0) dX8_removeLooseCuts_0 rfl (lv_at hl 0 rfl) ?_
  obtain ⟨q_12, hq_12, hf⟩ := ob_some hf
  refine x_callVi C h (pc := 1) hl (c_mo_looseCuts l D cI cJ cZ cO a M_edits M_typed M_readRows M_readColumns M_top M_bottom M_left M_right M_panes M_now M_queue M_pane M_size N q_12 hq_12) xv_X8_looseCuts lk_X8_165 ⟨(Nat.le_of_ble_eq_true rfl), (Nat.le_of_ble_eq_true rfl)⟩ rfl [0, 1, 3, 4, 5] [2] (nw := 6) (wr := [((a 2), aI cI 1208 M_past)]) (as := [(a 0), (a 1), (a 2), (a 5), (a 6), (a 8)]) (ws' := [((a 0), oM a M_edits M_typed M_readRows M_readColumns q_12.2.1 q_12.2.2.1 q_12.2.2.2.1 q_12.2.2.2.2.1 q_12.2.2.2.2.2.1), ((a 1), aI cI 151 M_now), ((a 2), aI cI 1208 M_past), ((a 5), aI cI 49 q_12.2.2.2.2.2.2.1), ((a 6), aI cI 49 q_12.2.2.2.2.2.2.2.1), ((a 8), aI cI 49 q_12.2.2.2.2.2.2.2.2)]) rfl rfl rfl rfl rfl rfl rfl rfl rfl 0 rfl rfl rfl rfl (Nat.le_of_ble_eq_true rfl) dX8_removeLooseCuts_1 (fun H locs h => ?_)
  refine lv_istore_n hx hb (pc := 4) (lv' := [(1, iv q_12.1), (0, .ref (a 0))]) dX8_removeLooseCuts_4 rfl hl (Nat.le_of_ble_eq_true rfl) rfl (fun ls hl => ?_)
  refine lv_iload_n hx hb (pc := 5) dX8_removeLooseCuts_5 rfl (lv_at hl 0 rfl) ?_
  obtain ⟨g_13, hf⟩ := og_some hf
  refine x_ifne C (pc := 6) (tgt := 12) g_13 dX8_removeLooseCuts_6 rfl (fun hc => ?_) (fun hc => ?_)
  · have hf := oi_f hf hc
    refine lv_aload_n hx hb (pc := 12) dX8_removeLooseCuts_12 rfl (lv_at hl 1 rfl) ?_
    obtain ⟨q_14, hq_14, hf⟩ := ob_some hf
    refine x_callVv C h (pc := 13) hl (c_mo_save l D cI cJ cZ cO a M_edits M_typed M_readRows M_readColumns q_12.2.1 q_12.2.2.1 q_12.2.2.2.1 q_12.2.2.2.2.1 q_12.2.2.2.2.2.1 M_now M_past N q_14 hq_14) xv_X8_save lk_X8_73 ⟨(Nat.le_of_ble_eq_true rfl), (Nat.le_of_ble_eq_true rfl)⟩ rfl [0, 1, 2] [3, 4, 5] (nw := 6) (wr := [((a 5), aI cI 49 q_12.2.2.2.2.2.2.1), ((a 6), aI cI 49 q_12.2.2.2.2.2.2.2.1), ((a 8), aI cI 49 q_12.2.2.2.2.2.2.2.2)]) (as := [(a 0), (a 1), (a 2), (a 5), (a 6), (a 8)]) (ws' := [((a 0), oM a q_14.1 M_typed M_readRows M_readColumns q_12.2.1 q_12.2.2.1 q_12.2.2.2.1 q_12.2.2.2.2.1 q_12.2.2.2.2.2.1), ((a 1), aI cI 151 M_now), ((a 2), aI cI 1208 q_14.2), ((a 5), aI cI 49 q_12.2.2.2.2.2.2.1), ((a 6), aI cI 49 q_12.2.2.2.2.2.2.2.1), ((a 8), aI cI 49 q_12.2.2.2.2.2.2.2.2)]) rfl rfl rfl rfl rfl rfl rfl rfl rfl 0 rfl rfl rfl rfl (Nat.le_of_ble_eq_true rfl) dX8_removeLooseCuts_13 (fun H locs h => ?_)
    refine x_iconst C (pc := 16) dX8_removeLooseCuts_16 ?_
    refine lv_istore_n hx hb (pc := 17) (lv' := [(2, iv 0), (1, iv q_12.1), (0, .ref (a 0))]) dX8_removeLooseCuts_17 rfl hl (Nat.le_of_ble_eq_true rfl) rfl (fun ls hl => ?_)
    exact w_mo_removeLooseCuts_18 C a M_typed M_readRows M_readColumns Res hret N q_12.1 q_14.1 q_12.2.1 q_12.2.2.1 q_12.2.2.2.1 q_12.2.2.2.2.1 q_12.2.2.2.2.2.1 q_14.2 q_12.2.2.2.2.2.2.1 q_12.2.2.2.2.2.2.2.1 q_12.2.2.2.2.2.2.2.2 N 0 M_now _ _ _ (lv_sub hl [2, 1, 0] rfl) h hf
  · have hf := oi_t hf hc
    refine x_bipush C (pc := 9) dX8_removeLooseCuts_9 (by decide) ?_
    have e9 := Option.some.inj hf
    subst e9
    exact hret _ _ _ _ dX8_removeLooseCuts_11 h
abbrev rm_mo_findNear : Room := { frames := 4, cells := 0, slots := 0, locals := 95 }
set_option maxHeartbeats 4000000 in
set_option maxRecDepth 100000 in
theorem w_mo_findNear_182 {p : Program} {l : Launch} {e : Env} {s : State} {m : MethodId} {args : Array Value} {below : List Frame} {meth : Method} {c : Code} {Q : State → Prop} {D : va_G} {cI cJ cZ cO : ClassId} {A : Nat → Prop} {H0 : Heap} {w0 : Cond} (C : XC p s m args c cX8_findNear 6 RX8 w0 D (xT cI cJ cZ cO)) (a : Nat → Nat) (M_edits : Int) (M_typed : Int) (M_readRows : Int) (M_readColumns : Int) (M_now : Int → Int) (Res : Int × Int × Int × Int × Int × Int × (Int → Int) × (Int → Int) × (Int → Int) × (Int → Int) × (Int → Int)) (hret : XRI p l e rm_mo_findNear s m args below meth c cX8_findNear D A H0 Q Res.1 [((a 0), oM a M_edits M_typed M_readRows M_readColumns Res.2.1 Res.2.2.1 Res.2.2.2.1 Res.2.2.2.2.1 Res.2.2.2.2.2.1), ((a 1), aI cI 151 M_now), ((a 5), aI cI 49 Res.2.2.2.2.2.2.1), ((a 6), aI cI 49 Res.2.2.2.2.2.2.2.1), ((a 8), aI cI 49 Res.2.2.2.2.2.2.2.2.1), ((a 10), aI cZ 2401 Res.2.2.2.2.2.2.2.2.2.1), ((a 11), aI cI 49 Res.2.2.2.2.2.2.2.2.2.2)]) (N : Nat) (l1 : Int) (l2 : Int) (M_top : Int) (M_bottom : Int) (M_left : Int) (M_right : Int) (M_panes : Int) (M_queue : Int → Int) (M_pane : Int → Int) (M_size : Int → Int) (M_near : Int → Int) (k165 : Int → (Int → Int) → Option (Int × Int × Int × Int × Int × Int × (Int → Int) × (Int → Int) × (Int → Int) × (Int → Int) × (Int → Int))) (hk165 : ∀ (l2' : Int) (M_nearMany' : Int → Int) (ls : Array Slot) (H : Heap) (locs : List Loc), lv_has ls 6 [(0, .ref (a 0)), (1, iv l1), (2, iv l2')] → XH D A H0 [((a 0), oM a M_edits M_typed M_readRows M_readColumns M_top M_bottom M_left M_right M_panes), ((a 1), aI cI 151 M_now), ((a 5), aI cI 49 M_queue), ((a 6), aI cI 49 M_pane), ((a 8), aI cI 49 M_size), ((a 10), aI cZ 2401 M_near), ((a 11), aI cI 49 M_nearMany')] H locs → k165 l2' M_nearMany' = some Res → W p l e rm_mo_findNear s m args below meth c H locs 0 0 Q (F0 m 165 ls [])) : ∀ (n : Nat) (l3 : Int) (M_nearMany : Int → Int) (ls : Array Slot) (H : Heap) (locs : List Loc), lv_has ls 6 [(0, .ref (a 0)), (1, iv l1), (2, iv l2), (3, iv l3)] → XH D A H0 [((a 0), oM a M_edits M_typed M_readRows M_readColumns M_top M_bottom M_left M_right M_panes), ((a 1), aI cI 151 M_now), ((a 5), aI cI 49 M_queue), ((a 6), aI cI 49 M_pane), ((a 8), aI cI 49 M_size), ((a 10), aI cZ 2401 M_near), ((a 11), aI cI 49 M_nearMany)] H locs → f_mo_findNear_182 N l1 l2 M_top M_bottom M_left M_right M_panes M_queue M_pane M_size M_near k165 n l3 M_nearMany = some Res → W p l e rm_mo_findNear s m args below meth c H locs 0 0 Q (F0 m 182 ls []) := by
  have hx := C.1.1
  have hb := C.1.2.1
  intro n
  induction n with
  | zero => intro l3 M_nearMany ls H locs hl h hf; cases hf
  | succ n ih =>
    intro l3 M_nearMany ls H locs hl h hf
    rw [f_mo_findNear_182.eq_2] at hf
    refine lv_iload_n hx hb (pc := 182) dX8_findNear_182 rfl (lv_at hl 3 rfl) ?_
    refine lv_aload_n hx hb (pc := 183) dX8_findNear_183 rfl (lv_at hl 0 rfl) ?_
    refine x_get C h (pc := 184) xf_X8_92 0 rfl (v := iv M_panes) rfl dX8_findNear_184 ?_
    obtain ⟨g_89, hf⟩ := og_some hf
    obtain ⟨g_90, hf⟩ := og_some hf
    refine x_icmpge C (pc := 187) (tgt := 224) g_89 g_90 dX8_findNear_187 rfl (fun hc => ?_) (fun hc => ?_)
    · have hf := oi_t hf hc
      obtain ⟨l2_91, el2_91, hf⟩ := ol_some hf
      refine x_iinc C (pc := 224) (k := 2) (lw' := [(2, iv l2_91), (0, .ref (a 0)), (1, iv l1), (3, iv l3)]) dX8_findNear_224 hl rfl el2_91 (Nat.le_of_ble_eq_true rfl) rfl (fun ls hl => ?_)
      refine lv_goto hx hb (pc := 227) (tgt := 165) dX8_findNear_227 rfl ?_
      exact hk165 l2_91 M_nearMany _ _ _ (lv_sub hl [1, 2, 0] rfl) h hf
    · have hf := oi_f hf hc
      refine lv_aload_n hx hb (pc := 190) dX8_findNear_190 rfl (lv_at hl 0 rfl) ?_
      refine x_get C h (pc := 191) xf_X8_41 0 rfl (v := .ref (a 11)) rfl dX8_findNear_191 ?_
      refine lv_iload_n hx hb (pc := 194) dX8_findNear_194 rfl (lv_at hl 2 rfl) ?_
      refine lv_dup2_11 hx hb (pc := 195) dX8_findNear_195 rfl rfl ?_
      obtain ⟨g_92, hf⟩ := og_some hf
      refine x_iald C h (pc := 196) 6 0 rfl rfl (Nat.le_of_ble_eq_true rfl) g_92 dX8_findNear_196 ?_
      refine lv_aload_n hx hb (pc := 197) dX8_findNear_197 rfl (lv_at hl 0 rfl) ?_
      refine x_get C h (pc := 198) xf_X8_38 0 rfl (v := .ref (a 10)) rfl dX8_findNear_198 ?_
      refine x_bipush C (pc := 201) dX8_findNear_201 (by decide) ?_
      refine lv_iload_n hx hb (pc := 203) dX8_findNear_203 rfl (lv_at hl 2 rfl) ?_
      refine x_imul C (pc := 204) dX8_findNear_204 ?_
      refine lv_iload_n hx hb (pc := 205) dX8_findNear_205 rfl (lv_at hl 3 rfl) ?_
      refine x_iadd C (pc := 206) dX8_findNear_206 ?_
      obtain ⟨g_93, hf⟩ := og_some hf
      refine x_zald C h (pc := 207) 5 2 rfl rfl (Nat.le_of_ble_eq_true rfl) g_93 dX8_findNear_207 ?_
      obtain ⟨g_94, hf⟩ := og_some hf
      obtain ⟨r_95, hrr_95, hf⟩ := ob_some hf
      have Jr_95 : ∀ (ls : Array Slot) (H : Heap) (locs : List Loc), lv_has ls 6 [(0, .ref (a 0)), (1, iv l1), (2, iv l2), (3, iv l3)] → XH D A H0 [((a 0), oM a M_edits M_typed M_readRows M_readColumns M_top M_bottom M_left M_right M_panes), ((a 1), aI cI 151 M_now), ((a 5), aI cI 49 M_queue), ((a 6), aI cI 49 M_pane), ((a 8), aI cI 49 M_size), ((a 10), aI cZ 2401 M_near), ((a 11), aI cI 49 M_nearMany)] H locs → W p l e rm_mo_findNear s m args below meth c H locs 0 0 Q (F0 m 216 ls [iv r_95, iv (M_nearMany l2), iv l2, .ref (a 11)]) := by
        intro ls H locs hl h
        refine x_iadd C (pc := 216) dX8_findNear_216 ?_
        obtain ⟨M_nearMany_96, eM_nearMany_96, hf⟩ := ol_some hf
        refine x_iast C h (pc := 217) (ws' := [((a 0), oM a M_edits M_typed M_readRows M_readColumns M_top M_bottom M_left M_right M_panes), ((a 1), aI cI 151 M_now), ((a 5), aI cI 49 M_queue), ((a 6), aI cI 49 M_pane), ((a 8), aI cI 49 M_size), ((a 10), aI cZ 2401 M_near), ((a 11), aI cI 49 M_nearMany_96)]) 6 0 rfl rfl (Nat.le_of_ble_eq_true rfl) g_92 eM_nearMany_96 rfl dX8_findNear_217 (fun H locs h => ?_)
        obtain ⟨l3_97, el3_97, hf⟩ := ol_some hf
        refine x_iinc C (pc := 218) (k := 3) (lw' := [(3, iv l3_97), (0, .ref (a 0)), (1, iv l1), (2, iv l2)]) dX8_findNear_218 hl rfl el3_97 (Nat.le_of_ble_eq_true rfl) rfl (fun ls hl => ?_)
        refine lv_goto hx hb (pc := 221) (tgt := 182) dX8_findNear_221 rfl ?_
        exact ih l3_97 M_nearMany_96 _ _ _ (lv_sub hl [1, 2, 3, 0] rfl) h hf
      clear hf
      have hf := hrr_95
      refine x_ifeq C (pc := 208) (tgt := 215) g_94 dX8_findNear_208 rfl (fun hc => ?_) (fun hc => ?_)
      · have hf := oi_t hf hc
        refine x_iconst C (pc := 215) dX8_findNear_215 ?_
        have e9 := Option.some.inj hf
        subst e9
        exact Jr_95 _ _ _ (lv_sub hl [0, 1, 2, 3] rfl) h
      · have hf := oi_f hf hc
        refine x_iconst C (pc := 211) dX8_findNear_211 ?_
        refine lv_goto hx hb (pc := 212) (tgt := 216) dX8_findNear_212 rfl ?_
        have e9 := Option.some.inj hf
        subst e9
        exact Jr_95 _ _ _ (lv_sub hl [0, 1, 2, 3] rfl) h
set_option maxHeartbeats 4000000 in
set_option maxRecDepth 100000 in
theorem w_mo_findNear_165 {p : Program} {l : Launch} {e : Env} {s : State} {m : MethodId} {args : Array Value} {below : List Frame} {meth : Method} {c : Code} {Q : State → Prop} {D : va_G} {cI cJ cZ cO : ClassId} {A : Nat → Prop} {H0 : Heap} {w0 : Cond} (C : XC p s m args c cX8_findNear 6 RX8 w0 D (xT cI cJ cZ cO)) (a : Nat → Nat) (M_edits : Int) (M_typed : Int) (M_readRows : Int) (M_readColumns : Int) (M_now : Int → Int) (Res : Int × Int × Int × Int × Int × Int × (Int → Int) × (Int → Int) × (Int → Int) × (Int → Int) × (Int → Int)) (hret : XRI p l e rm_mo_findNear s m args below meth c cX8_findNear D A H0 Q Res.1 [((a 0), oM a M_edits M_typed M_readRows M_readColumns Res.2.1 Res.2.2.1 Res.2.2.2.1 Res.2.2.2.2.1 Res.2.2.2.2.2.1), ((a 1), aI cI 151 M_now), ((a 5), aI cI 49 Res.2.2.2.2.2.2.1), ((a 6), aI cI 49 Res.2.2.2.2.2.2.2.1), ((a 8), aI cI 49 Res.2.2.2.2.2.2.2.2.1), ((a 10), aI cZ 2401 Res.2.2.2.2.2.2.2.2.2.1), ((a 11), aI cI 49 Res.2.2.2.2.2.2.2.2.2.2)]) (N : Nat) (l1 : Int) (M_top : Int) (M_bottom : Int) (M_left : Int) (M_right : Int) (M_panes : Int) (M_queue : Int → Int) (M_pane : Int → Int) (M_size : Int → Int) (M_near : Int → Int) : ∀ (n : Nat) (l2 : Int) (M_nearMany : Int → Int) (ls : Array Slot) (H : Heap) (locs : List Loc), lv_has ls 6 [(0, .ref (a 0)), (1, iv l1), (2, iv l2)] → XH D A H0 [((a 0), oM a M_edits M_typed M_readRows M_readColumns M_top M_bottom M_left M_right M_panes), ((a 1), aI cI 151 M_now), ((a 5), aI cI 49 M_queue), ((a 6), aI cI 49 M_pane), ((a 8), aI cI 49 M_size), ((a 10), aI cZ 2401 M_near), ((a 11), aI cI 49 M_nearMany)] H locs → f_mo_findNear_165 N l1 M_top M_bottom M_left M_right M_panes M_queue M_pane M_size M_near n l2 M_nearMany = some Res → W p l e rm_mo_findNear s m args below meth c H locs 0 0 Q (F0 m 165 ls []) := by
  have hx := C.1.1
  have hb := C.1.2.1
  intro n
  induction n with
  | zero => intro l2 M_nearMany ls H locs hl h hf; cases hf
  | succ n ih =>
    intro l2 M_nearMany ls H locs hl h hf
    rw [f_mo_findNear_165.eq_2] at hf
    refine lv_iload_n hx hb (pc := 165) dX8_findNear_165 rfl (lv_at hl 2 rfl) ?_
    refine lv_aload_n hx hb (pc := 166) dX8_findNear_166 rfl (lv_at hl 0 rfl) ?_
    refine x_get C h (pc := 167) xf_X8_92 0 rfl (v := iv M_panes) rfl dX8_findNear_167 ?_
    obtain ⟨g_85, hf⟩ := og_some hf
    obtain ⟨g_86, hf⟩ := og_some hf
    refine x_icmpge C (pc := 170) (tgt := 230) g_85 g_86 dX8_findNear_170 rfl (fun hc => ?_) (fun hc => ?_)
    · have hf := oi_t hf hc
      refine lv_iload_n hx hb (pc := 230) dX8_findNear_230 rfl (lv_at hl 1 rfl) ?_
      have e9 := Option.some.inj hf
      subst e9
      exact hret _ _ _ _ dX8_findNear_231 h
    · have hf := oi_f hf hc
      refine lv_aload_n hx hb (pc := 173) dX8_findNear_173 rfl (lv_at hl 0 rfl) ?_
      refine x_get C h (pc := 174) xf_X8_41 0 rfl (v := .ref (a 11)) rfl dX8_findNear_174 ?_
      refine lv_iload_n hx hb (pc := 177) dX8_findNear_177 rfl (lv_at hl 2 rfl) ?_
      refine x_iconst C (pc := 178) dX8_findNear_178 ?_
      obtain ⟨g_87, hf⟩ := og_some hf
      obtain ⟨M_nearMany_88, eM_nearMany_88, hf⟩ := ol_some hf
      refine x_iast C h (pc := 179) (ws' := [((a 0), oM a M_edits M_typed M_readRows M_readColumns M_top M_bottom M_left M_right M_panes), ((a 1), aI cI 151 M_now), ((a 5), aI cI 49 M_queue), ((a 6), aI cI 49 M_pane), ((a 8), aI cI 49 M_size), ((a 10), aI cZ 2401 M_near), ((a 11), aI cI 49 M_nearMany_88)]) 6 0 rfl rfl (Nat.le_of_ble_eq_true rfl) g_87 eM_nearMany_88 rfl dX8_findNear_179 (fun H locs h => ?_)
      refine x_iconst C (pc := 180) dX8_findNear_180 ?_
      refine lv_istore_n hx hb (pc := 181) (lv' := [(3, iv 0), (0, .ref (a 0)), (1, iv l1), (2, iv l2)]) dX8_findNear_181 rfl hl (Nat.le_of_ble_eq_true rfl) rfl (fun ls hl => ?_)
      exact w_mo_findNear_182 C a M_edits M_typed M_readRows M_readColumns M_now Res hret N l1 l2 M_top M_bottom M_left M_right M_panes M_queue M_pane M_size M_near (f_mo_findNear_165 N l1 M_top M_bottom M_left M_right M_panes M_queue M_pane M_size M_near n) ih N 0 M_nearMany_88 _ _ _ (lv_sub hl [1, 2, 3, 0] rfl) h hf
set_option maxHeartbeats 4000000 in
set_option maxRecDepth 100000 in
theorem w_mo_findNear_30 {p : Program} {l : Launch} {e : Env} {s : State} {m : MethodId} {args : Array Value} {below : List Frame} {meth : Method} {c : Code} {Q : State → Prop} {D : va_G} {cI cJ cZ cO : ClassId} {A : Nat → Prop} {H0 : Heap} {w0 : Cond} (C : XC p s m args c cX8_findNear 6 RX8 w0 D (xT cI cJ cZ cO)) (a : Nat → Nat) (M_edits : Int) (M_typed : Int) (M_readRows : Int) (M_readColumns : Int) (M_now : Int → Int) (Res : Int × Int × Int × Int × Int × Int × (Int → Int) × (Int → Int) × (Int → Int) × (Int → Int) × (Int → Int)) (hret : XRI p l e rm_mo_findNear s m args below meth c cX8_findNear D A H0 Q Res.1 [((a 0), oM a M_edits M_typed M_readRows M_readColumns Res.2.1 Res.2.2.1 Res.2.2.2.1 Res.2.2.2.2.1 Res.2.2.2.2.2.1), ((a 1), aI cI 151 M_now), ((a 5), aI cI 49 Res.2.2.2.2.2.2.1), ((a 6), aI cI 49 Res.2.2.2.2.2.2.2.1), ((a 8), aI cI 49 Res.2.2.2.2.2.2.2.2.1), ((a 10), aI cZ 2401 Res.2.2.2.2.2.2.2.2.2.1), ((a 11), aI cI 49 Res.2.2.2.2.2.2.2.2.2.2)]) (N : Nat) (M_top : Int) (M_bottom : Int) (M_left : Int) (M_right : Int) (M_panes : Int) (M_queue : Int → Int) (M_pane : Int → Int) (M_size : Int → Int) (M_nearMany : Int → Int) : ∀ (n : Nat) (l1 : Int) (l2 : Int) (M_near : Int → Int) (ls : Array Slot) (H : Heap) (locs : List Loc), lv_has ls 6 [(0, .ref (a 0)), (1, iv l1), (2, iv l2)] → XH D A H0 [((a 0), oM a M_edits M_typed M_readRows M_readColumns M_top M_bottom M_left M_right M_panes), ((a 1), aI cI 151 M_now), ((a 5), aI cI 49 M_queue), ((a 6), aI cI 49 M_pane), ((a 8), aI cI 49 M_size), ((a 10), aI cZ 2401 M_near), ((a 11), aI cI 49 M_nearMany)] H locs → f_mo_findNear_30 N M_top M_bottom M_left M_right M_panes M_queue M_pane M_size M_nearMany M_now n l1 l2 M_near = some Res → W p l e rm_mo_findNear s m args below meth c H locs 0 0 Q (F0 m 30 ls []) := by
  have hx := C.1.1
  have hb := C.1.2.1
  intro n
  induction n with
  | zero => intro l1 l2 M_near ls H locs hl h hf; cases hf
  | succ n ih =>
    intro l1 l2 M_near ls H locs hl h hf
    rw [f_mo_findNear_30.eq_2] at hf
    refine lv_iload_n hx hb (pc := 30) dX8_findNear_30 rfl (lv_at hl 2 rfl) ?_
    refine x_bipush C (pc := 31) dX8_findNear_31 (by decide) ?_
    obtain ⟨g_57, hf⟩ := og_some hf
    refine x_icmpge C (pc := 33) (tgt := 163) g_57 ⟨by decide, by decide⟩ dX8_findNear_33 rfl (fun hc => ?_) (fun hc => ?_)
    · have hf := oi_t hf hc
      refine x_iconst C (pc := 163) dX8_findNear_163 ?_
      refine lv_istore_n hx hb (pc := 164) (lv' := [(2, iv 0), (0, .ref (a 0)), (1, iv l1)]) dX8_findNear_164 rfl hl (Nat.le_of_ble_eq_true rfl) rfl (fun ls hl => ?_)
      exact w_mo_findNear_165 C a M_edits M_typed M_readRows M_readColumns M_now Res hret N l1 M_top M_bottom M_left M_right M_panes M_queue M_pane M_size M_near N 0 M_nearMany _ _ _ (lv_sub hl [1, 2, 0] rfl) h hf
    · have hf := oi_f hf hc
      refine lv_iload_n hx hb (pc := 36) dX8_findNear_36 rfl (lv_at hl 2 rfl) ?_
      refine x_bipush C (pc := 37) dX8_findNear_37 (by decide) ?_
      obtain ⟨g_58, hf⟩ := og_some hf
      refine x_irem C (pc := 39) g_58 ⟨by decide, by decide⟩ dX8_findNear_39 ?_
      obtain ⟨l3_59, el3_59, hf⟩ := ol_some hf
      refine x_topi el3_59 ?_
      refine lv_istore_n hx hb (pc := 40) (lv' := [(3, iv l3_59), (0, .ref (a 0)), (1, iv l1), (2, iv l2)]) dX8_findNear_40 rfl hl (Nat.le_of_ble_eq_true rfl) rfl (fun ls hl => ?_)
      refine lv_aload_n hx hb (pc := 41) dX8_findNear_41 rfl (lv_at hl 1 rfl) ?_
      refine lv_iload_n hx hb (pc := 42) dX8_findNear_42 rfl (lv_at hl 0 rfl) ?_
      refine x_bipush C (pc := 43) dX8_findNear_43 (by decide) ?_
      obtain ⟨g_60, hf⟩ := og_some hf
      refine x_idiv C (pc := 45) g_60 ⟨by decide, by decide⟩ dX8_findNear_45 ?_
      refine lv_iload_n hx hb (pc := 46) dX8_findNear_46 rfl (lv_at hl 0 rfl) ?_
      refine x_bipush C (pc := 47) dX8_findNear_47 (by decide) ?_
      refine x_irem C (pc := 49) g_60 ⟨by decide, by decide⟩ dX8_findNear_49 ?_
      obtain ⟨q_61, hq_61, hf⟩ := ob_some hf
      refine x_callVi C h (pc := 50) hl (c_mo_isCell l D cI cJ cZ cO a M_edits M_typed M_readRows M_readColumns M_top M_bottom M_left M_right M_panes M_now (l3_59 / 7) (l3_59 % 7) N q_61 hq_61) xv_X8_isCell lk_X8_95 ⟨(Nat.le_of_ble_eq_true rfl), (Nat.le_of_ble_eq_true rfl)⟩ rfl [0, 1] [2, 3, 4, 5, 6] (nw := 7) (wr := [((a 5), aI cI 49 M_queue), ((a 6), aI cI 49 M_pane), ((a 8), aI cI 49 M_size), ((a 10), aI cZ 2401 M_near), ((a 11), aI cI 49 M_nearMany)]) (as := [(a 0), (a 1), (a 5), (a 6), (a 8), (a 10), (a 11)]) (ws' := [((a 0), oM a M_edits M_typed M_readRows M_readColumns M_top M_bottom M_left M_right M_panes), ((a 1), aI cI 151 M_now), ((a 5), aI cI 49 M_queue), ((a 6), aI cI 49 M_pane), ((a 8), aI cI 49 M_size), ((a 10), aI cZ 2401 M_near), ((a 11), aI cI 49 M_nearMany)]) rfl rfl rfl rfl rfl rfl rfl rfl rfl 0 rfl rfl rfl rfl (Nat.le_of_ble_eq_true rfl) dX8_findNear_50 (fun H locs h => ?_)
      obtain ⟨g_62, hf⟩ := og_some hf
      refine x_ifeq C (pc := 53) (tgt := 157) g_62 dX8_findNear_53 rfl (fun hc => ?_) (fun hc => ?_)
      · have hf := oi_t hf hc
        obtain ⟨l2_63, el2_63, hf⟩ := ol_some hf
        refine x_iinc C (pc := 157) (k := 3) (lw' := [(2, iv l2_63), (3, iv l3_59), (0, .ref (a 0)), (1, iv l1)]) dX8_findNear_157 hl rfl el2_63 (Nat.le_of_ble_eq_true rfl) rfl (fun ls hl => ?_)
        refine lv_goto hx hb (pc := 160) (tgt := 30) dX8_findNear_160 rfl ?_
        exact ih l1 l2_63 M_near _ _ _ (lv_sub hl [2, 3, 0] rfl) h hf
      · have hf := oi_f hf hc
        refine lv_aload_n hx hb (pc := 56) dX8_findNear_56 rfl (lv_at hl 1 rfl) ?_
        refine lv_iload_n hx hb (pc := 57) dX8_findNear_57 rfl (lv_at hl 0 rfl) ?_
        refine lv_iload_n hx hb (pc := 58) dX8_findNear_58 rfl (lv_at hl 3 rfl) ?_
        refine x_bipush C (pc := 59) dX8_findNear_59 (by decide) ?_
        refine x_idiv C (pc := 61) g_58 ⟨by decide, by decide⟩ dX8_findNear_61 ?_
        obtain ⟨q_64, hq_64, hf⟩ := ob_some hf
        refine x_callVi C h (pc := 62) hl (c_mo_hasNext l D cI cJ cZ cO a M_edits M_typed M_readRows M_readColumns M_top M_bottom M_left M_right M_panes M_now l3_59 (l2 / 49) N q_64 hq_64) xv_X8_hasNext lk_X8_103 ⟨(Nat.le_of_ble_eq_true rfl), (Nat.le_of_ble_eq_true rfl)⟩ rfl [0, 1] [2, 3, 4, 5, 6] (nw := 7) (wr := [((a 5), aI cI 49 M_queue), ((a 6), aI cI 49 M_pane), ((a 8), aI cI 49 M_size), ((a 10), aI cZ 2401 M_near), ((a 11), aI cI 49 M_nearMany)]) (as := [(a 0), (a 1), (a 5), (a 6), (a 8), (a 10), (a 11)]) (ws' := [((a 0), oM a M_edits M_typed M_readRows M_readColumns M_top M_bottom M_left M_right M_panes), ((a 1), aI cI 151 M_now), ((a 5), aI cI 49 M_queue), ((a 6), aI cI 49 M_pane), ((a 8), aI cI 49 M_size), ((a 10), aI cZ 2401 M_near), ((a 11), aI cI 49 M_nearMany)]) rfl rfl rfl rfl rfl rfl rfl rfl rfl 0 rfl rfl rfl rfl (Nat.le_of_ble_eq_true rfl) dX8_findNear_62 (fun H locs h => ?_)
        obtain ⟨g_65, hf⟩ := og_some hf
        refine x_ifeq C (pc := 65) (tgt := 157) g_65 dX8_findNear_65 rfl (fun hc => ?_) (fun hc => ?_)
        · have hf := oi_t hf hc
          obtain ⟨l2_66, el2_66, hf⟩ := ol_some hf
          refine x_iinc C (pc := 157) (k := 3) (lw' := [(2, iv l2_66), (3, iv l3_59), (0, .ref (a 0)), (1, iv l1)]) dX8_findNear_157 hl rfl el2_66 (Nat.le_of_ble_eq_true rfl) rfl (fun ls hl => ?_)
          refine lv_goto hx hb (pc := 160) (tgt := 30) dX8_findNear_160 rfl ?_
          exact ih l1 l2_66 M_near _ _ _ (lv_sub hl [2, 3, 0] rfl) h hf
        · have hf := oi_f hf hc
          refine lv_aload_n hx hb (pc := 68) dX8_findNear_68 rfl (lv_at hl 1 rfl) ?_
          refine x_get C h (pc := 69) xf_X8_25 0 rfl (v := .ref (a 6)) rfl dX8_findNear_69 ?_
          refine lv_iload_n hx hb (pc := 72) dX8_findNear_72 rfl (lv_at hl 0 rfl) ?_
          obtain ⟨g_67, hf⟩ := og_some hf
          refine x_iald C h (pc := 73) 3 0 rfl rfl (Nat.le_of_ble_eq_true rfl) g_67 dX8_findNear_73 ?_
          obtain ⟨l4_68, el4_68, hf⟩ := ol_some hf
          refine x_topi el4_68 ?_
          refine lv_istore hx hb (pc := 74) (lv' := [(4, iv l4_68), (3, iv l3_59), (0, .ref (a 0)), (1, iv l1), (2, iv l2)]) dX8_findNear_74 hl (Nat.le_of_ble_eq_true rfl) rfl (fun ls hl => ?_)
          refine lv_aload_n hx hb (pc := 76) dX8_findNear_76 rfl (lv_at hl 2 rfl) ?_
          refine x_get C h (pc := 77) xf_X8_25 0 rfl (v := .ref (a 6)) rfl dX8_findNear_77 ?_
          refine lv_iload_n hx hb (pc := 80) dX8_findNear_80 rfl (lv_at hl 1 rfl) ?_
          refine lv_iload_n hx hb (pc := 81) dX8_findNear_81 rfl (lv_at hl 4 rfl) ?_
          refine x_bipush C (pc := 82) dX8_findNear_82 (by decide) ?_
          refine x_idiv C (pc := 84) g_58 ⟨by decide, by decide⟩ dX8_findNear_84 ?_
          obtain ⟨q_69, hq_69, hf⟩ := ob_some hf
          refine x_callSi C h (pc := 85) hl (c_mo_step l D cI cJ cZ cO a (l2 / 49) N q_69 hq_69) xs_X8_step lk_X8_106 ⟨(Nat.le_of_ble_eq_true rfl), (Nat.le_of_ble_eq_true rfl)⟩ rfl [] [0, 1, 2, 3, 4, 5, 6] (nw := 7) (wr := [((a 0), oM a M_edits M_typed M_readRows M_readColumns M_top M_bottom M_left M_right M_panes), ((a 1), aI cI 151 M_now), ((a 5), aI cI 49 M_queue), ((a 6), aI cI 49 M_pane), ((a 8), aI cI 49 M_size), ((a 10), aI cZ 2401 M_near), ((a 11), aI cI 49 M_nearMany)]) (as := [(a 0), (a 1), (a 5), (a 6), (a 8), (a 10), (a 11)]) (ws' := [((a 0), oM a M_edits M_typed M_readRows M_readColumns M_top M_bottom M_left M_right M_panes), ((a 1), aI cI 151 M_now), ((a 5), aI cI 49 M_queue), ((a 6), aI cI 49 M_pane), ((a 8), aI cI 49 M_size), ((a 10), aI cZ 2401 M_near), ((a 11), aI cI 49 M_nearMany)]) rfl rfl rfl rfl rfl rfl rfl rfl rfl rfl (Nat.le_of_ble_eq_true rfl) dX8_findNear_85 (fun H locs h => ?_)
          refine x_iadd C (pc := 88) dX8_findNear_88 ?_
          obtain ⟨g_70, hf⟩ := og_some hf
          refine x_iald C h (pc := 89) 3 0 rfl rfl (Nat.le_of_ble_eq_true rfl) g_70 dX8_findNear_89 ?_
          obtain ⟨l5_71, el5_71, hf⟩ := ol_some hf
          refine x_topi el5_71 ?_
          refine lv_istore hx hb (pc := 90) (lv' := [(5, iv l5_71), (4, iv l4_68), (3, iv l3_59), (0, .ref (a 0)), (1, iv l1), (2, iv l2)]) dX8_findNear_90 hl (Nat.le_of_ble_eq_true rfl) rfl (fun ls hl => ?_)
          refine lv_iload_n hx hb (pc := 92) dX8_findNear_92 rfl (lv_at hl 4 rfl) ?_
          refine lv_iload hx hb (pc := 93) dX8_findNear_93 (lv_at hl 1 rfl) ?_
          refine lv_iload hx hb (pc := 95) dX8_findNear_95 (lv_at hl 0 rfl) ?_
          obtain ⟨g_72, hf⟩ := og_some hf
          obtain ⟨g_73, hf⟩ := og_some hf
          obtain ⟨r_74, hrr_74, hf⟩ := ob_some hf
          have Jr_74 : ∀ (ls : Array Slot) (H : Heap) (locs : List Loc), lv_has ls 6 [(0, .ref (a 0)), (2, iv l2), (4, iv l4_68), (5, iv l5_71)] → XH D A H0 [((a 0), oM a M_edits M_typed M_readRows M_readColumns M_top M_bottom M_left M_right M_panes), ((a 1), aI cI 151 M_now), ((a 5), aI cI 49 M_queue), ((a 6), aI cI 49 M_pane), ((a 8), aI cI 49 M_size), ((a 10), aI cZ 2401 M_near), ((a 11), aI cI 49 M_nearMany)] H locs → W p l e rm_mo_findNear s m args below meth c H locs 0 0 Q (F0 m 105 ls [iv r_74, iv l1]) := by
            intro ls H locs hl h
            refine x_iadd C (pc := 105) dX8_findNear_105 ?_
            obtain ⟨l1_75, el1_75, hf⟩ := ol_some hf
            obtain ⟨r_76, hrr_76, hf⟩ := ob_some hf
            have Jr_76 : ∀ (ls : Array Slot) (H : Heap) (locs : List Loc), lv_has ls 6 [(0, .ref (a 0)), (1, iv l1_75), (2, iv l2), (4, iv l4_68), (5, iv l5_71)] → XH D A H0 [((a 0), oM a M_edits M_typed M_readRows M_readColumns M_top M_bottom M_left M_right M_panes), ((a 1), aI cI 151 M_now), ((a 5), aI cI 49 M_queue), ((a 6), aI cI 49 M_pane), ((a 8), aI cI 49 M_size), ((a 10), aI cZ 2401 M_near), ((a 11), aI cI 49 M_nearMany)] H locs → W p l e rm_mo_findNear s m args below meth c H locs 0 0 Q (F0 m 131 ls [iv r_76, iv ((49 * l4_68) + l5_71), .ref (a 10)]) := by
              intro ls H locs hl h
              obtain ⟨g_77, hf⟩ := og_some hf
              obtain ⟨g_78, hf⟩ := og_some hf
              obtain ⟨M_near_79, eM_near_79, hf⟩ := ol_some hf
              obtain ⟨r_80, hrr_80, hf⟩ := ob_some hf
              have Jr_80 : ∀ (ls : Array Slot) (H : Heap) (locs : List Loc), lv_has ls 6 [(0, .ref (a 0)), (1, iv l1_75), (2, iv l2)] → XH D A H0 [((a 0), oM a M_edits M_typed M_readRows M_readColumns M_top M_bottom M_left M_right M_panes), ((a 1), aI cI 151 M_now), ((a 5), aI cI 49 M_queue), ((a 6), aI cI 49 M_pane), ((a 8), aI cI 49 M_size), ((a 10), aI cZ 2401 M_near_79), ((a 11), aI cI 49 M_nearMany)] H locs → W p l e rm_mo_findNear s m args below meth c H locs 0 0 Q (F0 m 156 ls [iv r_80, iv ((49 * l5_71) + l4_68), .ref (a 10)]) := by
                intro ls H locs hl h
                obtain ⟨g_81, hf⟩ := og_some hf
                obtain ⟨g_82, hf⟩ := og_some hf
                obtain ⟨M_near_83, eM_near_83, hf⟩ := ol_some hf
                refine x_zast C h (pc := 156) (ws' := [((a 0), oM a M_edits M_typed M_readRows M_readColumns M_top M_bottom M_left M_right M_panes), ((a 1), aI cI 151 M_now), ((a 5), aI cI 49 M_queue), ((a 6), aI cI 49 M_pane), ((a 8), aI cI 49 M_size), ((a 10), aI cZ 2401 M_near_83), ((a 11), aI cI 49 M_nearMany)]) 5 2 rfl rfl (Nat.le_of_ble_eq_true rfl) g_81 g_82 eM_near_83 rfl dX8_findNear_156 (fun H locs h => ?_)
                obtain ⟨l2_84, el2_84, hf⟩ := ol_some hf
                refine x_iinc C (pc := 157) (k := 2) (lw' := [(2, iv l2_84), (0, .ref (a 0)), (1, iv l1_75)]) dX8_findNear_157 hl rfl el2_84 (Nat.le_of_ble_eq_true rfl) rfl (fun ls hl => ?_)
                refine lv_goto hx hb (pc := 160) (tgt := 30) dX8_findNear_160 rfl ?_
                exact ih l1_75 l2_84 M_near_83 _ _ _ (lv_sub hl [1, 2, 0] rfl) h hf
              clear hf
              have hf := hrr_80
              refine x_zast C h (pc := 131) (ws' := [((a 0), oM a M_edits M_typed M_readRows M_readColumns M_top M_bottom M_left M_right M_panes), ((a 1), aI cI 151 M_now), ((a 5), aI cI 49 M_queue), ((a 6), aI cI 49 M_pane), ((a 8), aI cI 49 M_size), ((a 10), aI cZ 2401 M_near_79), ((a 11), aI cI 49 M_nearMany)]) 5 2 rfl rfl (Nat.le_of_ble_eq_true rfl) g_77 g_78 eM_near_79 rfl dX8_findNear_131 (fun H locs h => ?_)
              refine lv_aload_n hx hb (pc := 132) dX8_findNear_132 rfl (lv_at hl 0 rfl) ?_
              refine x_get C h (pc := 133) xf_X8_38 0 rfl (v := .ref (a 10)) rfl dX8_findNear_133 ?_
              refine x_bipush C (pc := 136) dX8_findNear_136 (by decide) ?_
              refine lv_iload hx hb (pc := 138) dX8_findNear_138 (lv_at hl 4 rfl) ?_
              refine x_imul C (pc := 140) dX8_findNear_140 ?_
              refine lv_iload hx hb (pc := 141) dX8_findNear_141 (lv_at hl 3 rfl) ?_
              refine x_iadd C (pc := 143) dX8_findNear_143 ?_
              refine lv_iload hx hb (pc := 144) dX8_findNear_144 (lv_at hl 3 rfl) ?_
              refine lv_iload hx hb (pc := 146) dX8_findNear_146 (lv_at hl 4 rfl) ?_
              refine x_icmpeq C (pc := 148) (tgt := 155) g_72 g_73 dX8_findNear_148 rfl (fun hc => ?_) (fun hc => ?_)
              · have hf := oi_t hf hc
                refine x_iconst C (pc := 155) dX8_findNear_155 ?_
                have e9 := Option.some.inj hf
                subst e9
                exact Jr_80 _ _ _ (lv_sub hl [0, 1, 2] rfl) h
              · have hf := oi_f hf hc
                refine x_iconst C (pc := 151) dX8_findNear_151 ?_
                refine lv_goto hx hb (pc := 152) (tgt := 156) dX8_findNear_152 rfl ?_
                have e9 := Option.some.inj hf
                subst e9
                exact Jr_80 _ _ _ (lv_sub hl [0, 1, 2] rfl) h
            clear hf
            have hf := hrr_76
            refine x_topi el1_75 ?_
            refine lv_istore_n hx hb (pc := 106) (lv' := [(1, iv l1_75), (0, .ref (a 0)), (2, iv l2), (4, iv l4_68), (5, iv l5_71)]) dX8_findNear_106 rfl hl (Nat.le_of_ble_eq_true rfl) rfl (fun ls hl => ?_)
            refine lv_aload_n hx hb (pc := 107) dX8_findNear_107 rfl (lv_at hl 1 rfl) ?_
            refine x_get C h (pc := 108) xf_X8_38 0 rfl (v := .ref (a 10)) rfl dX8_findNear_108 ?_
            refine x_bipush C (pc := 111) dX8_findNear_111 (by decide) ?_
            refine lv_iload hx hb (pc := 113) dX8_findNear_113 (lv_at hl 3 rfl) ?_
            refine x_imul C (pc := 115) dX8_findNear_115 ?_
            refine lv_iload hx hb (pc := 116) dX8_findNear_116 (lv_at hl 4 rfl) ?_
            refine x_iadd C (pc := 118) dX8_findNear_118 ?_
            refine lv_iload hx hb (pc := 119) dX8_findNear_119 (lv_at hl 3 rfl) ?_
            refine lv_iload hx hb (pc := 121) dX8_findNear_121 (lv_at hl 4 rfl) ?_
            refine x_icmpeq C (pc := 123) (tgt := 130) g_72 g_73 dX8_findNear_123 rfl (fun hc => ?_) (fun hc => ?_)
            · have hf := oi_t hf hc
              refine x_iconst C (pc := 130) dX8_findNear_130 ?_
              have e9 := Option.some.inj hf
              subst e9
              exact Jr_76 _ _ _ (lv_sub hl [1, 0, 2, 3, 4] rfl) h
            · have hf := oi_f hf hc
              refine x_iconst C (pc := 126) dX8_findNear_126 ?_
              refine lv_goto hx hb (pc := 127) (tgt := 131) dX8_findNear_127 rfl ?_
              have e9 := Option.some.inj hf
              subst e9
              exact Jr_76 _ _ _ (lv_sub hl [1, 0, 2, 3, 4] rfl) h
          clear hf
          have hf := hrr_74
          refine x_icmpeq C (pc := 97) (tgt := 104) g_72 g_73 dX8_findNear_97 rfl (fun hc => ?_) (fun hc => ?_)
          · have hf := oi_t hf hc
            refine x_iconst C (pc := 104) dX8_findNear_104 ?_
            have e9 := Option.some.inj hf
            subst e9
            exact Jr_74 _ _ _ (lv_sub hl [3, 5, 1, 0] rfl) h
          · have hf := oi_f hf hc
            refine x_iconst C (pc := 100) dX8_findNear_100 ?_
            refine lv_goto hx hb (pc := 101) (tgt := 105) dX8_findNear_101 rfl ?_
            have e9 := Option.some.inj hf
            subst e9
            exact Jr_74 _ _ _ (lv_sub hl [3, 5, 1, 0] rfl) h
set_option maxHeartbeats 4000000 in
set_option maxRecDepth 100000 in
theorem w_mo_findNear_6 {p : Program} {l : Launch} {e : Env} {s : State} {m : MethodId} {args : Array Value} {below : List Frame} {meth : Method} {c : Code} {Q : State → Prop} {D : va_G} {cI cJ cZ cO : ClassId} {A : Nat → Prop} {H0 : Heap} {w0 : Cond} (C : XC p s m args c cX8_findNear 6 RX8 w0 D (xT cI cJ cZ cO)) (a : Nat → Nat) (M_edits : Int) (M_typed : Int) (M_readRows : Int) (M_readColumns : Int) (M_now : Int → Int) (Res : Int × Int × Int × Int × Int × Int × (Int → Int) × (Int → Int) × (Int → Int) × (Int → Int) × (Int → Int)) (hret : XRI p l e rm_mo_findNear s m args below meth c cX8_findNear D A H0 Q Res.1 [((a 0), oM a M_edits M_typed M_readRows M_readColumns Res.2.1 Res.2.2.1 Res.2.2.2.1 Res.2.2.2.2.1 Res.2.2.2.2.2.1), ((a 1), aI cI 151 M_now), ((a 5), aI cI 49 Res.2.2.2.2.2.2.1), ((a 6), aI cI 49 Res.2.2.2.2.2.2.2.1), ((a 8), aI cI 49 Res.2.2.2.2.2.2.2.2.1), ((a 10), aI cZ 2401 Res.2.2.2.2.2.2.2.2.2.1), ((a 11), aI cI 49 Res.2.2.2.2.2.2.2.2.2.2)]) (N : Nat) (M_top : Int) (M_bottom : Int) (M_left : Int) (M_right : Int) (M_panes : Int) (M_queue : Int → Int) (M_pane : Int → Int) (M_size : Int → Int) (M_nearMany : Int → Int) : ∀ (n : Nat) (l1 : Int) (M_near : Int → Int) (ls : Array Slot) (H : Heap) (locs : List Loc), lv_has ls 6 [(0, .ref (a 0)), (1, iv l1)] → XH D A H0 [((a 0), oM a M_edits M_typed M_readRows M_readColumns M_top M_bottom M_left M_right M_panes), ((a 1), aI cI 151 M_now), ((a 5), aI cI 49 M_queue), ((a 6), aI cI 49 M_pane), ((a 8), aI cI 49 M_size), ((a 10), aI cZ 2401 M_near), ((a 11), aI cI 49 M_nearMany)] H locs → f_mo_findNear_6 N M_top M_bottom M_left M_right M_panes M_queue M_pane M_size M_nearMany M_now n l1 M_near = some Res → W p l e rm_mo_findNear s m args below meth c H locs 0 0 Q (F0 m 6 ls []) := by
  have hx := C.1.1
  have hb := C.1.2.1
  intro n
  induction n with
  | zero => intro l1 M_near ls H locs hl h hf; cases hf
  | succ n ih =>
    intro l1 M_near ls H locs hl h hf
    rw [f_mo_findNear_6.eq_2] at hf
    refine lv_iload_n hx hb (pc := 6) dX8_findNear_6 rfl (lv_at hl 1 rfl) ?_
    refine x_sipush C (pc := 7) dX8_findNear_7 (by decide) ?_
    obtain ⟨g_53, hf⟩ := og_some hf
    refine x_icmpge C (pc := 10) (tgt := 26) g_53 ⟨by decide, by decide⟩ dX8_findNear_10 rfl (fun hc => ?_) (fun hc => ?_)
    · have hf := oi_t hf hc
      refine x_iconst C (pc := 26) dX8_findNear_26 ?_
      refine lv_istore_n hx hb (pc := 27) (lv' := [(1, iv 0), (0, .ref (a 0))]) dX8_findNear_27 rfl hl (Nat.le_of_ble_eq_true rfl) rfl (fun ls hl => ?_)
      refine x_iconst C (pc := 28) dX8_findNear_28 ?_
      refine lv_istore_n hx hb (pc := 29) (lv' := [(2, iv 0), (1, iv 0), (0, .ref (a 0))]) dX8_findNear_29 rfl hl (Nat.le_of_ble_eq_true rfl) rfl (fun ls hl => ?_)
      exact w_mo_findNear_30 C a M_edits M_typed M_readRows M_readColumns M_now Res hret N M_top M_bottom M_left M_right M_panes M_queue M_pane M_size M_nearMany N 0 0 M_near _ _ _ (lv_sub hl [2, 1, 0] rfl) h hf
    · have hf := oi_f hf hc
      refine lv_aload_n hx hb (pc := 13) dX8_findNear_13 rfl (lv_at hl 0 rfl) ?_
      refine x_get C h (pc := 14) xf_X8_38 0 rfl (v := .ref (a 10)) rfl dX8_findNear_14 ?_
      refine lv_iload_n hx hb (pc := 17) dX8_findNear_17 rfl (lv_at hl 1 rfl) ?_
      refine x_iconst C (pc := 18) dX8_findNear_18 ?_
      obtain ⟨g_54, hf⟩ := og_some hf
      obtain ⟨M_near_55, eM_near_55, hf⟩ := ol_some hf
      refine x_zast C h (pc := 19) (ws' := [((a 0), oM a M_edits M_typed M_readRows M_readColumns M_top M_bottom M_left M_right M_panes), ((a 1), aI cI 151 M_now), ((a 5), aI cI 49 M_queue), ((a 6), aI cI 49 M_pane), ((a 8), aI cI 49 M_size), ((a 10), aI cZ 2401 M_near_55), ((a 11), aI cI 49 M_nearMany)]) 5 2 rfl rfl (Nat.le_of_ble_eq_true rfl) g_54 (Or.inl rfl) eM_near_55 rfl dX8_findNear_19 (fun H locs h => ?_)
      obtain ⟨l1_56, el1_56, hf⟩ := ol_some hf
      refine x_iinc C (pc := 20) (k := 1) (lw' := [(1, iv l1_56), (0, .ref (a 0))]) dX8_findNear_20 hl rfl el1_56 (Nat.le_of_ble_eq_true rfl) rfl (fun ls hl => ?_)
      refine lv_goto hx hb (pc := 23) (tgt := 6) dX8_findNear_23 rfl ?_
      exact ih l1_56 M_near_55 _ _ _ (lv_sub hl [1, 0] rfl) h hf
set_option maxHeartbeats 4000000 in
set_option maxRecDepth 100000 in
theorem c_mo_findNear (l : Launch) (D : va_G) (cI cJ cZ cO : ClassId) (a : Nat → Nat) (M_edits : Int) (M_typed : Int) (M_readRows : Int) (M_readColumns : Int) (M_top : Int) (M_bottom : Int) (M_left : Int) (M_right : Int) (M_panes : Int) (M_now : Int → Int) (M_queue : Int → Int) (M_pane : Int → Int) (M_size : Int → Int) (M_near : Int → Int) (M_nearMany : Int → Int) (N : Nat) (Res : Int × Int × Int × Int × Int × Int × (Int → Int) × (Int → Int) × (Int → Int) × (Int → Int) × (Int → Int)) (hf : f_mo_findNear N M_top M_bottom M_left M_right M_panes M_now M_queue M_pane M_size M_near M_nearMany = some Res) : CoI l D (xT cI cJ cZ cO) yX8_findNear cX8_findNear 6 (some .int) rm_mo_findNear [.ref (a 0)] [((a 0), oM a M_edits M_typed M_readRows M_readColumns M_top M_bottom M_left M_right M_panes), ((a 1), aI cI 151 M_now), ((a 5), aI cI 49 M_queue), ((a 6), aI cI 49 M_pane), ((a 8), aI cI 49 M_size), ((a 10), aI cZ 2401 M_near), ((a 11), aI cI 49 M_nearMany)] Res.1 [((a 0), oM a M_edits M_typed M_readRows M_readColumns Res.2.1 Res.2.2.1 Res.2.2.2.1 Res.2.2.2.2.1 Res.2.2.2.2.2.1), ((a 1), aI cI 151 M_now), ((a 5), aI cI 49 Res.2.2.2.2.2.2.1), ((a 6), aI cI 49 Res.2.2.2.2.2.2.2.1), ((a 8), aI cI 49 Res.2.2.2.2.2.2.2.2.1), ((a 10), aI cZ 2401 Res.2.2.2.2.2.2.2.2.2.1), ((a 11), aI cI 49 Res.2.2.2.2.2.2.2.2.2.2)] := by
  refine co_i (by decide) ⟨rfl, rfl⟩ (Nat.le_of_ble_eq_true rfl) ?_
  intro p e s m args below meth c A Q ls C hret hl h
  have hx := C.1.1
  have hb := C.1.2.1
  have hl : lv_has ls 6 [(0, .ref (a 0))] := hl
  unfold f_mo_findNear at hf
  refine lv_aload_n hx hb (pc := 0) dX8_findNear_0 rfl (lv_at hl 0 rfl) ?_
  obtain ⟨q_52, hq_52, hf⟩ := ob_some hf
  refine x_callVv C h (pc := 1) hl (c_mo_findPanes l D cI cJ cZ cO a M_edits M_typed M_readRows M_readColumns M_top M_bottom M_left M_right M_panes M_now M_queue M_pane M_size N q_52 hq_52) xv_X8_findPanes lk_X8_89 ⟨(Nat.le_of_ble_eq_true rfl), (Nat.le_of_ble_eq_true rfl)⟩ rfl [0, 1, 2, 3, 4] [5, 6] (nw := 7) (wr := [((a 10), aI cZ 2401 M_near), ((a 11), aI cI 49 M_nearMany)]) (as := [(a 0), (a 1), (a 5), (a 6), (a 8), (a 10), (a 11)]) (ws' := [((a 0), oM a M_edits M_typed M_readRows M_readColumns q_52.1 q_52.2.1 q_52.2.2.1 q_52.2.2.2.1 q_52.2.2.2.2.1), ((a 1), aI cI 151 M_now), ((a 5), aI cI 49 q_52.2.2.2.2.2.1), ((a 6), aI cI 49 q_52.2.2.2.2.2.2.1), ((a 8), aI cI 49 q_52.2.2.2.2.2.2.2), ((a 10), aI cZ 2401 M_near), ((a 11), aI cI 49 M_nearMany)]) rfl rfl rfl rfl rfl rfl rfl rfl rfl 0 rfl rfl rfl rfl (Nat.le_of_ble_eq_true rfl) dX8_findNear_1 (fun H locs h => ?_)
  refine x_iconst C (pc := 4) dX8_findNear_4 ?_
  refine lv_istore_n hx hb (pc := 5) (lv' := [(1, iv 0), (0, .ref (a 0))]) dX8_findNear_5 rfl hl (Nat.le_of_ble_eq_true rfl) rfl (fun ls hl => ?_)
  exact w_mo_findNear_6 C a M_edits M_typed M_readRows M_readColumns M_now Res hret N q_52.1 q_52.2.1 q_52.2.2.1 q_52.2.2.2.1 q_52.2.2.2.2.1 q_52.2.2.2.2.2.1 q_52.2.2.2.2.2.2.1 q_52.2.2.2.2.2.2.2 M_nearMany N 0 M_near _ _ _ (lv_sub hl [1, 0] rfl) h hf
abbrev rm_mo_neighbourCount : Room := { frames := 5, cells := 0, slots := 0, locals := 120 }
set_option maxHeartbeats 4000000 in
set_option maxRecDepth 100000 in
theorem c_mo_neighbourCount (l : Launch) (D : va_G) (cI cJ cZ cO : ClassId) (a : Nat → Nat) (M_edits : Int) (M_typed : Int) (M_readRows : Int) (M_readColumns : Int) (M_top : Int) (M_bottom : Int) (M_left : Int) (M_right : Int) (M_panes : Int) (M_now : Int → Int) (M_queue : Int → Int) (M_pane : Int → Int) (M_size : Int → Int) (M_near : Int → Int) (M_nearMany : Int → Int) (l1 : Int) (N : Nat) (Res : Int × Int × Int × Int × Int × Int × (Int → Int) × (Int → Int) × (Int → Int) × (Int → Int) × (Int → Int)) (hf : f_mo_neighbourCount N l1 M_top M_bottom M_left M_right M_panes M_now M_queue M_pane M_size M_near M_nearMany = some Res) : CoI l D (xT cI cJ cZ cO) yX8_neighbourCount cX8_neighbourCount 3 (some .int) rm_mo_neighbourCount [.ref (a 0), iv l1] [((a 0), oM a M_edits M_typed M_readRows M_readColumns M_top M_bottom M_left M_right M_panes), ((a 1), aI cI 151 M_now), ((a 5), aI cI 49 M_queue), ((a 6), aI cI 49 M_pane), ((a 8), aI cI 49 M_size), ((a 10), aI cZ 2401 M_near), ((a 11), aI cI 49 M_nearMany)] Res.1 [((a 0), oM a M_edits M_typed M_readRows M_readColumns Res.2.1 Res.2.2.1 Res.2.2.2.1 Res.2.2.2.2.1 Res.2.2.2.2.2.1), ((a 1), aI cI 151 M_now), ((a 5), aI cI 49 Res.2.2.2.2.2.2.1), ((a 6), aI cI 49 Res.2.2.2.2.2.2.2.1), ((a 8), aI cI 49 Res.2.2.2.2.2.2.2.2.1), ((a 10), aI cZ 2401 Res.2.2.2.2.2.2.2.2.2.1), ((a 11), aI cI 49 Res.2.2.2.2.2.2.2.2.2.2)] := by
  refine co_i (by decide) ⟨rfl, rfl⟩ (Nat.le_of_ble_eq_true rfl) ?_
  intro p e s m args below meth c A Q ls C hret hl h
  have hx := C.1.1
  have hb := C.1.2.1
  have hl : lv_has ls 3 [(0, .ref (a 0)), (1, iv l1)] := hl
  unfold f_mo_neighbourCount at hf
  refine lv_aload_n hx hb (pc := 0) dX8_neighbourCount_0 rfl (lv_at hl 0 rfl) ?_
  obtain ⟨q_1, hq_1, hf⟩ := ob_some hf
  refine x_callVi C h (pc := 1) hl (c_mo_findNear l D cI cJ cZ cO a M_edits M_typed M_readRows M_readColumns M_top M_bottom M_left M_right M_panes M_now M_queue M_pane M_size M_near M_nearMany N q_1 hq_1) xv_X8_findNear lk_X8_168 ⟨(Nat.le_of_ble_eq_true rfl), (Nat.le_of_ble_eq_true rfl)⟩ rfl [0, 1, 2, 3, 4, 5, 6] [] (nw := 7) (wr := []) (as := [(a 0), (a 1), (a 5), (a 6), (a 8), (a 10), (a 11)]) (ws' := [((a 0), oM a M_edits M_typed M_readRows M_readColumns q_1.2.1 q_1.2.2.1 q_1.2.2.2.1 q_1.2.2.2.2.1 q_1.2.2.2.2.2.1), ((a 1), aI cI 151 M_now), ((a 5), aI cI 49 q_1.2.2.2.2.2.2.1), ((a 6), aI cI 49 q_1.2.2.2.2.2.2.2.1), ((a 8), aI cI 49 q_1.2.2.2.2.2.2.2.2.1), ((a 10), aI cZ 2401 q_1.2.2.2.2.2.2.2.2.2.1), ((a 11), aI cI 49 q_1.2.2.2.2.2.2.2.2.2.2)]) rfl rfl rfl rfl rfl rfl rfl rfl rfl 0 rfl rfl rfl rfl (Nat.le_of_ble_eq_true rfl) dX8_neighbourCount_1 (fun H locs h => ?_)
  refine lv_istore_n hx hb (pc := 4) (lv' := [(2, iv q_1.1), (0, .ref (a 0)), (1, iv l1)]) dX8_neighbourCount_4 rfl hl (Nat.le_of_ble_eq_true rfl) rfl (fun ls hl => ?_)
  refine lv_iload_n hx hb (pc := 5) dX8_neighbourCount_5 rfl (lv_at hl 2 rfl) ?_
  refine x_iconst C (pc := 6) dX8_neighbourCount_6 ?_
  refine lv_aload_n hx hb (pc := 7) dX8_neighbourCount_7 rfl (lv_at hl 1 rfl) ?_
  refine x_get C h (pc := 8) xf_X8_92 0 rfl (v := iv q_1.2.2.2.2.2.1) rfl dX8_neighbourCount_8 ?_
  refine x_iconst C (pc := 11) dX8_neighbourCount_11 ?_
  refine x_isub C (pc := 12) dX8_neighbourCount_12 ?_
  obtain ⟨q_2, hq_2, hf⟩ := ob_some hf
  refine x_callSi C h (pc := 13) hl (c_mo_in l D cI cJ cZ cO a l1 0 (q_1.2.2.2.2.2.1 - 1) N q_2 hq_2) xs_X8_in lk_X8_65 ⟨(Nat.le_of_ble_eq_true rfl), (Nat.le_of_ble_eq_true rfl)⟩ rfl [] [0, 1, 2, 3, 4, 5, 6] (nw := 7) (wr := [((a 0), oM a M_edits M_typed M_readRows M_readColumns q_1.2.1 q_1.2.2.1 q_1.2.2.2.1 q_1.2.2.2.2.1 q_1.2.2.2.2.2.1), ((a 1), aI cI 151 M_now), ((a 5), aI cI 49 q_1.2.2.2.2.2.2.1), ((a 6), aI cI 49 q_1.2.2.2.2.2.2.2.1), ((a 8), aI cI 49 q_1.2.2.2.2.2.2.2.2.1), ((a 10), aI cZ 2401 q_1.2.2.2.2.2.2.2.2.2.1), ((a 11), aI cI 49 q_1.2.2.2.2.2.2.2.2.2.2)]) (as := [(a 0), (a 1), (a 5), (a 6), (a 8), (a 10), (a 11)]) (ws' := [((a 0), oM a M_edits M_typed M_readRows M_readColumns q_1.2.1 q_1.2.2.1 q_1.2.2.2.1 q_1.2.2.2.2.1 q_1.2.2.2.2.2.1), ((a 1), aI cI 151 M_now), ((a 5), aI cI 49 q_1.2.2.2.2.2.2.1), ((a 6), aI cI 49 q_1.2.2.2.2.2.2.2.1), ((a 8), aI cI 49 q_1.2.2.2.2.2.2.2.2.1), ((a 10), aI cZ 2401 q_1.2.2.2.2.2.2.2.2.2.1), ((a 11), aI cI 49 q_1.2.2.2.2.2.2.2.2.2.2)]) rfl rfl rfl rfl rfl rfl rfl rfl rfl rfl (Nat.le_of_ble_eq_true rfl) dX8_neighbourCount_13 (fun H locs h => ?_)
  obtain ⟨g_3, hf⟩ := og_some hf
  refine x_ifeq C (pc := 16) (tgt := 28) g_3 dX8_neighbourCount_16 rfl (fun hc => ?_) (fun hc => ?_)
  · have hf := oi_t hf hc
    refine x_iconst C (pc := 28) dX8_neighbourCount_28 ?_
    have e9 := Option.some.inj hf
    subst e9
    exact hret _ _ _ _ dX8_neighbourCount_29 h
  · have hf := oi_f hf hc
    refine lv_aload_n hx hb (pc := 19) dX8_neighbourCount_19 rfl (lv_at hl 1 rfl) ?_
    refine x_get C h (pc := 20) xf_X8_41 0 rfl (v := .ref (a 11)) rfl dX8_neighbourCount_20 ?_
    refine lv_iload_n hx hb (pc := 23) dX8_neighbourCount_23 rfl (lv_at hl 2 rfl) ?_
    obtain ⟨g_4, hf⟩ := og_some hf
    refine x_iald C h (pc := 24) 6 0 rfl rfl (Nat.le_of_ble_eq_true rfl) g_4 dX8_neighbourCount_24 ?_
    refine lv_goto hx hb (pc := 25) (tgt := 29) dX8_neighbourCount_25 rfl ?_
    have e9 := Option.some.inj hf
    subst e9
    exact hret _ _ _ _ dX8_neighbourCount_29 h
abbrev rm_mo_leadLength : Room := { frames := 5, cells := 0, slots := 0, locals := 120 }
set_option maxHeartbeats 4000000 in
set_option maxRecDepth 100000 in
theorem c_mo_leadLength (l : Launch) (D : va_G) (cI cJ cZ cO : ClassId) (a : Nat → Nat) (M_edits : Int) (M_typed : Int) (M_readRows : Int) (M_readColumns : Int) (M_top : Int) (M_bottom : Int) (M_left : Int) (M_right : Int) (M_panes : Int) (M_now : Int → Int) (M_queue : Int → Int) (M_pane : Int → Int) (M_size : Int → Int) (M_near : Int → Int) (M_nearMany : Int → Int) (N : Nat) (Res : Int × Int × Int × Int × Int × Int × (Int → Int) × (Int → Int) × (Int → Int) × (Int → Int) × (Int → Int)) (hf : f_mo_leadLength N M_top M_bottom M_left M_right M_panes M_now M_queue M_pane M_size M_near M_nearMany = some Res) : CoI l D (xT cI cJ cZ cO) yX8_leadLength cX8_leadLength 1 (some .int) rm_mo_leadLength [.ref (a 0)] [((a 0), oM a M_edits M_typed M_readRows M_readColumns M_top M_bottom M_left M_right M_panes), ((a 1), aI cI 151 M_now), ((a 5), aI cI 49 M_queue), ((a 6), aI cI 49 M_pane), ((a 8), aI cI 49 M_size), ((a 10), aI cZ 2401 M_near), ((a 11), aI cI 49 M_nearMany)] Res.1 [((a 0), oM a M_edits M_typed M_readRows M_readColumns Res.2.1 Res.2.2.1 Res.2.2.2.1 Res.2.2.2.2.1 Res.2.2.2.2.2.1), ((a 1), aI cI 151 M_now), ((a 5), aI cI 49 Res.2.2.2.2.2.2.1), ((a 6), aI cI 49 Res.2.2.2.2.2.2.2.1), ((a 8), aI cI 49 Res.2.2.2.2.2.2.2.2.1), ((a 10), aI cZ 2401 Res.2.2.2.2.2.2.2.2.2.1), ((a 11), aI cI 49 Res.2.2.2.2.2.2.2.2.2.2)] := by
  refine co_i (by decide) ⟨rfl, rfl⟩ (Nat.le_of_ble_eq_true rfl) ?_
  intro p e s m args below meth c A Q ls C hret hl h
  have hx := C.1.1
  have hb := C.1.2.1
  have hl : lv_has ls 1 [(0, .ref (a 0))] := hl
  unfold f_mo_leadLength at hf
  refine lv_aload_n hx hb (pc := 0) dX8_leadLength_0 rfl (lv_at hl 0 rfl) ?_
  obtain ⟨q_1, hq_1, hf⟩ := ob_some hf
  refine x_callVi C h (pc := 1) hl (c_mo_findNear l D cI cJ cZ cO a M_edits M_typed M_readRows M_readColumns M_top M_bottom M_left M_right M_panes M_now M_queue M_pane M_size M_near M_nearMany N q_1 hq_1) xv_X8_findNear lk_X8_168 ⟨(Nat.le_of_ble_eq_true rfl), (Nat.le_of_ble_eq_true rfl)⟩ rfl [0, 1, 2, 3, 4, 5, 6] [] (nw := 7) (wr := []) (as := [(a 0), (a 1), (a 5), (a 6), (a 8), (a 10), (a 11)]) (ws' := [((a 0), oM a M_edits M_typed M_readRows M_readColumns q_1.2.1 q_1.2.2.1 q_1.2.2.2.1 q_1.2.2.2.2.1 q_1.2.2.2.2.2.1), ((a 1), aI cI 151 M_now), ((a 5), aI cI 49 q_1.2.2.2.2.2.2.1), ((a 6), aI cI 49 q_1.2.2.2.2.2.2.2.1), ((a 8), aI cI 49 q_1.2.2.2.2.2.2.2.2.1), ((a 10), aI cZ 2401 q_1.2.2.2.2.2.2.2.2.2.1), ((a 11), aI cI 49 q_1.2.2.2.2.2.2.2.2.2.2)]) rfl rfl rfl rfl rfl rfl rfl rfl rfl 0 rfl rfl rfl rfl (Nat.le_of_ble_eq_true rfl) dX8_leadLength_1 (fun H locs h => ?_)
  have e9 := Option.some.inj hf
  subst e9
  exact hret _ _ _ _ dX8_leadLength_4 h
abbrev rm_mo_setCellLimit : Room := { frames := 2, cells := 0, slots := 0, locals := 44 }
set_option maxHeartbeats 4000000 in
set_option maxRecDepth 100000 in
theorem c_mo_setCellLimit (l : Launch) (D : va_G) (cI cJ cZ cO : ClassId) (a : Nat → Nat) (M_edits : Int) (M_typed : Int) (M_readRows : Int) (M_readColumns : Int) (M_top : Int) (M_bottom : Int) (M_left : Int) (M_right : Int) (M_panes : Int) (M_now : Int → Int) (M_past : Int → Int) (l1 : Int) (N : Nat) (Res : Int × Int × (Int → Int) × (Int → Int)) (hf : f_mo_setCellLimit N l1 M_edits M_now M_past = some Res) : CoI l D (xT cI cJ cZ cO) yX8_setCellLimit cX8_setCellLimit 2 (some .int) rm_mo_setCellLimit [.ref (a 0), iv l1] [((a 0), oM a M_edits M_typed M_readRows M_readColumns M_top M_bottom M_left M_right M_panes), ((a 1), aI cI 151 M_now), ((a 2), aI cI 1208 M_past)] Res.1 [((a 0), oM a Res.2.1 M_typed M_readRows M_readColumns M_top M_bottom M_left M_right M_panes), ((a 1), aI cI 151 Res.2.2.1), ((a 2), aI cI 1208 Res.2.2.2)] := by
  refine co_i (by decide) ⟨rfl, rfl⟩ (Nat.le_of_ble_eq_true rfl) ?_
  intro p e s m args below meth c A Q ls C hret hl h
  have hx := C.1.1
  have hb := C.1.2.1
  have hl : lv_has ls 2 [(0, .ref (a 0)), (1, iv l1)] := hl
  unfold f_mo_setCellLimit at hf
  refine lv_iload_n hx hb (pc := 0) dX8_setCellLimit_0 rfl (lv_at hl 1 rfl) ?_
  refine x_iconst C (pc := 1) dX8_setCellLimit_1 ?_
  refine x_bipush C (pc := 2) dX8_setCellLimit_2 (by decide) ?_
  obtain ⟨q_1, hq_1, hf⟩ := ob_some hf
  refine x_callSi C h (pc := 4) hl (c_mo_in l D cI cJ cZ cO a l1 1 49 N q_1 hq_1) xs_X8_in lk_X8_65 ⟨(Nat.le_of_ble_eq_true rfl), (Nat.le_of_ble_eq_true rfl)⟩ rfl [] [0, 1, 2] (nw := 3) (wr := [((a 0), oM a M_edits M_typed M_readRows M_readColumns M_top M_bottom M_left M_right M_panes), ((a 1), aI cI 151 M_now), ((a 2), aI cI 1208 M_past)]) (as := [(a 0), (a 1), (a 2)]) (ws' := [((a 0), oM a M_edits M_typed M_readRows M_readColumns M_top M_bottom M_left M_right M_panes), ((a 1), aI cI 151 M_now), ((a 2), aI cI 1208 M_past)]) rfl rfl rfl rfl rfl rfl rfl rfl rfl rfl (Nat.le_of_ble_eq_true rfl) dX8_setCellLimit_4 (fun H locs h => ?_)
  obtain ⟨g_2, hf⟩ := og_some hf
  refine x_ifeq C (pc := 7) (tgt := 19) g_2 dX8_setCellLimit_7 rfl (fun hc => ?_) (fun hc => ?_)
  · have hf := oi_t hf hc
    refine x_iconst C (pc := 19) dX8_setCellLimit_19 ?_
    have e9 := Option.some.inj hf
    subst e9
    exact hret _ _ _ _ dX8_setCellLimit_20 h
  · have hf := oi_f hf hc
    refine lv_aload_n hx hb (pc := 10) dX8_setCellLimit_10 rfl (lv_at hl 0 rfl) ?_
    refine x_iconst C (pc := 11) dX8_setCellLimit_11 ?_
    refine lv_iload_n hx hb (pc := 12) dX8_setCellLimit_12 rfl (lv_at hl 1 rfl) ?_
    obtain ⟨q_3, hq_3, hf⟩ := ob_some hf
    refine x_callVi C h (pc := 13) hl (c_mo_changed l D cI cJ cZ cO a M_edits M_typed M_readRows M_readColumns M_top M_bottom M_left M_right M_panes M_now M_past 2 l1 N q_3 hq_3) xv_X8_changed lk_X8_99 ⟨(Nat.le_of_ble_eq_true rfl), (Nat.le_of_ble_eq_true rfl)⟩ rfl [0, 1, 2] [] (nw := 3) (wr := []) (as := [(a 0), (a 1), (a 2)]) (ws' := [((a 0), oM a q_3.2.1 M_typed M_readRows M_readColumns M_top M_bottom M_left M_right M_panes), ((a 1), aI cI 151 q_3.2.2.1), ((a 2), aI cI 1208 q_3.2.2.2)]) rfl rfl rfl rfl rfl rfl rfl rfl rfl 0 rfl rfl rfl rfl (Nat.le_of_ble_eq_true rfl) dX8_setCellLimit_13 (fun H locs h => ?_)
    refine lv_goto hx hb (pc := 16) (tgt := 20) dX8_setCellLimit_16 rfl ?_
    have e9 := Option.some.inj hf
    subst e9
    exact hret _ _ _ _ dX8_setCellLimit_20 h
abbrev rm_mo_setCornerLimit : Room := { frames := 2, cells := 0, slots := 0, locals := 44 }
set_option maxHeartbeats 4000000 in
set_option maxRecDepth 100000 in
theorem c_mo_setCornerLimit (l : Launch) (D : va_G) (cI cJ cZ cO : ClassId) (a : Nat → Nat) (M_edits : Int) (M_typed : Int) (M_readRows : Int) (M_readColumns : Int) (M_top : Int) (M_bottom : Int) (M_left : Int) (M_right : Int) (M_panes : Int) (M_now : Int → Int) (M_past : Int → Int) (l1 : Int) (N : Nat) (Res : Int × Int × (Int → Int) × (Int → Int)) (hf : f_mo_setCornerLimit N l1 M_edits M_now M_past = some Res) : CoI l D (xT cI cJ cZ cO) yX8_setCornerLimit cX8_setCornerLimit 2 (some .int) rm_mo_setCornerLimit [.ref (a 0), iv l1] [((a 0), oM a M_edits M_typed M_readRows M_readColumns M_top M_bottom M_left M_right M_panes), ((a 1), aI cI 151 M_now), ((a 2), aI cI 1208 M_past)] Res.1 [((a 0), oM a Res.2.1 M_typed M_readRows M_readColumns M_top M_bottom M_left M_right M_panes), ((a 1), aI cI 151 Res.2.2.1), ((a 2), aI cI 1208 Res.2.2.2)] := by
  refine co_i (by decide) ⟨rfl, rfl⟩ (Nat.le_of_ble_eq_true rfl) ?_
  intro p e s m args below meth c A Q ls C hret hl h
  have hx := C.1.1
  have hb := C.1.2.1
  have hl : lv_has ls 2 [(0, .ref (a 0)), (1, iv l1)] := hl
  unfold f_mo_setCornerLimit at hf
  refine lv_iload_n hx hb (pc := 0) dX8_setCornerLimit_0 rfl (lv_at hl 1 rfl) ?_
  refine x_iconst C (pc := 1) dX8_setCornerLimit_1 ?_
  refine x_bipush C (pc := 2) dX8_setCornerLimit_2 (by decide) ?_
  obtain ⟨q_1, hq_1, hf⟩ := ob_some hf
  refine x_callSi C h (pc := 4) hl (c_mo_in l D cI cJ cZ cO a l1 0 8 N q_1 hq_1) xs_X8_in lk_X8_65 ⟨(Nat.le_of_ble_eq_true rfl), (Nat.le_of_ble_eq_true rfl)⟩ rfl [] [0, 1, 2] (nw := 3) (wr := [((a 0), oM a M_edits M_typed M_readRows M_readColumns M_top M_bottom M_left M_right M_panes), ((a 1), aI cI 151 M_now), ((a 2), aI cI 1208 M_past)]) (as := [(a 0), (a 1), (a 2)]) (ws' := [((a 0), oM a M_edits M_typed M_readRows M_readColumns M_top M_bottom M_left M_right M_panes), ((a 1), aI cI 151 M_now), ((a 2), aI cI 1208 M_past)]) rfl rfl rfl rfl rfl rfl rfl rfl rfl rfl (Nat.le_of_ble_eq_true rfl) dX8_setCornerLimit_4 (fun H locs h => ?_)
  obtain ⟨g_2, hf⟩ := og_some hf
  refine x_ifeq C (pc := 7) (tgt := 19) g_2 dX8_setCornerLimit_7 rfl (fun hc => ?_) (fun hc => ?_)
  · have hf := oi_t hf hc
    refine x_iconst C (pc := 19) dX8_setCornerLimit_19 ?_
    have e9 := Option.some.inj hf
    subst e9
    exact hret _ _ _ _ dX8_setCornerLimit_20 h
  · have hf := oi_f hf hc
    refine lv_aload_n hx hb (pc := 10) dX8_setCornerLimit_10 rfl (lv_at hl 0 rfl) ?_
    refine x_iconst C (pc := 11) dX8_setCornerLimit_11 ?_
    refine lv_iload_n hx hb (pc := 12) dX8_setCornerLimit_12 rfl (lv_at hl 1 rfl) ?_
    obtain ⟨q_3, hq_3, hf⟩ := ob_some hf
    refine x_callVi C h (pc := 13) hl (c_mo_changed l D cI cJ cZ cO a M_edits M_typed M_readRows M_readColumns M_top M_bottom M_left M_right M_panes M_now M_past 3 l1 N q_3 hq_3) xv_X8_changed lk_X8_99 ⟨(Nat.le_of_ble_eq_true rfl), (Nat.le_of_ble_eq_true rfl)⟩ rfl [0, 1, 2] [] (nw := 3) (wr := []) (as := [(a 0), (a 1), (a 2)]) (ws' := [((a 0), oM a q_3.2.1 M_typed M_readRows M_readColumns M_top M_bottom M_left M_right M_panes), ((a 1), aI cI 151 q_3.2.2.1), ((a 2), aI cI 1208 q_3.2.2.2)]) rfl rfl rfl rfl rfl rfl rfl rfl rfl 0 rfl rfl rfl rfl (Nat.le_of_ble_eq_true rfl) dX8_setCornerLimit_13 (fun H locs h => ?_)
    refine lv_goto hx hb (pc := 16) (tgt := 20) dX8_setCornerLimit_16 rfl ?_
    have e9 := Option.some.inj hf
    subst e9
    exact hret _ _ _ _ dX8_setCornerLimit_20 h
