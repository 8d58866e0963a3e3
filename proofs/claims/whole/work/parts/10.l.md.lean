abbrev rm_mo_leftNear : Room := { frames := 0, cells := 0, slots := 0, locals := 0 }
set_option maxHeartbeats 4000000 in
set_option maxRecDepth 100000 in
theorem w_mo_leftNear_4 {p : Program} {l : Launch} {e : Env} {s : State} {m : MethodId} {args : Array Value} {below : List Frame} {meth : Method} {c : Code} {Q : State → Prop} {D : va_G} {cI cJ cZ cO : ClassId} {A : Nat → Prop} {H0 : Heap} {w0 : Cond} (C : XC p s m args c cX8_leftNear 4 RX8 w0 D (xT cI cJ cZ cO)) (a : Nat → Nat) (M_edits : Int) (M_typed : Int) (M_readRows : Int) (M_readColumns : Int) (M_top : Int) (M_bottom : Int) (M_left : Int) (M_right : Int) (M_panes : Int) (M_near : Int → Int) (M_isGone : Int → Int) (Res : Int) (hret : XRI p l e rm_mo_leftNear s m args below meth c cX8_leftNear D A H0 Q Res [((a 0), oM a M_edits M_typed M_readRows M_readColumns M_top M_bottom M_left M_right M_panes), ((a 10), aI cZ 2401 M_near), ((a 17), aI cZ 49 M_isGone)]) (N : Nat) (l1 : Int) : ∀ (n : Nat) (l2 : Int) (l3 : Int) (ls : Array Slot) (H : Heap) (locs : List Loc), lv_has ls 4 [(0, .ref (a 0)), (1, iv l1), (2, iv l2), (3, iv l3)] → XH D A H0 [((a 0), oM a M_edits M_typed M_readRows M_readColumns M_top M_bottom M_left M_right M_panes), ((a 10), aI cZ 2401 M_near), ((a 17), aI cZ 49 M_isGone)] H locs → f_mo_leftNear_4 N l1 M_panes M_near M_isGone n l2 l3 = some Res → W p l e rm_mo_leftNear s m args below meth c H locs 0 0 Q (F0 m 4 ls []) := by
  have hx := C.1.1
  have hb := C.1.2.1
  intro n
  induction n with
  | zero => intro l2 l3 ls H locs hl h hf; cases hf
  | succ n ih =>
    intro l2 l3 ls H locs hl h hf
    rw [f_mo_leftNear_4.eq_2] at hf
    refine lv_iload_n hx hb (pc := 4) dX8_leftNear_4 rfl (lv_at hl 3 rfl) ?_
    refine lv_aload_n hx hb (pc := 5) dX8_leftNear_5 rfl (lv_at hl 0 rfl) ?_
    refine x_get C h (pc := 6) xf_X8_92 0 rfl (v := iv M_panes) rfl dX8_leftNear_6 ?_
    obtain ⟨g_10, hf⟩ := og_some hf
    obtain ⟨g_11, hf⟩ := og_some hf
    refine x_icmpge C (pc := 9) (tgt := 49) g_10 g_11 dX8_leftNear_9 rfl (fun hc => ?_) (fun hc => ?_)
    · have hf := oi_t hf hc
      refine lv_iload_n hx hb (pc := 49) dX8_leftNear_49 rfl (lv_at hl 2 rfl) ?_
      have e9 := Option.some.inj hf
      subst e9
      exact hret _ _ _ _ dX8_leftNear_50 h
    · have hf := oi_f hf hc
      refine lv_iload_n hx hb (pc := 12) dX8_leftNear_12 rfl (lv_at hl 2 rfl) ?_
      refine lv_aload_n hx hb (pc := 13) dX8_leftNear_13 rfl (lv_at hl 0 rfl) ?_
      refine x_get C h (pc := 14) xf_X8_38 0 rfl (v := .ref (a 10)) rfl dX8_leftNear_14 ?_
      refine x_bipush C (pc := 17) dX8_leftNear_17 (by decide) ?_
      refine lv_iload_n hx hb (pc := 19) dX8_leftNear_19 rfl (lv_at hl 1 rfl) ?_
      refine x_imul C (pc := 20) dX8_leftNear_20 ?_
      refine lv_iload_n hx hb (pc := 21) dX8_leftNear_21 rfl (lv_at hl 3 rfl) ?_
      refine x_iadd C (pc := 22) dX8_leftNear_22 ?_
      obtain ⟨g_12, hf⟩ := og_some hf
      refine x_zald C h (pc := 23) 1 2 rfl rfl (Nat.le_of_ble_eq_true rfl) g_12 dX8_leftNear_23 ?_
      obtain ⟨g_13, hf⟩ := og_some hf
      obtain ⟨r_16, hrr_16, hf⟩ := ob_some hf
      have Jr_16 : ∀ (ls : Array Slot) (H : Heap) (locs : List Loc), lv_has ls 4 [(0, .ref (a 0)), (1, iv l1), (3, iv l3)] → XH D A H0 [((a 0), oM a M_edits M_typed M_readRows M_readColumns M_top M_bottom M_left M_right M_panes), ((a 10), aI cZ 2401 M_near), ((a 17), aI cZ 49 M_isGone)] H locs → W p l e rm_mo_leftNear s m args below meth c H locs 0 0 Q (F0 m 41 ls [iv r_16, iv l2]) := by
        intro ls H locs hl h
        refine x_iadd C (pc := 41) dX8_leftNear_41 ?_
        obtain ⟨l2_17, el2_17, hf⟩ := ol_some hf
        refine x_topi el2_17 ?_
        refine lv_istore_n hx hb (pc := 42) (lv' := [(2, iv l2_17), (0, .ref (a 0)), (1, iv l1), (3, iv l3)]) dX8_leftNear_42 rfl hl (Nat.le_of_ble_eq_true rfl) rfl (fun ls hl => ?_)
        obtain ⟨l3_18, el3_18, hf⟩ := ol_some hf
        refine x_iinc C (pc := 43) (k := 3) (lw' := [(3, iv l3_18), (2, iv l2_17), (0, .ref (a 0)), (1, iv l1)]) dX8_leftNear_43 hl rfl el3_18 (Nat.le_of_ble_eq_true rfl) rfl (fun ls hl => ?_)
        refine lv_goto hx hb (pc := 46) (tgt := 4) dX8_leftNear_46 rfl ?_
        exact ih l2_17 l3_18 _ _ _ (lv_sub hl [2, 3, 1, 0] rfl) h hf
      clear hf
      have hf := hrr_16
      refine x_ifeq C (pc := 24) (tgt := 40) g_13 dX8_leftNear_24 rfl (fun hc => ?_) (fun hc => ?_)
      · have hf := oi_t hf hc
        refine x_iconst C (pc := 40) dX8_leftNear_40 ?_
        have e9 := Option.some.inj hf
        subst e9
        exact Jr_16 _ _ _ (lv_sub hl [0, 1, 3] rfl) h
      · have hf := oi_f hf hc
        refine lv_aload_n hx hb (pc := 27) dX8_leftNear_27 rfl (lv_at hl 0 rfl) ?_
        refine x_get C h (pc := 28) xf_X8_59 0 rfl (v := .ref (a 17)) rfl dX8_leftNear_28 ?_
        refine lv_iload_n hx hb (pc := 31) dX8_leftNear_31 rfl (lv_at hl 3 rfl) ?_
        obtain ⟨g_14, hf⟩ := og_some hf
        refine x_zald C h (pc := 32) 2 2 rfl rfl (Nat.le_of_ble_eq_true rfl) g_14 dX8_leftNear_32 ?_
        obtain ⟨g_15, hf⟩ := og_some hf
        refine x_ifne C (pc := 33) (tgt := 40) g_15 dX8_leftNear_33 rfl (fun hc => ?_) (fun hc => ?_)
        · have hf := oi_f hf hc
          refine x_iconst C (pc := 40) dX8_leftNear_40 ?_
          have e9 := Option.some.inj hf
          subst e9
          exact Jr_16 _ _ _ (lv_sub hl [0, 1, 3] rfl) h
        · have hf := oi_t hf hc
          refine x_iconst C (pc := 36) dX8_leftNear_36 ?_
          refine lv_goto hx hb (pc := 37) (tgt := 41) dX8_leftNear_37 rfl ?_
          have e9 := Option.some.inj hf
          subst e9
          exact Jr_16 _ _ _ (lv_sub hl [0, 1, 3] rfl) h
set_option maxHeartbeats 4000000 in
set_option maxRecDepth 100000 in
theorem c_mo_leftNear (l : Launch) (D : va_G) (cI cJ cZ cO : ClassId) (a : Nat → Nat) (M_edits : Int) (M_typed : Int) (M_readRows : Int) (M_readColumns : Int) (M_top : Int) (M_bottom : Int) (M_left : Int) (M_right : Int) (M_panes : Int) (M_near : Int → Int) (M_isGone : Int → Int) (l1 : Int) (N : Nat) (Res : Int) (hf : f_mo_leftNear N l1 M_panes M_near M_isGone = some Res) : CoI l D (xT cI cJ cZ cO) yX8_leftNear cX8_leftNear 4 (some .int) rm_mo_leftNear [.ref (a 0), iv l1] [((a 0), oM a M_edits M_typed M_readRows M_readColumns M_top M_bottom M_left M_right M_panes), ((a 10), aI cZ 2401 M_near), ((a 17), aI cZ 49 M_isGone)] Res [((a 0), oM a M_edits M_typed M_readRows M_readColumns M_top M_bottom M_left M_right M_panes), ((a 10), aI cZ 2401 M_near), ((a 17), aI cZ 49 M_isGone)] := by
  refine co_i (by decide) ⟨rfl, rfl⟩ (Nat.le_of_ble_eq_true rfl) ?_
  intro p e s m args below meth c A Q ls C hret hl h
  have hx := C.1.1
  have hb := C.1.2.1
  have hl : lv_has ls 4 [(0, .ref (a 0)), (1, iv l1)] := hl
  unfold f_mo_leftNear at hf
  refine x_iconst C (pc := 0) dX8_leftNear_0 ?_
  refine lv_istore_n hx hb (pc := 1) (lv' := [(2, iv 0), (0, .ref (a 0)), (1, iv l1)]) dX8_leftNear_1 rfl hl (Nat.le_of_ble_eq_true rfl) rfl (fun ls hl => ?_)
  refine x_iconst C (pc := 2) dX8_leftNear_2 ?_
  refine lv_istore_n hx hb (pc := 3) (lv' := [(3, iv 0), (2, iv 0), (0, .ref (a 0)), (1, iv l1)]) dX8_leftNear_3 rfl hl (Nat.le_of_ble_eq_true rfl) rfl (fun ls hl => ?_)
  exact w_mo_leftNear_4 C a M_edits M_typed M_readRows M_readColumns M_top M_bottom M_left M_right M_panes M_near M_isGone Res hret N l1 N 0 0 _ _ _ (lv_sub hl [2, 3, 1, 0] rfl) h hf
abbrev rm_mo_nextPane : Room := { frames := 1, cells := 0, slots := 0, locals := 23 }
set_option maxHeartbeats 4000000 in
set_option maxRecDepth 100000 in
theorem w_mo_nextPane_69 {p : Program} {l : Launch} {e : Env} {s : State} {m : MethodId} {args : Array Value} {below : List Frame} {meth : Method} {c : Code} {Q : State → Prop} {D : va_G} {cI cJ cZ cO : ClassId} {A : Nat → Prop} {H0 : Heap} {w0 : Cond} (C : XC p s m args c cX8_nextPane 6 RX8 w0 D (xT cI cJ cZ cO)) (a : Nat → Nat) (M_edits : Int) (M_typed : Int) (M_readRows : Int) (M_readColumns : Int) (M_top : Int) (M_bottom : Int) (M_left : Int) (M_right : Int) (M_panes : Int) (M_near : Int → Int) (M_nearMany : Int → Int) (M_isGone : Int → Int) (Res : Int) (hret : XRI p l e rm_mo_nextPane s m args below meth c cX8_nextPane D A H0 Q Res [((a 0), oM a M_edits M_typed M_readRows M_readColumns M_top M_bottom M_left M_right M_panes), ((a 10), aI cZ 2401 M_near), ((a 11), aI cI 49 M_nearMany), ((a 17), aI cZ 49 M_isGone)]) (N : Nat) (l1 : Int) (k7 : Int → Int → Int → Option (Int)) (hk7 : ∀ (l2' : Int) (l3' : Int) (l4' : Int) (ls : Array Slot) (H : Heap) (locs : List Loc), lv_has ls 6 [(0, .ref (a 0)), (1, iv l1), (2, iv l2'), (3, iv l3'), (4, iv l4')] → XH D A H0 [((a 0), oM a M_edits M_typed M_readRows M_readColumns M_top M_bottom M_left M_right M_panes), ((a 10), aI cZ 2401 M_near), ((a 11), aI cI 49 M_nearMany), ((a 17), aI cZ 49 M_isGone)] H locs → k7 l2' l3' l4' = some Res → W p l e rm_mo_nextPane s m args below meth c H locs 0 0 Q (F0 m 7 ls [])) : ∀ (l4 : Int) (l5 : Int) (ls : Array Slot) (H : Heap) (locs : List Loc), lv_has ls 6 [(0, .ref (a 0)), (1, iv l1), (4, iv l4), (5, iv l5)] → XH D A H0 [((a 0), oM a M_edits M_typed M_readRows M_readColumns M_top M_bottom M_left M_right M_panes), ((a 10), aI cZ 2401 M_near), ((a 11), aI cI 49 M_nearMany), ((a 17), aI cZ 49 M_isGone)] H locs → f_mo_nextPane_69 N l1 M_panes M_near M_nearMany M_isGone k7 l4 l5 = some Res → W p l e rm_mo_nextPane s m args below meth c H locs 0 0 Q (F0 m 69 ls []) := by
  have hx := C.1.1
  have hb := C.1.2.1
  intro l4 l5 ls H locs hl h hf
  unfold f_mo_nextPane_69 at hf
  refine lv_iload hx hb (pc := 69) dX8_nextPane_69 (lv_at hl 2 rfl) ?_
  refine lv_istore_n hx hb (pc := 71) (lv' := [(2, iv l4), (0, .ref (a 0)), (1, iv l1), (4, iv l4), (5, iv l5)]) dX8_nextPane_71 rfl hl (Nat.le_of_ble_eq_true rfl) rfl (fun ls hl => ?_)
  refine lv_iload hx hb (pc := 72) dX8_nextPane_72 (lv_at hl 4 rfl) ?_
  refine lv_istore_n hx hb (pc := 74) (lv' := [(3, iv l5), (2, iv l4), (0, .ref (a 0)), (1, iv l1), (4, iv l4), (5, iv l5)]) dX8_nextPane_74 rfl hl (Nat.le_of_ble_eq_true rfl) rfl (fun ls hl => ?_)
  obtain ⟨l4_28, el4_28, hf⟩ := ol_some hf
  refine x_iinc C (pc := 75) (k := 4) (lw' := [(4, iv l4_28), (3, iv l5), (2, iv l4), (0, .ref (a 0)), (1, iv l1), (5, iv l5)]) dX8_nextPane_75 hl rfl el4_28 (Nat.le_of_ble_eq_true rfl) rfl (fun ls hl => ?_)
  refine lv_goto hx hb (pc := 78) (tgt := 7) dX8_nextPane_78 rfl ?_
  exact hk7 l4 l5 l4_28 _ _ _ (lv_sub hl [3, 4, 2, 1, 0] rfl) h hf
set_option maxHeartbeats 4000000 in
set_option maxRecDepth 100000 in
theorem w_mo_nextPane_7 {p : Program} {l : Launch} {e : Env} {s : State} {m : MethodId} {args : Array Value} {below : List Frame} {meth : Method} {c : Code} {Q : State → Prop} {D : va_G} {cI cJ cZ cO : ClassId} {A : Nat → Prop} {H0 : Heap} {w0 : Cond} (C : XC p s m args c cX8_nextPane 6 RX8 w0 D (xT cI cJ cZ cO)) (a : Nat → Nat) (M_edits : Int) (M_typed : Int) (M_readRows : Int) (M_readColumns : Int) (M_top : Int) (M_bottom : Int) (M_left : Int) (M_right : Int) (M_panes : Int) (M_near : Int → Int) (M_nearMany : Int → Int) (M_isGone : Int → Int) (Res : Int) (hret : XRI p l e rm_mo_nextPane s m args below meth c cX8_nextPane D A H0 Q Res [((a 0), oM a M_edits M_typed M_readRows M_readColumns M_top M_bottom M_left M_right M_panes), ((a 10), aI cZ 2401 M_near), ((a 11), aI cI 49 M_nearMany), ((a 17), aI cZ 49 M_isGone)]) (N : Nat) (l1 : Int) : ∀ (n : Nat) (l2 : Int) (l3 : Int) (l4 : Int) (ls : Array Slot) (H : Heap) (locs : List Loc), lv_has ls 6 [(0, .ref (a 0)), (1, iv l1), (2, iv l2), (3, iv l3), (4, iv l4)] → XH D A H0 [((a 0), oM a M_edits M_typed M_readRows M_readColumns M_top M_bottom M_left M_right M_panes), ((a 10), aI cZ 2401 M_near), ((a 11), aI cI 49 M_nearMany), ((a 17), aI cZ 49 M_isGone)] H locs → f_mo_nextPane_7 N l1 M_panes M_near M_nearMany M_isGone n l2 l3 l4 = some Res → W p l e rm_mo_nextPane s m args below meth c H locs 0 0 Q (F0 m 7 ls []) := by
  have hx := C.1.1
  have hb := C.1.2.1
  intro n
  induction n with
  | zero => intro l2 l3 l4 ls H locs hl h hf; cases hf
  | succ n ih =>
    intro l2 l3 l4 ls H locs hl h hf
    rw [f_mo_nextPane_7.eq_2] at hf
    refine lv_iload hx hb (pc := 7) dX8_nextPane_7 (lv_at hl 4 rfl) ?_
    refine lv_aload_n hx hb (pc := 9) dX8_nextPane_9 rfl (lv_at hl 0 rfl) ?_
    refine x_get C h (pc := 10) xf_X8_92 0 rfl (v := iv M_panes) rfl dX8_nextPane_10 ?_
    obtain ⟨g_15, hf⟩ := og_some hf
    obtain ⟨g_16, hf⟩ := og_some hf
    refine x_icmpge C (pc := 13) (tgt := 81) g_15 g_16 dX8_nextPane_13 rfl (fun hc => ?_) (fun hc => ?_)
    · have hf := oi_t hf hc
      refine lv_iload_n hx hb (pc := 81) dX8_nextPane_81 rfl (lv_at hl 2 rfl) ?_
      have e9 := Option.some.inj hf
      subst e9
      exact hret _ _ _ _ dX8_nextPane_82 h
    · have hf := oi_f hf hc
      refine lv_iload_n hx hb (pc := 16) dX8_nextPane_16 rfl (lv_at hl 1 rfl) ?_
      obtain ⟨g_17, hf⟩ := og_some hf
      obtain ⟨r_20, hrr_20, hf⟩ := ob_some hf
      have Jr_20 : ∀ (ls : Array Slot) (H : Heap) (locs : List Loc), lv_has ls 6 [(0, .ref (a 0)), (1, iv l1), (2, iv l2), (3, iv l3), (4, iv l4)] → XH D A H0 [((a 0), oM a M_edits M_typed M_readRows M_readColumns M_top M_bottom M_left M_right M_panes), ((a 10), aI cZ 2401 M_near), ((a 11), aI cI 49 M_nearMany), ((a 17), aI cZ 49 M_isGone)] H locs → W p l e rm_mo_nextPane s m args below meth c H locs 0 0 Q (F0 m 46 ls [iv r_20]) := by
        intro ls H locs hl h
        refine lv_istore hx hb (pc := 46) (lv' := [(5, iv r_20), (0, .ref (a 0)), (1, iv l1), (2, iv l2), (3, iv l3), (4, iv l4)]) dX8_nextPane_46 hl (Nat.le_of_ble_eq_true rfl) rfl (fun ls hl => ?_)
        refine lv_aload_n hx hb (pc := 48) dX8_nextPane_48 rfl (lv_at hl 1 rfl) ?_
        refine x_get C h (pc := 49) xf_X8_59 0 rfl (v := .ref (a 17)) rfl dX8_nextPane_49 ?_
        refine lv_iload hx hb (pc := 52) dX8_nextPane_52 (lv_at hl 5 rfl) ?_
        obtain ⟨g_21, hf⟩ := og_some hf
        refine x_zald C h (pc := 54) 3 2 rfl rfl (Nat.le_of_ble_eq_true rfl) g_21 dX8_nextPane_54 ?_
        obtain ⟨g_22, hf⟩ := og_some hf
        refine x_ifne C (pc := 55) (tgt := 75) g_22 dX8_nextPane_55 rfl (fun hc => ?_) (fun hc => ?_)
        · have hf := oi_f hf hc
          obtain ⟨l4_23, el4_23, hf⟩ := ol_some hf
          refine x_iinc C (pc := 75) (k := 5) (lw' := [(4, iv l4_23), (5, iv r_20), (0, .ref (a 0)), (1, iv l1), (2, iv l2), (3, iv l3)]) dX8_nextPane_75 hl rfl el4_23 (Nat.le_of_ble_eq_true rfl) rfl (fun ls hl => ?_)
          refine lv_goto hx hb (pc := 78) (tgt := 7) dX8_nextPane_78 rfl ?_
          exact ih l2 l3 l4_23 _ _ _ (lv_sub hl [2, 3, 4, 5, 0] rfl) h hf
        · have hf := oi_t hf hc
          refine lv_iload_n hx hb (pc := 58) dX8_nextPane_58 rfl (lv_at hl 3 rfl) ?_
          refine x_iconst C (pc := 59) dX8_nextPane_59 ?_
          obtain ⟨g_24, hf⟩ := og_some hf
          refine x_icmpeq C (pc := 60) (tgt := 69) g_24 ⟨by decide, by decide⟩ dX8_nextPane_60 rfl (fun hc => ?_) (fun hc => ?_)
          · have hf := oi_t hf hc
            exact w_mo_nextPane_69 C a M_edits M_typed M_readRows M_readColumns M_top M_bottom M_left M_right M_panes M_near M_nearMany M_isGone Res hret N l1 (f_mo_nextPane_7 N l1 M_panes M_near M_nearMany M_isGone n) ih l4 r_20 _ _ _ (lv_sub hl [1, 2, 5, 0] rfl) h hf
          · have hf := oi_f hf hc
            refine lv_iload hx hb (pc := 63) dX8_nextPane_63 (lv_at hl 0 rfl) ?_
            refine lv_iload_n hx hb (pc := 65) dX8_nextPane_65 rfl (lv_at hl 4 rfl) ?_
            obtain ⟨g_25, hf⟩ := og_some hf
            obtain ⟨g_26, hf⟩ := og_some hf
            refine x_icmpge C (pc := 66) (tgt := 75) g_25 g_26 dX8_nextPane_66 rfl (fun hc => ?_) (fun hc => ?_)
            · have hf := oi_t hf hc
              obtain ⟨l4_27, el4_27, hf⟩ := ol_some hf
              refine x_iinc C (pc := 75) (k := 5) (lw' := [(4, iv l4_27), (5, iv r_20), (0, .ref (a 0)), (1, iv l1), (2, iv l2), (3, iv l3)]) dX8_nextPane_75 hl rfl el4_27 (Nat.le_of_ble_eq_true rfl) rfl (fun ls hl => ?_)
              refine lv_goto hx hb (pc := 78) (tgt := 7) dX8_nextPane_78 rfl ?_
              exact ih l2 l3 l4_27 _ _ _ (lv_sub hl [2, 3, 4, 5, 0] rfl) h hf
            · have hf := oi_f hf hc
              exact w_mo_nextPane_69 C a M_edits M_typed M_readRows M_readColumns M_top M_bottom M_left M_right M_panes M_near M_nearMany M_isGone Res hret N l1 (f_mo_nextPane_7 N l1 M_panes M_near M_nearMany M_isGone n) ih l4 r_20 _ _ _ (lv_sub hl [1, 2, 5, 0] rfl) h hf
      clear hf
      have hf := hrr_20
      refine x_ifne C (pc := 17) (tgt := 24) g_17 dX8_nextPane_17 rfl (fun hc => ?_) (fun hc => ?_)
      · have hf := oi_f hf hc
        refine lv_iload_n hx hb (pc := 24) dX8_nextPane_24 rfl (lv_at hl 1 rfl) ?_
        refine x_iconst C (pc := 25) dX8_nextPane_25 ?_
        refine x_icmpne C (pc := 26) (tgt := 40) g_17 ⟨by decide, by decide⟩ dX8_nextPane_26 rfl (fun hc => ?_) (fun hc => ?_)
        · have hf := oi_f hf hc
          refine lv_aload_n hx hb (pc := 40) dX8_nextPane_40 rfl (lv_at hl 0 rfl) ?_
          refine lv_iload hx hb (pc := 41) dX8_nextPane_41 (lv_at hl 4 rfl) ?_
          obtain ⟨q_18, hq_18, hf⟩ := ob_some hf
          refine x_callVi C h (pc := 43) hl (c_mo_leftNear l D cI cJ cZ cO a M_edits M_typed M_readRows M_readColumns M_top M_bottom M_left M_right M_panes M_near M_isGone l4 N q_18 hq_18) xv_X8_leftNear lk_X8_202 ⟨(Nat.le_of_ble_eq_true rfl), (Nat.le_of_ble_eq_true rfl)⟩ rfl [0, 1, 3] [2] (nw := 4) (wr := [((a 11), aI cI 49 M_nearMany)]) (as := [(a 0), (a 10), (a 11), (a 17)]) (ws' := [((a 0), oM a M_edits M_typed M_readRows M_readColumns M_top M_bottom M_left M_right M_panes), ((a 10), aI cZ 2401 M_near), ((a 11), aI cI 49 M_nearMany), ((a 17), aI cZ 49 M_isGone)]) rfl rfl rfl rfl rfl rfl rfl rfl rfl 0 rfl rfl rfl rfl (Nat.le_of_ble_eq_true rfl) dX8_nextPane_43 (fun H locs h => ?_)
          have e9 := Option.some.inj hf
          subst e9
          exact Jr_20 _ _ _ (lv_sub hl [0, 1, 2, 3, 4] rfl) h
        · have hf := oi_t hf hc
          refine lv_aload_n hx hb (pc := 29) dX8_nextPane_29 rfl (lv_at hl 0 rfl) ?_
          refine x_get C h (pc := 30) xf_X8_41 0 rfl (v := .ref (a 11)) rfl dX8_nextPane_30 ?_
          refine lv_iload hx hb (pc := 33) dX8_nextPane_33 (lv_at hl 4 rfl) ?_
          obtain ⟨g_19, hf⟩ := og_some hf
          refine x_iald C h (pc := 35) 2 0 rfl rfl (Nat.le_of_ble_eq_true rfl) g_19 dX8_nextPane_35 ?_
          refine x_ineg C (pc := 36) dX8_nextPane_36 ?_
          refine lv_goto hx hb (pc := 37) (tgt := 46) dX8_nextPane_37 rfl ?_
          have e9 := Option.some.inj hf
          subst e9
          exact Jr_20 _ _ _ (lv_sub hl [0, 1, 2, 3, 4] rfl) h
      · have hf := oi_t hf hc
        refine x_iconst C (pc := 20) dX8_nextPane_20 ?_
        refine lv_goto hx hb (pc := 21) (tgt := 46) dX8_nextPane_21 rfl ?_
        have e9 := Option.some.inj hf
        subst e9
        exact Jr_20 _ _ _ (lv_sub hl [0, 1, 2, 3, 4] rfl) h
set_option maxHeartbeats 4000000 in
set_option maxRecDepth 100000 in
theorem c_mo_nextPane (l : Launch) (D : va_G) (cI cJ cZ cO : ClassId) (a : Nat → Nat) (M_edits : Int) (M_typed : Int) (M_readRows : Int) (M_readColumns : Int) (M_top : Int) (M_bottom : Int) (M_left : Int) (M_right : Int) (M_panes : Int) (M_near : Int → Int) (M_nearMany : Int → Int) (M_isGone : Int → Int) (l1 : Int) (N : Nat) (Res : Int) (hf : f_mo_nextPane N l1 M_panes M_near M_nearMany M_isGone = some Res) : CoI l D (xT cI cJ cZ cO) yX8_nextPane cX8_nextPane 6 (some .int) rm_mo_nextPane [.ref (a 0), iv l1] [((a 0), oM a M_edits M_typed M_readRows M_readColumns M_top M_bottom M_left M_right M_panes), ((a 10), aI cZ 2401 M_near), ((a 11), aI cI 49 M_nearMany), ((a 17), aI cZ 49 M_isGone)] Res [((a 0), oM a M_edits M_typed M_readRows M_readColumns M_top M_bottom M_left M_right M_panes), ((a 10), aI cZ 2401 M_near), ((a 11), aI cI 49 M_nearMany), ((a 17), aI cZ 49 M_isGone)] := by
  refine co_i (by decide) ⟨rfl, rfl⟩ (Nat.le_of_ble_eq_true rfl) ?_
  intro p e s m args below meth c A Q ls C hret hl h
  have hx := C.1.1
  have hb := C.1.2.1
  have hl : lv_has ls 6 [(0, .ref (a 0)), (1, iv l1)] := hl
  unfold f_mo_nextPane at hf
  refine x_iconst C (pc := 0) dX8_nextPane_0 ?_
  refine lv_istore_n hx hb (pc := 1) (lv' := [(2, iv (-1)), (0, .ref (a 0)), (1, iv l1)]) dX8_nextPane_1 rfl hl (Nat.le_of_ble_eq_true rfl) rfl (fun ls hl => ?_)
  refine x_iconst C (pc := 2) dX8_nextPane_2 ?_
  refine lv_istore_n hx hb (pc := 3) (lv' := [(3, iv 0), (2, iv (-1)), (0, .ref (a 0)), (1, iv l1)]) dX8_nextPane_3 rfl hl (Nat.le_of_ble_eq_true rfl) rfl (fun ls hl => ?_)
  refine x_iconst C (pc := 4) dX8_nextPane_4 ?_
  refine lv_istore hx hb (pc := 5) (lv' := [(4, iv 0), (3, iv 0), (2, iv (-1)), (0, .ref (a 0)), (1, iv l1)]) dX8_nextPane_5 hl (Nat.le_of_ble_eq_true rfl) rfl (fun ls hl => ?_)
  exact w_mo_nextPane_7 C a M_edits M_typed M_readRows M_readColumns M_top M_bottom M_left M_right M_panes M_near M_nearMany M_isGone Res hret N l1 N (-1) 0 0 _ _ _ (lv_sub hl [3, 4, 2, 1, 0] rfl) h hf
abbrev rm_mo_colourOne : Room := { frames := 0, cells := 0, slots := 0, locals := 0 }
set_option maxHeartbeats 4000000 in
set_option maxRecDepth 100000 in
theorem w_mo_colourOne_64 {p : Program} {l : Launch} {e : Env} {s : State} {m : MethodId} {args : Array Value} {below : List Frame} {meth : Method} {c : Code} {Q : State → Prop} {D : va_G} {cI cJ cZ cO : ClassId} {A : Nat → Prop} {H0 : Heap} {w0 : Cond} (C : XC p s m args c cX8_colourOne 5 RX8 w0 D (xT cI cJ cZ cO)) (a : Nat → Nat) (M_edits : Int) (M_typed : Int) (M_readRows : Int) (M_readColumns : Int) (M_top : Int) (M_bottom : Int) (M_left : Int) (M_right : Int) (M_panes : Int) (M_near : Int → Int) (Res : (Int → Int)) (hret : XRV p l e rm_mo_colourOne s m args below meth c cX8_colourOne D A H0 Q [((a 0), oM a M_edits M_typed M_readRows M_readColumns M_top M_bottom M_left M_right M_panes), ((a 10), aI cZ 2401 M_near), ((a 18), aI cI 49 Res)]) (N : Nat) (l1 : Int) (M_number : Int → Int) (k4 : Int → Int → Option ((Int → Int))) (hk4 : ∀ (l2' : Int) (l3' : Int) (ls : Array Slot) (H : Heap) (locs : List Loc), lv_has ls 5 [(0, .ref (a 0)), (1, iv l1), (2, iv l2'), (3, iv l3')] → XH D A H0 [((a 0), oM a M_edits M_typed M_readRows M_readColumns M_top M_bottom M_left M_right M_panes), ((a 10), aI cZ 2401 M_near), ((a 18), aI cI 49 M_number)] H locs → k4 l2' l3' = some Res → W p l e rm_mo_colourOne s m args below meth c H locs 0 0 Q (F0 m 4 ls [])) : ∀ (l2 : Int) (l3 : Int) (ls : Array Slot) (H : Heap) (locs : List Loc), lv_has ls 5 [(0, .ref (a 0)), (1, iv l1), (2, iv l2), (3, iv l3)] → XH D A H0 [((a 0), oM a M_edits M_typed M_readRows M_readColumns M_top M_bottom M_left M_right M_panes), ((a 10), aI cZ 2401 M_near), ((a 18), aI cI 49 M_number)] H locs → f_mo_colourOne_64 N l1 M_number M_panes M_near k4 l2 l3 = some Res → W p l e rm_mo_colourOne s m args below meth c H locs 0 0 Q (F0 m 64 ls []) := by
  have hx := C.1.1
  have hb := C.1.2.1
  intro l2 l3 ls H locs hl h hf
  unfold f_mo_colourOne_64 at hf
  refine lv_iload_n hx hb (pc := 64) dX8_colourOne_64 rfl (lv_at hl 2 rfl) ?_
  refine lv_iload_n hx hb (pc := 65) dX8_colourOne_65 rfl (lv_at hl 3 rfl) ?_
  obtain ⟨g_34, hf⟩ := og_some hf
  obtain ⟨r_35, hrr_35, hf⟩ := ob_some hf
  have Jr_35 : ∀ (ls : Array Slot) (H : Heap) (locs : List Loc), lv_has ls 5 [(0, .ref (a 0)), (1, iv l1), (3, iv l3)] → XH D A H0 [((a 0), oM a M_edits M_typed M_readRows M_readColumns M_top M_bottom M_left M_right M_panes), ((a 10), aI cZ 2401 M_near), ((a 18), aI cI 49 M_number)] H locs → W p l e rm_mo_colourOne s m args below meth c H locs 0 0 Q (F0 m 74 ls [iv r_35, iv l2]) := by
    intro ls H locs hl h
    refine x_iadd C (pc := 74) dX8_colourOne_74 ?_
    obtain ⟨l2_36, el2_36, hf⟩ := ol_some hf
    refine x_topi el2_36 ?_
    refine lv_istore_n hx hb (pc := 75) (lv' := [(2, iv l2_36), (0, .ref (a 0)), (1, iv l1), (3, iv l3)]) dX8_colourOne_75 rfl hl (Nat.le_of_ble_eq_true rfl) rfl (fun ls hl => ?_)
    refine lv_goto hx hb (pc := 76) (tgt := 4) dX8_colourOne_76 rfl ?_
    exact hk4 l2_36 l3 _ _ _ (lv_sub hl [1, 2, 0, 3] rfl) h hf
  clear hf
  have hf := hrr_35
  refine x_ifeq C (pc := 66) (tgt := 73) g_34 dX8_colourOne_66 rfl (fun hc => ?_) (fun hc => ?_)
  · have hf := oi_t hf hc
    refine x_iconst C (pc := 73) dX8_colourOne_73 ?_
    have e9 := Option.some.inj hf
    subst e9
    exact Jr_35 _ _ _ (lv_sub hl [0, 1, 3] rfl) h
  · have hf := oi_f hf hc
    refine x_iconst C (pc := 69) dX8_colourOne_69 ?_
    refine lv_goto hx hb (pc := 70) (tgt := 74) dX8_colourOne_70 rfl ?_
    have e9 := Option.some.inj hf
    subst e9
    exact Jr_35 _ _ _ (lv_sub hl [0, 1, 3] rfl) h
set_option maxHeartbeats 4000000 in
set_option maxRecDepth 100000 in
theorem w_mo_colourOne_13 {p : Program} {l : Launch} {e : Env} {s : State} {m : MethodId} {args : Array Value} {below : List Frame} {meth : Method} {c : Code} {Q : State → Prop} {D : va_G} {cI cJ cZ cO : ClassId} {A : Nat → Prop} {H0 : Heap} {w0 : Cond} (C : XC p s m args c cX8_colourOne 5 RX8 w0 D (xT cI cJ cZ cO)) (a : Nat → Nat) (M_edits : Int) (M_typed : Int) (M_readRows : Int) (M_readColumns : Int) (M_top : Int) (M_bottom : Int) (M_left : Int) (M_right : Int) (M_panes : Int) (M_near : Int → Int) (Res : (Int → Int)) (hret : XRV p l e rm_mo_colourOne s m args below meth c cX8_colourOne D A H0 Q [((a 0), oM a M_edits M_typed M_readRows M_readColumns M_top M_bottom M_left M_right M_panes), ((a 10), aI cZ 2401 M_near), ((a 18), aI cI 49 Res)]) (N : Nat) (l1 : Int) (l2 : Int) (M_number : Int → Int) (k4 : Int → Int → Option ((Int → Int))) (hk4 : ∀ (l2' : Int) (l3' : Int) (ls : Array Slot) (H : Heap) (locs : List Loc), lv_has ls 5 [(0, .ref (a 0)), (1, iv l1), (2, iv l2'), (3, iv l3')] → XH D A H0 [((a 0), oM a M_edits M_typed M_readRows M_readColumns M_top M_bottom M_left M_right M_panes), ((a 10), aI cZ 2401 M_near), ((a 18), aI cI 49 M_number)] H locs → k4 l2' l3' = some Res → W p l e rm_mo_colourOne s m args below meth c H locs 0 0 Q (F0 m 4 ls [])) : ∀ (n : Nat) (l3 : Int) (l4 : Int) (ls : Array Slot) (H : Heap) (locs : List Loc), lv_has ls 5 [(0, .ref (a 0)), (1, iv l1), (2, iv l2), (3, iv l3), (4, iv l4)] → XH D A H0 [((a 0), oM a M_edits M_typed M_readRows M_readColumns M_top M_bottom M_left M_right M_panes), ((a 10), aI cZ 2401 M_near), ((a 18), aI cI 49 M_number)] H locs → f_mo_colourOne_13 N l1 l2 M_number M_panes M_near k4 n l3 l4 = some Res → W p l e rm_mo_colourOne s m args below meth c H locs 0 0 Q (F0 m 13 ls []) := by
  have hx := C.1.1
  have hb := C.1.2.1
  intro n
  induction n with
  | zero => intro l3 l4 ls H locs hl h hf; cases hf
  | succ n ih =>
    intro l3 l4 ls H locs hl h hf
    rw [f_mo_colourOne_13.eq_2] at hf
    refine lv_iload hx hb (pc := 13) dX8_colourOne_13 (lv_at hl 4 rfl) ?_
    refine lv_aload_n hx hb (pc := 15) dX8_colourOne_15 rfl (lv_at hl 0 rfl) ?_
    refine x_get C h (pc := 16) xf_X8_92 0 rfl (v := iv M_panes) rfl dX8_colourOne_16 ?_
    obtain ⟨g_22, hf⟩ := og_some hf
    obtain ⟨g_23, hf⟩ := og_some hf
    refine x_icmpge C (pc := 19) (tgt := 64) g_22 g_23 dX8_colourOne_19 rfl (fun hc => ?_) (fun hc => ?_)
    · have hf := oi_t hf hc
      exact w_mo_colourOne_64 C a M_edits M_typed M_readRows M_readColumns M_top M_bottom M_left M_right M_panes M_near Res hret N l1 M_number k4 hk4 l2 l3 _ _ _ (lv_sub hl [0, 1, 2, 3] rfl) h hf
    · have hf := oi_f hf hc
      refine lv_iload_n hx hb (pc := 22) dX8_colourOne_22 rfl (lv_at hl 3 rfl) ?_
      obtain ⟨g_24, hf⟩ := og_some hf
      refine x_ifne C (pc := 23) (tgt := 64) g_24 dX8_colourOne_23 rfl (fun hc => ?_) (fun hc => ?_)
      · have hf := oi_f hf hc
        exact w_mo_colourOne_64 C a M_edits M_typed M_readRows M_readColumns M_top M_bottom M_left M_right M_panes M_near Res hret N l1 M_number k4 hk4 l2 l3 _ _ _ (lv_sub hl [0, 1, 2, 3] rfl) h hf
      · have hf := oi_t hf hc
        refine lv_aload_n hx hb (pc := 26) dX8_colourOne_26 rfl (lv_at hl 0 rfl) ?_
        refine x_get C h (pc := 27) xf_X8_38 0 rfl (v := .ref (a 10)) rfl dX8_colourOne_27 ?_
        refine x_bipush C (pc := 30) dX8_colourOne_30 (by decide) ?_
        refine lv_iload_n hx hb (pc := 32) dX8_colourOne_32 rfl (lv_at hl 1 rfl) ?_
        refine x_imul C (pc := 33) dX8_colourOne_33 ?_
        refine lv_iload hx hb (pc := 34) dX8_colourOne_34 (lv_at hl 4 rfl) ?_
        refine x_iadd C (pc := 36) dX8_colourOne_36 ?_
        obtain ⟨g_25, hf⟩ := og_some hf
        refine x_zald C h (pc := 37) 1 2 rfl rfl (Nat.le_of_ble_eq_true rfl) g_25 dX8_colourOne_37 ?_
        obtain ⟨g_26, hf⟩ := og_some hf
        obtain ⟨r_33, hrr_33, hf⟩ := ob_some hf
        have Jr_33 : ∀ (ls : Array Slot) (H : Heap) (locs : List Loc), lv_has ls 5 [(0, .ref (a 0)), (1, iv l1), (2, iv l2), (3, iv r_33.1), (4, iv r_33.2)] → XH D A H0 [((a 0), oM a M_edits M_typed M_readRows M_readColumns M_top M_bottom M_left M_right M_panes), ((a 10), aI cZ 2401 M_near), ((a 18), aI cI 49 M_number)] H locs → W p l e rm_mo_colourOne s m args below meth c H locs 0 0 Q (F0 m 13 ls []) := by
          intro ls H locs hl h
          exact ih r_33.1 r_33.2 _ _ _ (lv_sub hl [0, 1, 2, 3, 4] rfl) h hf
        clear hf
        have hf := hrr_33
        refine x_ifeq C (pc := 38) (tgt := 56) g_26 dX8_colourOne_38 rfl (fun hc => ?_) (fun hc => ?_)
        · have hf := oi_t hf hc
          refine x_iconst C (pc := 56) dX8_colourOne_56 ?_
          refine lv_istore_n hx hb (pc := 57) (lv' := [(3, iv 0), (0, .ref (a 0)), (1, iv l1), (2, iv l2), (4, iv l4)]) dX8_colourOne_57 rfl hl (Nat.le_of_ble_eq_true rfl) rfl (fun ls hl => ?_)
          obtain ⟨l4_27, el4_27, hf⟩ := ol_some hf
          refine x_iinc C (pc := 58) (k := 4) (lw' := [(4, iv l4_27), (3, iv 0), (0, .ref (a 0)), (1, iv l1), (2, iv l2)]) dX8_colourOne_58 hl rfl el4_27 (Nat.le_of_ble_eq_true rfl) rfl (fun ls hl => ?_)
          refine lv_goto hx hb (pc := 61) (tgt := 13) dX8_colourOne_61 rfl ?_
          have e9 := Option.some.inj hf
          subst e9
          exact Jr_33 _ _ _ (lv_sub hl [2, 3, 4, 1, 0] rfl) h
        · have hf := oi_f hf hc
          refine lv_aload_n hx hb (pc := 41) dX8_colourOne_41 rfl (lv_at hl 0 rfl) ?_
          refine x_get C h (pc := 42) xf_X8_62 0 rfl (v := .ref (a 18)) rfl dX8_colourOne_42 ?_
          refine lv_iload hx hb (pc := 45) dX8_colourOne_45 (lv_at hl 4 rfl) ?_
          obtain ⟨g_28, hf⟩ := og_some hf
          refine x_iald C h (pc := 47) 2 0 rfl rfl (Nat.le_of_ble_eq_true rfl) g_28 dX8_colourOne_47 ?_
          refine lv_iload_n hx hb (pc := 48) dX8_colourOne_48 rfl (lv_at hl 2 rfl) ?_
          obtain ⟨g_29, hf⟩ := og_some hf
          obtain ⟨g_30, hf⟩ := og_some hf
          refine x_icmpne C (pc := 49) (tgt := 56) g_29 g_30 dX8_colourOne_49 rfl (fun hc => ?_) (fun hc => ?_)
          · have hf := oi_f hf hc
            refine x_iconst C (pc := 56) dX8_colourOne_56 ?_
            refine lv_istore_n hx hb (pc := 57) (lv' := [(3, iv 0), (0, .ref (a 0)), (1, iv l1), (2, iv l2), (4, iv l4)]) dX8_colourOne_57 rfl hl (Nat.le_of_ble_eq_true rfl) rfl (fun ls hl => ?_)
            obtain ⟨l4_31, el4_31, hf⟩ := ol_some hf
            refine x_iinc C (pc := 58) (k := 4) (lw' := [(4, iv l4_31), (3, iv 0), (0, .ref (a 0)), (1, iv l1), (2, iv l2)]) dX8_colourOne_58 hl rfl el4_31 (Nat.le_of_ble_eq_true rfl) rfl (fun ls hl => ?_)
            refine lv_goto hx hb (pc := 61) (tgt := 13) dX8_colourOne_61 rfl ?_
            have e9 := Option.some.inj hf
            subst e9
            exact Jr_33 _ _ _ (lv_sub hl [2, 3, 4, 1, 0] rfl) h
          · have hf := oi_t hf hc
            refine x_iconst C (pc := 52) dX8_colourOne_52 ?_
            refine lv_goto hx hb (pc := 53) (tgt := 57) dX8_colourOne_53 rfl ?_
            refine lv_istore_n hx hb (pc := 57) (lv' := [(3, iv 1), (0, .ref (a 0)), (1, iv l1), (2, iv l2), (4, iv l4)]) dX8_colourOne_57 rfl hl (Nat.le_of_ble_eq_true rfl) rfl (fun ls hl => ?_)
            obtain ⟨l4_32, el4_32, hf⟩ := ol_some hf
            refine x_iinc C (pc := 58) (k := 4) (lw' := [(4, iv l4_32), (3, iv 1), (0, .ref (a 0)), (1, iv l1), (2, iv l2)]) dX8_colourOne_58 hl rfl el4_32 (Nat.le_of_ble_eq_true rfl) rfl (fun ls hl => ?_)
            refine lv_goto hx hb (pc := 61) (tgt := 13) dX8_colourOne_61 rfl ?_
            have e9 := Option.some.inj hf
            subst e9
            exact Jr_33 _ _ _ (lv_sub hl [2, 3, 4, 1, 0] rfl) h
set_option maxHeartbeats 4000000 in
set_option maxRecDepth 100000 in
theorem w_mo_colourOne_4 {p : Program} {l : Launch} {e : Env} {s : State} {m : MethodId} {args : Array Value} {below : List Frame} {meth : Method} {c : Code} {Q : State → Prop} {D : va_G} {cI cJ cZ cO : ClassId} {A : Nat → Prop} {H0 : Heap} {w0 : Cond} (C : XC p s m args c cX8_colourOne 5 RX8 w0 D (xT cI cJ cZ cO)) (a : Nat → Nat) (M_edits : Int) (M_typed : Int) (M_readRows : Int) (M_readColumns : Int) (M_top : Int) (M_bottom : Int) (M_left : Int) (M_right : Int) (M_panes : Int) (M_near : Int → Int) (Res : (Int → Int)) (hret : XRV p l e rm_mo_colourOne s m args below meth c cX8_colourOne D A H0 Q [((a 0), oM a M_edits M_typed M_readRows M_readColumns M_top M_bottom M_left M_right M_panes), ((a 10), aI cZ 2401 M_near), ((a 18), aI cI 49 Res)]) (N : Nat) (l1 : Int) (M_number : Int → Int) : ∀ (n : Nat) (l2 : Int) (l3 : Int) (ls : Array Slot) (H : Heap) (locs : List Loc), lv_has ls 5 [(0, .ref (a 0)), (1, iv l1), (2, iv l2), (3, iv l3)] → XH D A H0 [((a 0), oM a M_edits M_typed M_readRows M_readColumns M_top M_bottom M_left M_right M_panes), ((a 10), aI cZ 2401 M_near), ((a 18), aI cI 49 M_number)] H locs → f_mo_colourOne_4 N l1 M_number M_panes M_near n l2 l3 = some Res → W p l e rm_mo_colourOne s m args below meth c H locs 0 0 Q (F0 m 4 ls []) := by
  have hx := C.1.1
  have hb := C.1.2.1
  intro n
  induction n with
  | zero => intro l2 l3 ls H locs hl h hf; cases hf
  | succ n ih =>
    intro l2 l3 ls H locs hl h hf
    rw [f_mo_colourOne_4.eq_2] at hf
    refine lv_iload_n hx hb (pc := 4) dX8_colourOne_4 rfl (lv_at hl 3 rfl) ?_
    obtain ⟨g_19, hf⟩ := og_some hf
    refine x_ifeq C (pc := 5) (tgt := 79) g_19 dX8_colourOne_5 rfl (fun hc => ?_) (fun hc => ?_)
    · have hf := oi_t hf hc
      refine lv_aload_n hx hb (pc := 79) dX8_colourOne_79 rfl (lv_at hl 0 rfl) ?_
      refine x_get C h (pc := 80) xf_X8_62 0 rfl (v := .ref (a 18)) rfl dX8_colourOne_80 ?_
      refine lv_iload_n hx hb (pc := 83) dX8_colourOne_83 rfl (lv_at hl 1 rfl) ?_
      refine lv_iload_n hx hb (pc := 84) dX8_colourOne_84 rfl (lv_at hl 2 rfl) ?_
      obtain ⟨g_20, hf⟩ := og_some hf
      obtain ⟨M_number_21, eM_number_21, hf⟩ := ol_some hf
      refine x_iast C h (pc := 85) (ws' := [((a 0), oM a M_edits M_typed M_readRows M_readColumns M_top M_bottom M_left M_right M_panes), ((a 10), aI cZ 2401 M_near), ((a 18), aI cI 49 M_number_21)]) 2 0 rfl rfl (Nat.le_of_ble_eq_true rfl) g_20 eM_number_21 rfl dX8_colourOne_85 (fun H locs h => ?_)
      have e9 := Option.some.inj hf
      subst e9
      exact hret _ _ _ _ dX8_colourOne_86 h
    · have hf := oi_f hf hc
      refine x_iconst C (pc := 8) dX8_colourOne_8 ?_
      refine lv_istore_n hx hb (pc := 9) (lv' := [(3, iv 0), (0, .ref (a 0)), (1, iv l1), (2, iv l2)]) dX8_colourOne_9 rfl hl (Nat.le_of_ble_eq_true rfl) rfl (fun ls hl => ?_)
      refine x_iconst C (pc := 10) dX8_colourOne_10 ?_
      refine lv_istore hx hb (pc := 11) (lv' := [(4, iv 0), (3, iv 0), (0, .ref (a 0)), (1, iv l1), (2, iv l2)]) dX8_colourOne_11 hl (Nat.le_of_ble_eq_true rfl) rfl (fun ls hl => ?_)
      exact w_mo_colourOne_13 C a M_edits M_typed M_readRows M_readColumns M_top M_bottom M_left M_right M_panes M_near Res hret N l1 l2 M_number (f_mo_colourOne_4 N l1 M_number M_panes M_near n) ih N 0 0 _ _ _ (lv_sub hl [2, 3, 4, 1, 0] rfl) h hf
set_option maxHeartbeats 4000000 in
set_option maxRecDepth 100000 in
theorem c_mo_colourOne (l : Launch) (D : va_G) (cI cJ cZ cO : ClassId) (a : Nat → Nat) (M_edits : Int) (M_typed : Int) (M_readRows : Int) (M_readColumns : Int) (M_top : Int) (M_bottom : Int) (M_left : Int) (M_right : Int) (M_panes : Int) (M_near : Int → Int) (M_number : Int → Int) (l1 : Int) (N : Nat) (Res : (Int → Int)) (hf : f_mo_colourOne N l1 M_panes M_near M_number = some Res) : CoV l D (xT cI cJ cZ cO) yX8_colourOne cX8_colourOne 5 none rm_mo_colourOne [.ref (a 0), iv l1] [((a 0), oM a M_edits M_typed M_readRows M_readColumns M_top M_bottom M_left M_right M_panes), ((a 10), aI cZ 2401 M_near), ((a 18), aI cI 49 M_number)] [((a 0), oM a M_edits M_typed M_readRows M_readColumns M_top M_bottom M_left M_right M_panes), ((a 10), aI cZ 2401 M_near), ((a 18), aI cI 49 Res)] := by
  refine co_v (by decide) ⟨rfl, rfl⟩ (Nat.le_of_ble_eq_true rfl) ?_
  intro p e s m args below meth c A Q ls C hret hl h
  have hx := C.1.1
  have hb := C.1.2.1
  have hl : lv_has ls 5 [(0, .ref (a 0)), (1, iv l1)] := hl
  unfold f_mo_colourOne at hf
  refine x_iconst C (pc := 0) dX8_colourOne_0 ?_
  refine lv_istore_n hx hb (pc := 1) (lv' := [(2, iv 0), (0, .ref (a 0)), (1, iv l1)]) dX8_colourOne_1 rfl hl (Nat.le_of_ble_eq_true rfl) rfl (fun ls hl => ?_)
  refine x_iconst C (pc := 2) dX8_colourOne_2 ?_
  refine lv_istore_n hx hb (pc := 3) (lv' := [(3, iv 1), (2, iv 0), (0, .ref (a 0)), (1, iv l1)]) dX8_colourOne_3 rfl hl (Nat.le_of_ble_eq_true rfl) rfl (fun ls hl => ?_)
  exact w_mo_colourOne_4 C a M_edits M_typed M_readRows M_readColumns M_top M_bottom M_left M_right M_panes M_near Res hret N l1 M_number N 0 1 _ _ _ (lv_sub hl [2, 3, 1, 0] rfl) h hf
abbrev rm_mo_colourAll : Room := { frames := 2, cells := 0, slots := 0, locals := 48 }
set_option maxHeartbeats 4000000 in
set_option maxRecDepth 100000 in
theorem w_mo_colourAll_91 {p : Program} {l : Launch} {e : Env} {s : State} {m : MethodId} {args : Array Value} {below : List Frame} {meth : Method} {c : Code} {Q : State → Prop} {D : va_G} {cI cJ cZ cO : ClassId} {A : Nat → Prop} {H0 : Heap} {w0 : Cond} (C : XC p s m args c cX8_colourAll 4 RX8 w0 D (xT cI cJ cZ cO)) (a : Nat → Nat) (M_edits : Int) (M_typed : Int) (M_readRows : Int) (M_readColumns : Int) (M_top : Int) (M_bottom : Int) (M_left : Int) (M_right : Int) (M_panes : Int) (M_near : Int → Int) (M_nearMany : Int → Int) (Res : Int × (Int → Int) × (Int → Int) × (Int → Int)) (hret : XRI p l e rm_mo_colourAll s m args below meth c cX8_colourAll D A H0 Q Res.1 [((a 0), oM a M_edits M_typed M_readRows M_readColumns M_top M_bottom M_left M_right M_panes), ((a 10), aI cZ 2401 M_near), ((a 11), aI cI 49 M_nearMany), ((a 16), aI cI 49 Res.2.1), ((a 17), aI cZ 49 Res.2.2.1), ((a 18), aI cI 49 Res.2.2.2)]) (N : Nat) (M_sequence : Int → Int) (M_isGone : Int → Int) : ∀ (n : Nat) (l2 : Int) (l3 : Int) (M_number : Int → Int) (ls : Array Slot) (H : Heap) (locs : List Loc), lv_has ls 4 [(0, .ref (a 0)), (2, iv l2), (3, iv l3)] → XH D A H0 [((a 0), oM a M_edits M_typed M_readRows M_readColumns M_top M_bottom M_left M_right M_panes), ((a 10), aI cZ 2401 M_near), ((a 11), aI cI 49 M_nearMany), ((a 16), aI cI 49 M_sequence), ((a 17), aI cZ 49 M_isGone), ((a 18), aI cI 49 M_number)] H locs → f_mo_colourAll_91 N M_sequence M_isGone M_panes M_near n l2 l3 M_number = some Res → W p l e rm_mo_colourAll s m args below meth c H locs 0 0 Q (F0 m 91 ls []) := by
  have hx := C.1.1
  have hb := C.1.2.1
  intro n
  induction n with
  | zero => intro l2 l3 M_number ls H locs hl h hf; cases hf
  | succ n ih =>
    intro l2 l3 M_number ls H locs hl h hf
    rw [f_mo_colourAll_91.eq_2] at hf
    refine lv_iload_n hx hb (pc := 91) dX8_colourAll_91 rfl (lv_at hl 2 rfl) ?_
    refine lv_aload_n hx hb (pc := 92) dX8_colourAll_92 rfl (lv_at hl 0 rfl) ?_
    refine x_get C h (pc := 93) xf_X8_92 0 rfl (v := iv M_panes) rfl dX8_colourAll_93 ?_
    obtain ⟨g_44, hf⟩ := og_some hf
    obtain ⟨g_45, hf⟩ := og_some hf
    refine x_icmpge C (pc := 96) (tgt := 146) g_44 g_45 dX8_colourAll_96 rfl (fun hc => ?_) (fun hc => ?_)
    · have hf := oi_t hf hc
      refine lv_iload_n hx hb (pc := 146) dX8_colourAll_146 rfl (lv_at hl 1 rfl) ?_
      refine x_iconst C (pc := 147) dX8_colourAll_147 ?_
      refine x_iadd C (pc := 148) dX8_colourAll_148 ?_
      have e9 := Option.some.inj hf
      subst e9
      exact hret _ _ _ _ dX8_colourAll_149 h
    · have hf := oi_f hf hc
      refine lv_aload_n hx hb (pc := 99) dX8_colourAll_99 rfl (lv_at hl 0 rfl) ?_
      refine lv_aload_n hx hb (pc := 100) dX8_colourAll_100 rfl (lv_at hl 0 rfl) ?_
      refine x_get C h (pc := 101) xf_X8_56 0 rfl (v := .ref (a 16)) rfl dX8_colourAll_101 ?_
      refine lv_iload_n hx hb (pc := 104) dX8_colourAll_104 rfl (lv_at hl 2 rfl) ?_
      obtain ⟨g_46, hf⟩ := og_some hf
      refine x_iald C h (pc := 105) 3 0 rfl rfl (Nat.le_of_ble_eq_true rfl) g_46 dX8_colourAll_105 ?_
      obtain ⟨q_47, hq_47, hf⟩ := ob_some hf
      refine x_callVv C h (pc := 106) hl (c_mo_colourOne l D cI cJ cZ cO a M_edits M_typed M_readRows M_readColumns M_top M_bottom M_left M_right M_panes M_near M_number (M_sequence l3) N q_47 hq_47) xv_X8_colourOne lk_X8_208 ⟨(Nat.le_of_ble_eq_true rfl), (Nat.le_of_ble_eq_true rfl)⟩ rfl [0, 1, 5] [2, 3, 4] (nw := 6) (wr := [((a 11), aI cI 49 M_nearMany), ((a 16), aI cI 49 M_sequence), ((a 17), aI cZ 49 M_isGone)]) (as := [(a 0), (a 10), (a 11), (a 16), (a 17), (a 18)]) (ws' := [((a 0), oM a M_edits M_typed M_readRows M_readColumns M_top M_bottom M_left M_right M_panes), ((a 10), aI cZ 2401 M_near), ((a 11), aI cI 49 M_nearMany), ((a 16), aI cI 49 M_sequence), ((a 17), aI cZ 49 M_isGone), ((a 18), aI cI 49 q_47)]) rfl rfl rfl rfl rfl rfl rfl rfl rfl 0 rfl rfl rfl rfl (Nat.le_of_ble_eq_true rfl) dX8_colourAll_106 (fun H locs h => ?_)
      refine lv_aload_n hx hb (pc := 109) dX8_colourAll_109 rfl (lv_at hl 0 rfl) ?_
      refine x_get C h (pc := 110) xf_X8_62 0 rfl (v := .ref (a 18)) rfl dX8_colourAll_110 ?_
      refine lv_aload_n hx hb (pc := 113) dX8_colourAll_113 rfl (lv_at hl 0 rfl) ?_
      refine x_get C h (pc := 114) xf_X8_56 0 rfl (v := .ref (a 16)) rfl dX8_colourAll_114 ?_
      refine lv_iload_n hx hb (pc := 117) dX8_colourAll_117 rfl (lv_at hl 2 rfl) ?_
      refine x_iald C h (pc := 118) 3 0 rfl rfl (Nat.le_of_ble_eq_true rfl) g_46 dX8_colourAll_118 ?_
      obtain ⟨g_48, hf⟩ := og_some hf
      refine x_iald C h (pc := 119) 5 0 rfl rfl (Nat.le_of_ble_eq_true rfl) g_48 dX8_colourAll_119 ?_
      refine lv_iload_n hx hb (pc := 120) dX8_colourAll_120 rfl (lv_at hl 1 rfl) ?_
      obtain ⟨g_49, hf⟩ := og_some hf
      obtain ⟨g_50, hf⟩ := og_some hf
      obtain ⟨r_54, hrr_54, hf⟩ := ob_some hf
      have Jr_54 : ∀ (ls : Array Slot) (H : Heap) (locs : List Loc), lv_has ls 4 [(0, .ref (a 0)), (2, iv r_54.1), (3, iv r_54.2)] → XH D A H0 [((a 0), oM a M_edits M_typed M_readRows M_readColumns M_top M_bottom M_left M_right M_panes), ((a 10), aI cZ 2401 M_near), ((a 11), aI cI 49 M_nearMany), ((a 16), aI cI 49 M_sequence), ((a 17), aI cZ 49 M_isGone), ((a 18), aI cI 49 q_47)] H locs → W p l e rm_mo_colourAll s m args below meth c H locs 0 0 Q (F0 m 91 ls []) := by
        intro ls H locs hl h
        exact ih r_54.1 r_54.2 q_47 _ _ _ (lv_sub hl [0, 1, 2] rfl) h hf
      clear hf
      have hf := hrr_54
      refine x_icmple C (pc := 121) (tgt := 138) g_49 g_50 dX8_colourAll_121 rfl (fun hc => ?_) (fun hc => ?_)
      · have hf := oi_t hf hc
        refine lv_iload_n hx hb (pc := 138) dX8_colourAll_138 rfl (lv_at hl 1 rfl) ?_
        refine lv_istore_n hx hb (pc := 139) (lv' := [(2, iv l2), (0, .ref (a 0)), (3, iv l3)]) dX8_colourAll_139 rfl hl (Nat.le_of_ble_eq_true rfl) rfl (fun ls hl => ?_)
        obtain ⟨l3_51, el3_51, hf⟩ := ol_some hf
        refine x_iinc C (pc := 140) (k := 2) (lw' := [(3, iv l3_51), (2, iv l2), (0, .ref (a 0))]) dX8_colourAll_140 hl rfl el3_51 (Nat.le_of_ble_eq_true rfl) rfl (fun ls hl => ?_)
        refine lv_goto hx hb (pc := 143) (tgt := 91) dX8_colourAll_143 rfl ?_
        have e9 := Option.some.inj hf
        subst e9
        exact Jr_54 _ _ _ (lv_sub hl [2, 1, 0] rfl) h
      · have hf := oi_f hf hc
        refine lv_aload_n hx hb (pc := 124) dX8_colourAll_124 rfl (lv_at hl 0 rfl) ?_
        refine x_get C h (pc := 125) xf_X8_62 0 rfl (v := .ref (a 18)) rfl dX8_colourAll_125 ?_
        refine lv_aload_n hx hb (pc := 128) dX8_colourAll_128 rfl (lv_at hl 0 rfl) ?_
        refine x_get C h (pc := 129) xf_X8_56 0 rfl (v := .ref (a 16)) rfl dX8_colourAll_129 ?_
        refine lv_iload_n hx hb (pc := 132) dX8_colourAll_132 rfl (lv_at hl 2 rfl) ?_
        refine x_iald C h (pc := 133) 3 0 rfl rfl (Nat.le_of_ble_eq_true rfl) g_46 dX8_colourAll_133 ?_
        refine x_iald C h (pc := 134) 5 0 rfl rfl (Nat.le_of_ble_eq_true rfl) g_48 dX8_colourAll_134 ?_
        refine lv_goto hx hb (pc := 135) (tgt := 139) dX8_colourAll_135 rfl ?_
        obtain ⟨l2_52, el2_52, hf⟩ := ol_some hf
        refine x_topi el2_52 ?_
        refine lv_istore_n hx hb (pc := 139) (lv' := [(2, iv l2_52), (0, .ref (a 0)), (3, iv l3)]) dX8_colourAll_139 rfl hl (Nat.le_of_ble_eq_true rfl) rfl (fun ls hl => ?_)
        obtain ⟨l3_53, el3_53, hf⟩ := ol_some hf
        refine x_iinc C (pc := 140) (k := 2) (lw' := [(3, iv l3_53), (2, iv l2_52), (0, .ref (a 0))]) dX8_colourAll_140 hl rfl el3_53 (Nat.le_of_ble_eq_true rfl) rfl (fun ls hl => ?_)
        refine lv_goto hx hb (pc := 143) (tgt := 91) dX8_colourAll_143 rfl ?_
        have e9 := Option.some.inj hf
        subst e9
        exact Jr_54 _ _ _ (lv_sub hl [2, 1, 0] rfl) h
set_option maxHeartbeats 4000000 in
set_option maxRecDepth 100000 in
theorem w_mo_colourAll_32 {p : Program} {l : Launch} {e : Env} {s : State} {m : MethodId} {args : Array Value} {below : List Frame} {meth : Method} {c : Code} {Q : State → Prop} {D : va_G} {cI cJ cZ cO : ClassId} {A : Nat → Prop} {H0 : Heap} {w0 : Cond} (C : XC p s m args c cX8_colourAll 4 RX8 w0 D (xT cI cJ cZ cO)) (a : Nat → Nat) (M_edits : Int) (M_typed : Int) (M_readRows : Int) (M_readColumns : Int) (M_top : Int) (M_bottom : Int) (M_left : Int) (M_right : Int) (M_panes : Int) (M_near : Int → Int) (M_nearMany : Int → Int) (Res : Int × (Int → Int) × (Int → Int) × (Int → Int)) (hret : XRI p l e rm_mo_colourAll s m args below meth c cX8_colourAll D A H0 Q Res.1 [((a 0), oM a M_edits M_typed M_readRows M_readColumns M_top M_bottom M_left M_right M_panes), ((a 10), aI cZ 2401 M_near), ((a 11), aI cI 49 M_nearMany), ((a 16), aI cI 49 Res.2.1), ((a 17), aI cZ 49 Res.2.2.1), ((a 18), aI cI 49 Res.2.2.2)]) (N : Nat) (l1 : Int) (M_number : Int → Int) : ∀ (n : Nat) (l2 : Int) (M_sequence : Int → Int) (M_isGone : Int → Int) (ls : Array Slot) (H : Heap) (locs : List Loc), lv_has ls 4 [(0, .ref (a 0)), (1, iv l1), (2, iv l2)] → XH D A H0 [((a 0), oM a M_edits M_typed M_readRows M_readColumns M_top M_bottom M_left M_right M_panes), ((a 10), aI cZ 2401 M_near), ((a 11), aI cI 49 M_nearMany), ((a 16), aI cI 49 M_sequence), ((a 17), aI cZ 49 M_isGone), ((a 18), aI cI 49 M_number)] H locs → f_mo_colourAll_32 N l1 M_number M_panes M_near M_nearMany n l2 M_sequence M_isGone = some Res → W p l e rm_mo_colourAll s m args below meth c H locs 0 0 Q (F0 m 32 ls []) := by
  have hx := C.1.1
  have hb := C.1.2.1
  intro n
  induction n with
  | zero => intro l2 M_sequence M_isGone ls H locs hl h hf; cases hf
  | succ n ih =>
    intro l2 M_sequence M_isGone ls H locs hl h hf
    rw [f_mo_colourAll_32.eq_2] at hf
    refine lv_iload_n hx hb (pc := 32) dX8_colourAll_32 rfl (lv_at hl 2 rfl) ?_
    refine lv_aload_n hx hb (pc := 33) dX8_colourAll_33 rfl (lv_at hl 0 rfl) ?_
    refine x_get C h (pc := 34) xf_X8_92 0 rfl (v := iv M_panes) rfl dX8_colourAll_34 ?_
    obtain ⟨g_34, hf⟩ := og_some hf
    obtain ⟨g_35, hf⟩ := og_some hf
    refine x_icmpge C (pc := 37) (tgt := 87) g_34 g_35 dX8_colourAll_37 rfl (fun hc => ?_) (fun hc => ?_)
    · have hf := oi_t hf hc
      refine x_iconst C (pc := 87) dX8_colourAll_87 ?_
      refine lv_istore_n hx hb (pc := 88) (lv' := [(2, iv 0), (0, .ref (a 0)), (1, iv l1)]) dX8_colourAll_88 rfl hl (Nat.le_of_ble_eq_true rfl) rfl (fun ls hl => ?_)
      refine x_iconst C (pc := 89) dX8_colourAll_89 ?_
      refine lv_istore_n hx hb (pc := 90) (lv' := [(3, iv 0), (2, iv 0), (0, .ref (a 0)), (1, iv l1)]) dX8_colourAll_90 rfl hl (Nat.le_of_ble_eq_true rfl) rfl (fun ls hl => ?_)
      exact w_mo_colourAll_91 C a M_edits M_typed M_readRows M_readColumns M_top M_bottom M_left M_right M_panes M_near M_nearMany Res hret N M_sequence M_isGone N 0 0 M_number _ _ _ (lv_sub hl [2, 1, 0] rfl) h hf
    · have hf := oi_f hf hc
      refine lv_iload_n hx hb (pc := 40) dX8_colourAll_40 rfl (lv_at hl 1 rfl) ?_
      refine x_iconst C (pc := 41) dX8_colourAll_41 ?_
      obtain ⟨g_36, hf⟩ := og_some hf
      obtain ⟨r_37, hrr_37, hf⟩ := ob_some hf
      have Jr_37 : ∀ (ls : Array Slot) (H : Heap) (locs : List Loc), lv_has ls 4 [(0, .ref (a 0)), (1, iv l1), (2, iv l2)] → XH D A H0 [((a 0), oM a M_edits M_typed M_readRows M_readColumns M_top M_bottom M_left M_right M_panes), ((a 10), aI cZ 2401 M_near), ((a 11), aI cI 49 M_nearMany), ((a 16), aI cI 49 M_sequence), ((a 17), aI cZ 49 M_isGone), ((a 18), aI cI 49 M_number)] H locs → W p l e rm_mo_colourAll s m args below meth c H locs 0 0 Q (F0 m 57 ls [iv r_37]) := by
        intro ls H locs hl h
        refine lv_istore_n hx hb (pc := 57) (lv' := [(3, iv r_37), (0, .ref (a 0)), (1, iv l1), (2, iv l2)]) dX8_colourAll_57 rfl hl (Nat.le_of_ble_eq_true rfl) rfl (fun ls hl => ?_)
        refine lv_aload_n hx hb (pc := 58) dX8_colourAll_58 rfl (lv_at hl 1 rfl) ?_
        refine x_get C h (pc := 59) xf_X8_56 0 rfl (v := .ref (a 16)) rfl dX8_colourAll_59 ?_
        refine lv_iload_n hx hb (pc := 62) dX8_colourAll_62 rfl (lv_at hl 0 rfl) ?_
        refine lv_aload_n hx hb (pc := 63) dX8_colourAll_63 rfl (lv_at hl 1 rfl) ?_
        refine lv_iload_n hx hb (pc := 64) dX8_colourAll_64 rfl (lv_at hl 2 rfl) ?_
        obtain ⟨q_38, hq_38, hf⟩ := ob_some hf
        refine x_callVi C h (pc := 65) hl (c_mo_nextPane l D cI cJ cZ cO a M_edits M_typed M_readRows M_readColumns M_top M_bottom M_left M_right M_panes M_near M_nearMany M_isGone l1 N q_38 hq_38) xv_X8_nextPane lk_X8_205 ⟨(Nat.le_of_ble_eq_true rfl), (Nat.le_of_ble_eq_true rfl)⟩ rfl [0, 1, 2, 4] [3, 5] (nw := 6) (wr := [((a 16), aI cI 49 M_sequence), ((a 18), aI cI 49 M_number)]) (as := [(a 0), (a 10), (a 11), (a 16), (a 17), (a 18)]) (ws' := [((a 0), oM a M_edits M_typed M_readRows M_readColumns M_top M_bottom M_left M_right M_panes), ((a 10), aI cZ 2401 M_near), ((a 11), aI cI 49 M_nearMany), ((a 16), aI cI 49 M_sequence), ((a 17), aI cZ 49 M_isGone), ((a 18), aI cI 49 M_number)]) rfl rfl rfl rfl rfl rfl rfl rfl rfl 0 rfl rfl rfl rfl (Nat.le_of_ble_eq_true rfl) dX8_colourAll_65 (fun H locs h => ?_)
        obtain ⟨g_39, hf⟩ := og_some hf
        obtain ⟨M_sequence_40, eM_sequence_40, hf⟩ := ol_some hf
        refine x_iast C h (pc := 68) (ws' := [((a 0), oM a M_edits M_typed M_readRows M_readColumns M_top M_bottom M_left M_right M_panes), ((a 10), aI cZ 2401 M_near), ((a 11), aI cI 49 M_nearMany), ((a 16), aI cI 49 M_sequence_40), ((a 17), aI cZ 49 M_isGone), ((a 18), aI cI 49 M_number)]) 3 0 rfl rfl (Nat.le_of_ble_eq_true rfl) g_39 eM_sequence_40 rfl dX8_colourAll_68 (fun H locs h => ?_)
        refine lv_aload_n hx hb (pc := 69) dX8_colourAll_69 rfl (lv_at hl 1 rfl) ?_
        refine x_get C h (pc := 70) xf_X8_59 0 rfl (v := .ref (a 17)) rfl dX8_colourAll_70 ?_
        refine lv_aload_n hx hb (pc := 73) dX8_colourAll_73 rfl (lv_at hl 1 rfl) ?_
        refine x_get C h (pc := 74) xf_X8_56 0 rfl (v := .ref (a 16)) rfl dX8_colourAll_74 ?_
        refine lv_iload_n hx hb (pc := 77) dX8_colourAll_77 rfl (lv_at hl 0 rfl) ?_
        refine x_iald C h (pc := 78) 3 0 rfl rfl (Nat.le_of_ble_eq_true rfl) g_39 dX8_colourAll_78 ?_
        refine x_iconst C (pc := 79) dX8_colourAll_79 ?_
        obtain ⟨g_41, hf⟩ := og_some hf
        obtain ⟨M_isGone_42, eM_isGone_42, hf⟩ := ol_some hf
        refine x_zast C h (pc := 80) (ws' := [((a 0), oM a M_edits M_typed M_readRows M_readColumns M_top M_bottom M_left M_right M_panes), ((a 10), aI cZ 2401 M_near), ((a 11), aI cI 49 M_nearMany), ((a 16), aI cI 49 M_sequence_40), ((a 17), aI cZ 49 M_isGone_42), ((a 18), aI cI 49 M_number)]) 4 2 rfl rfl (Nat.le_of_ble_eq_true rfl) g_41 (Or.inr rfl) eM_isGone_42 rfl dX8_colourAll_80 (fun H locs h => ?_)
        obtain ⟨l2_43, el2_43, hf⟩ := ol_some hf
        refine x_iinc C (pc := 81) (k := 3) (lw' := [(2, iv l2_43), (3, iv r_37), (0, .ref (a 0)), (1, iv l1)]) dX8_colourAll_81 hl rfl el2_43 (Nat.le_of_ble_eq_true rfl) rfl (fun ls hl => ?_)
        refine lv_goto hx hb (pc := 84) (tgt := 32) dX8_colourAll_84 rfl ?_
        exact ih l2_43 M_sequence_40 M_isGone_42 _ _ _ (lv_sub hl [2, 3, 0] rfl) h hf
      clear hf
      have hf := hrr_37
      refine x_icmpne C (pc := 42) (tgt := 56) g_36 ⟨by decide, by decide⟩ dX8_colourAll_42 rfl (fun hc => ?_) (fun hc => ?_)
      · have hf := oi_f hf hc
        refine lv_iload_n hx hb (pc := 56) dX8_colourAll_56 rfl (lv_at hl 2 rfl) ?_
        have e9 := Option.some.inj hf
        subst e9
        exact Jr_37 _ _ _ (lv_sub hl [0, 1, 2] rfl) h
      · have hf := oi_t hf hc
        refine lv_aload_n hx hb (pc := 45) dX8_colourAll_45 rfl (lv_at hl 0 rfl) ?_
        refine x_get C h (pc := 46) xf_X8_92 0 rfl (v := iv M_panes) rfl dX8_colourAll_46 ?_
        refine x_iconst C (pc := 49) dX8_colourAll_49 ?_
        refine x_isub C (pc := 50) dX8_colourAll_50 ?_
        refine lv_iload_n hx hb (pc := 51) dX8_colourAll_51 rfl (lv_at hl 2 rfl) ?_
        refine x_isub C (pc := 52) dX8_colourAll_52 ?_
        refine lv_goto hx hb (pc := 53) (tgt := 57) dX8_colourAll_53 rfl ?_
        have e9 := Option.some.inj hf
        subst e9
        exact Jr_37 _ _ _ (lv_sub hl [0, 1, 2] rfl) h
set_option maxHeartbeats 4000000 in
set_option maxRecDepth 100000 in
theorem w_mo_colourAll_2 {p : Program} {l : Launch} {e : Env} {s : State} {m : MethodId} {args : Array Value} {below : List Frame} {meth : Method} {c : Code} {Q : State → Prop} {D : va_G} {cI cJ cZ cO : ClassId} {A : Nat → Prop} {H0 : Heap} {w0 : Cond} (C : XC p s m args c cX8_colourAll 4 RX8 w0 D (xT cI cJ cZ cO)) (a : Nat → Nat) (M_edits : Int) (M_typed : Int) (M_readRows : Int) (M_readColumns : Int) (M_top : Int) (M_bottom : Int) (M_left : Int) (M_right : Int) (M_panes : Int) (M_near : Int → Int) (M_nearMany : Int → Int) (Res : Int × (Int → Int) × (Int → Int) × (Int → Int)) (hret : XRI p l e rm_mo_colourAll s m args below meth c cX8_colourAll D A H0 Q Res.1 [((a 0), oM a M_edits M_typed M_readRows M_readColumns M_top M_bottom M_left M_right M_panes), ((a 10), aI cZ 2401 M_near), ((a 11), aI cI 49 M_nearMany), ((a 16), aI cI 49 Res.2.1), ((a 17), aI cZ 49 Res.2.2.1), ((a 18), aI cI 49 Res.2.2.2)]) (N : Nat) (l1 : Int) (M_sequence : Int → Int) : ∀ (n : Nat) (l2 : Int) (M_isGone : Int → Int) (M_number : Int → Int) (ls : Array Slot) (H : Heap) (locs : List Loc), lv_has ls 4 [(0, .ref (a 0)), (1, iv l1), (2, iv l2)] → XH D A H0 [((a 0), oM a M_edits M_typed M_readRows M_readColumns M_top M_bottom M_left M_right M_panes), ((a 10), aI cZ 2401 M_near), ((a 11), aI cI 49 M_nearMany), ((a 16), aI cI 49 M_sequence), ((a 17), aI cZ 49 M_isGone), ((a 18), aI cI 49 M_number)] H locs → f_mo_colourAll_2 N l1 M_sequence M_panes M_near M_nearMany n l2 M_isGone M_number = some Res → W p l e rm_mo_colourAll s m args below meth c H locs 0 0 Q (F0 m 2 ls []) := by
  have hx := C.1.1
  have hb := C.1.2.1
  intro n
  induction n with
  | zero => intro l2 M_isGone M_number ls H locs hl h hf; cases hf
  | succ n ih =>
    intro l2 M_isGone M_number ls H locs hl h hf
    rw [f_mo_colourAll_2.eq_2] at hf
    refine lv_iload_n hx hb (pc := 2) dX8_colourAll_2 rfl (lv_at hl 2 rfl) ?_
    refine lv_aload_n hx hb (pc := 3) dX8_colourAll_3 rfl (lv_at hl 0 rfl) ?_
    refine x_get C h (pc := 4) xf_X8_92 0 rfl (v := iv M_panes) rfl dX8_colourAll_4 ?_
    obtain ⟨g_28, hf⟩ := og_some hf
    obtain ⟨g_29, hf⟩ := og_some hf
    refine x_icmpge C (pc := 7) (tgt := 30) g_28 g_29 dX8_colourAll_7 rfl (fun hc => ?_) (fun hc => ?_)
    · have hf := oi_t hf hc
      refine x_iconst C (pc := 30) dX8_colourAll_30 ?_
      refine lv_istore_n hx hb (pc := 31) (lv' := [(2, iv 0), (0, .ref (a 0)), (1, iv l1)]) dX8_colourAll_31 rfl hl (Nat.le_of_ble_eq_true rfl) rfl (fun ls hl => ?_)
      exact w_mo_colourAll_32 C a M_edits M_typed M_readRows M_readColumns M_top M_bottom M_left M_right M_panes M_near M_nearMany Res hret N l1 M_number N 0 M_sequence M_isGone _ _ _ (lv_sub hl [1, 2, 0] rfl) h hf
    · have hf := oi_f hf hc
      refine lv_aload_n hx hb (pc := 10) dX8_colourAll_10 rfl (lv_at hl 0 rfl) ?_
      refine x_get C h (pc := 11) xf_X8_59 0 rfl (v := .ref (a 17)) rfl dX8_colourAll_11 ?_
      refine lv_iload_n hx hb (pc := 14) dX8_colourAll_14 rfl (lv_at hl 2 rfl) ?_
      refine x_iconst C (pc := 15) dX8_colourAll_15 ?_
      obtain ⟨g_30, hf⟩ := og_some hf
      obtain ⟨M_isGone_31, eM_isGone_31, hf⟩ := ol_some hf
      refine x_zast C h (pc := 16) (ws' := [((a 0), oM a M_edits M_typed M_readRows M_readColumns M_top M_bottom M_left M_right M_panes), ((a 10), aI cZ 2401 M_near), ((a 11), aI cI 49 M_nearMany), ((a 16), aI cI 49 M_sequence), ((a 17), aI cZ 49 M_isGone_31), ((a 18), aI cI 49 M_number)]) 4 2 rfl rfl (Nat.le_of_ble_eq_true rfl) g_30 (Or.inl rfl) eM_isGone_31 rfl dX8_colourAll_16 (fun H locs h => ?_)
      refine lv_aload_n hx hb (pc := 17) dX8_colourAll_17 rfl (lv_at hl 0 rfl) ?_
      refine x_get C h (pc := 18) xf_X8_62 0 rfl (v := .ref (a 18)) rfl dX8_colourAll_18 ?_
      refine lv_iload_n hx hb (pc := 21) dX8_colourAll_21 rfl (lv_at hl 2 rfl) ?_
      refine x_iconst C (pc := 22) dX8_colourAll_22 ?_
      obtain ⟨M_number_32, eM_number_32, hf⟩ := ol_some hf
      refine x_iast C h (pc := 23) (ws' := [((a 0), oM a M_edits M_typed M_readRows M_readColumns M_top M_bottom M_left M_right M_panes), ((a 10), aI cZ 2401 M_near), ((a 11), aI cI 49 M_nearMany), ((a 16), aI cI 49 M_sequence), ((a 17), aI cZ 49 M_isGone_31), ((a 18), aI cI 49 M_number_32)]) 5 0 rfl rfl (Nat.le_of_ble_eq_true rfl) g_30 eM_number_32 rfl dX8_colourAll_23 (fun H locs h => ?_)
      obtain ⟨l2_33, el2_33, hf⟩ := ol_some hf
      refine x_iinc C (pc := 24) (k := 2) (lw' := [(2, iv l2_33), (0, .ref (a 0)), (1, iv l1)]) dX8_colourAll_24 hl rfl el2_33 (Nat.le_of_ble_eq_true rfl) rfl (fun ls hl => ?_)
      refine lv_goto hx hb (pc := 27) (tgt := 2) dX8_colourAll_27 rfl ?_
      exact ih l2_33 M_isGone_31 M_number_32 _ _ _ (lv_sub hl [1, 2, 0] rfl) h hf
set_option maxHeartbeats 4000000 in
set_option maxRecDepth 100000 in
theorem c_mo_colourAll (l : Launch) (D : va_G) (cI cJ cZ cO : ClassId) (a : Nat → Nat) (M_edits : Int) (M_typed : Int) (M_readRows : Int) (M_readColumns : Int) (M_top : Int) (M_bottom : Int) (M_left : Int) (M_right : Int) (M_panes : Int) (M_near : Int → Int) (M_nearMany : Int → Int) (M_sequence : Int → Int) (M_isGone : Int → Int) (M_number : Int → Int) (l1 : Int) (N : Nat) (Res : Int × (Int → Int) × (Int → Int) × (Int → Int)) (hf : f_mo_colourAll N l1 M_panes M_near M_nearMany M_sequence M_isGone M_number = some Res) : CoI l D (xT cI cJ cZ cO) yX8_colourAll cX8_colourAll 4 (some .int) rm_mo_colourAll [.ref (a 0), iv l1] [((a 0), oM a M_edits M_typed M_readRows M_readColumns M_top M_bottom M_left M_right M_panes), ((a 10), aI cZ 2401 M_near), ((a 11), aI cI 49 M_nearMany), ((a 16), aI cI 49 M_sequence), ((a 17), aI cZ 49 M_isGone), ((a 18), aI cI 49 M_number)] Res.1 [((a 0), oM a M_edits M_typed M_readRows M_readColumns M_top M_bottom M_left M_right M_panes), ((a 10), aI cZ 2401 M_near), ((a 11), aI cI 49 M_nearMany), ((a 16), aI cI 49 Res.2.1), ((a 17), aI cZ 49 Res.2.2.1), ((a 18), aI cI 49 Res.2.2.2)] := by
  refine co_i (by decide) ⟨rfl, rfl⟩ (Nat.le_of_ble_eq_true rfl) ?_
  intro p e s m args below meth c A Q ls C hret hl h
  have hx := C.1.1
  have hb := C.1.2.1
  have hl : lv_has ls 4 [(0, .ref (a 0)), (1, iv l1)] := hl
  unfold f_mo_colourAll at hf
  refine x_iconst C (pc := 0) dX8_colourAll_0 ?_
  refine lv_istore_n hx hb (pc := 1) (lv' := [(2, iv 0), (0, .ref (a 0)), (1, iv l1)]) dX8_colourAll_1 rfl hl (Nat.le_of_ble_eq_true rfl) rfl (fun ls hl => ?_)
  exact w_mo_colourAll_2 C a M_edits M_typed M_readRows M_readColumns M_top M_bottom M_left M_right M_panes M_near M_nearMany Res hret N l1 M_sequence N 0 M_isGone M_number _ _ _ (lv_sub hl [1, 2, 0] rfl) h hf
abbrev rm_mo_colourCount : Room := { frames := 5, cells := 0, slots := 0, locals := 120 }
set_option maxHeartbeats 4000000 in
set_option maxRecDepth 100000 in
theorem c_mo_colourCount (l : Launch) (D : va_G) (cI cJ cZ cO : ClassId) (a : Nat → Nat) (M_edits : Int) (M_typed : Int) (M_readRows : Int) (M_readColumns : Int) (M_top : Int) (M_bottom : Int) (M_left : Int) (M_right : Int) (M_panes : Int) (M_now : Int → Int) (M_queue : Int → Int) (M_pane : Int → Int) (M_size : Int → Int) (M_near : Int → Int) (M_nearMany : Int → Int) (M_sequence : Int → Int) (M_isGone : Int → Int) (M_number : Int → Int) (l1 : Int) (N : Nat) (Res : Int × Int × Int × Int × Int × Int × (Int → Int) × (Int → Int) × (Int → Int) × (Int → Int) × (Int → Int) × (Int → Int) × (Int → Int) × (Int → Int)) (hf : f_mo_colourCount N l1 M_top M_bottom M_left M_right M_panes M_now M_queue M_pane M_size M_near M_nearMany M_sequence M_isGone M_number = some Res) : CoI l D (xT cI cJ cZ cO) yX8_colourCount cX8_colourCount 3 (some .int) rm_mo_colourCount [.ref (a 0), iv l1] [((a 0), oM a M_edits M_typed M_readRows M_readColumns M_top M_bottom M_left M_right M_panes), ((a 1), aI cI 151 M_now), ((a 5), aI cI 49 M_queue), ((a 6), aI cI 49 M_pane), ((a 8), aI cI 49 M_size), ((a 10), aI cZ 2401 M_near), ((a 11), aI cI 49 M_nearMany), ((a 16), aI cI 49 M_sequence), ((a 17), aI cZ 49 M_isGone), ((a 18), aI cI 49 M_number)] Res.1 [((a 0), oM a M_edits M_typed M_readRows M_readColumns Res.2.1 Res.2.2.1 Res.2.2.2.1 Res.2.2.2.2.1 Res.2.2.2.2.2.1), ((a 1), aI cI 151 M_now), ((a 5), aI cI 49 Res.2.2.2.2.2.2.1), ((a 6), aI cI 49 Res.2.2.2.2.2.2.2.1), ((a 8), aI cI 49 Res.2.2.2.2.2.2.2.2.1), ((a 10), aI cZ 2401 Res.2.2.2.2.2.2.2.2.2.1), ((a 11), aI cI 49 Res.2.2.2.2.2.2.2.2.2.2.1), ((a 16), aI cI 49 Res.2.2.2.2.2.2.2.2.2.2.2.1), ((a 17), aI cZ 49 Res.2.2.2.2.2.2.2.2.2.2.2.2.1), ((a 18), aI cI 49 Res.2.2.2.2.2.2.2.2.2.2.2.2.2)] := by
  refine co_i (by decide) ⟨rfl, rfl⟩ (Nat.le_of_ble_eq_true rfl) ?_
  intro p e s m args below meth c A Q ls C hret hl h
  have hx := C.1.1
  have hb := C.1.2.1
  have hl : lv_has ls 3 [(0, .ref (a 0)), (1, iv l1)] := hl
  unfold f_mo_colourCount at hf
  refine lv_iload_n hx hb (pc := 0) dX8_colourCount_0 rfl (lv_at hl 1 rfl) ?_
  refine x_iconst C (pc := 1) dX8_colourCount_1 ?_
  refine x_iconst C (pc := 2) dX8_colourCount_2 ?_
  obtain ⟨q_1, hq_1, hf⟩ := ob_some hf
  refine x_callSi C h (pc := 3) hl (c_mo_in l D cI cJ cZ cO a l1 0 2 N q_1 hq_1) xs_X8_in lk_X8_65 ⟨(Nat.le_of_ble_eq_true rfl), (Nat.le_of_ble_eq_true rfl)⟩ rfl [] [0, 1, 2, 3, 4, 5, 6, 7, 8, 9] (nw := 10) (wr := [((a 0), oM a M_edits M_typed M_readRows M_readColumns M_top M_bottom M_left M_right M_panes), ((a 1), aI cI 151 M_now), ((a 5), aI cI 49 M_queue), ((a 6), aI cI 49 M_pane), ((a 8), aI cI 49 M_size), ((a 10), aI cZ 2401 M_near), ((a 11), aI cI 49 M_nearMany), ((a 16), aI cI 49 M_sequence), ((a 17), aI cZ 49 M_isGone), ((a 18), aI cI 49 M_number)]) (as := [(a 0), (a 1), (a 5), (a 6), (a 8), (a 10), (a 11), (a 16), (a 17), (a 18)]) (ws' := [((a 0), oM a M_edits M_typed M_readRows M_readColumns M_top M_bottom M_left M_right M_panes), ((a 1), aI cI 151 M_now), ((a 5), aI cI 49 M_queue), ((a 6), aI cI 49 M_pane), ((a 8), aI cI 49 M_size), ((a 10), aI cZ 2401 M_near), ((a 11), aI cI 49 M_nearMany), ((a 16), aI cI 49 M_sequence), ((a 17), aI cZ 49 M_isGone), ((a 18), aI cI 49 M_number)]) rfl rfl rfl rfl rfl rfl rfl rfl rfl rfl (Nat.le_of_ble_eq_true rfl) dX8_colourCount_3 (fun H locs h => ?_)
  obtain ⟨g_2, hf⟩ := og_some hf
  refine x_ifne C (pc := 6) (tgt := 11) g_2 dX8_colourCount_6 rfl (fun hc => ?_) (fun hc => ?_)
  · have hf := oi_f hf hc
    refine lv_aload_n hx hb (pc := 11) dX8_colourCount_11 rfl (lv_at hl 0 rfl) ?_
    obtain ⟨q_3, hq_3, hf⟩ := ob_some hf
    refine x_callVi C h (pc := 12) hl (c_mo_findNear l D cI cJ cZ cO a M_edits M_typed M_readRows M_readColumns M_top M_bottom M_left M_right M_panes M_now M_queue M_pane M_size M_near M_nearMany N q_3 hq_3) xv_X8_findNear lk_X8_168 ⟨(Nat.le_of_ble_eq_true rfl), (Nat.le_of_ble_eq_true rfl)⟩ rfl [0, 1, 2, 3, 4, 5, 6] [7, 8, 9] (nw := 10) (wr := [((a 16), aI cI 49 M_sequence), ((a 17), aI cZ 49 M_isGone), ((a 18), aI cI 49 M_number)]) (as := [(a 0), (a 1), (a 5), (a 6), (a 8), (a 10), (a 11), (a 16), (a 17), (a 18)]) (ws' := [((a 0), oM a M_edits M_typed M_readRows M_readColumns q_3.2.1 q_3.2.2.1 q_3.2.2.2.1 q_3.2.2.2.2.1 q_3.2.2.2.2.2.1), ((a 1), aI cI 151 M_now), ((a 5), aI cI 49 q_3.2.2.2.2.2.2.1), ((a 6), aI cI 49 q_3.2.2.2.2.2.2.2.1), ((a 8), aI cI 49 q_3.2.2.2.2.2.2.2.2.1), ((a 10), aI cZ 2401 q_3.2.2.2.2.2.2.2.2.2.1), ((a 11), aI cI 49 q_3.2.2.2.2.2.2.2.2.2.2), ((a 16), aI cI 49 M_sequence), ((a 17), aI cZ 49 M_isGone), ((a 18), aI cI 49 M_number)]) rfl rfl rfl rfl rfl rfl rfl rfl rfl 0 rfl rfl rfl rfl (Nat.le_of_ble_eq_true rfl) dX8_colourCount_12 (fun H locs h => ?_)
    refine lv_istore_n hx hb (pc := 15) (lv' := [(2, iv q_3.1), (0, .ref (a 0)), (1, iv l1)]) dX8_colourCount_15 rfl hl (Nat.le_of_ble_eq_true rfl) rfl (fun ls hl => ?_)
    refine lv_aload_n hx hb (pc := 16) dX8_colourCount_16 rfl (lv_at hl 1 rfl) ?_
    refine lv_iload_n hx hb (pc := 17) dX8_colourCount_17 rfl (lv_at hl 2 rfl) ?_
    obtain ⟨q_4, hq_4, hf⟩ := ob_some hf
    refine x_callVi C h (pc := 18) hl (c_mo_colourAll l D cI cJ cZ cO a M_edits M_typed M_readRows M_readColumns q_3.2.1 q_3.2.2.1 q_3.2.2.2.1 q_3.2.2.2.2.1 q_3.2.2.2.2.2.1 q_3.2.2.2.2.2.2.2.2.2.1 q_3.2.2.2.2.2.2.2.2.2.2 M_sequence M_isGone M_number l1 N q_4 hq_4) xv_X8_colourAll lk_X8_211 ⟨(Nat.le_of_ble_eq_true rfl), (Nat.le_of_ble_eq_true rfl)⟩ rfl [0, 5, 6, 7, 8, 9] [1, 2, 3, 4] (nw := 10) (wr := [((a 1), aI cI 151 M_now), ((a 5), aI cI 49 q_3.2.2.2.2.2.2.1), ((a 6), aI cI 49 q_3.2.2.2.2.2.2.2.1), ((a 8), aI cI 49 q_3.2.2.2.2.2.2.2.2.1)]) (as := [(a 0), (a 1), (a 5), (a 6), (a 8), (a 10), (a 11), (a 16), (a 17), (a 18)]) (ws' := [((a 0), oM a M_edits M_typed M_readRows M_readColumns q_3.2.1 q_3.2.2.1 q_3.2.2.2.1 q_3.2.2.2.2.1 q_3.2.2.2.2.2.1), ((a 1), aI cI 151 M_now), ((a 5), aI cI 49 q_3.2.2.2.2.2.2.1), ((a 6), aI cI 49 q_3.2.2.2.2.2.2.2.1), ((a 8), aI cI 49 q_3.2.2.2.2.2.2.2.2.1), ((a 10), aI cZ 2401 q_3.2.2.2.2.2.2.2.2.2.1), ((a 11), aI cI 49 q_3.2.2.2.2.2.2.2.2.2.2), ((a 16), aI cI 49 q_4.2.1), ((a 17), aI cZ 49 q_4.2.2.1), ((a 18), aI cI 49 q_4.2.2.2)]) rfl rfl rfl rfl rfl rfl rfl rfl rfl 0 rfl rfl rfl rfl (Nat.le_of_ble_eq_true rfl) dX8_colourCount_18 (fun H locs h => ?_)
    have e9 := Option.some.inj hf
    subst e9
    exact hret _ _ _ _ dX8_colourCount_21 h
  · have hf := oi_t hf hc
    refine x_iconst C (pc := 9) dX8_colourCount_9 ?_
    have e9 := Option.some.inj hf
    subst e9
    exact hret _ _ _ _ dX8_colourCount_10 h
abbrev rm_mo_suggestedColour : Room := { frames := 5, cells := 0, slots := 0, locals := 120 }
set_option maxHeartbeats 4000000 in
set_option maxRecDepth 100000 in
theorem c_mo_suggestedColour (l : Launch) (D : va_G) (cI cJ cZ cO : ClassId) (a : Nat → Nat) (M_edits : Int) (M_typed : Int) (M_readRows : Int) (M_readColumns : Int) (M_top : Int) (M_bottom : Int) (M_left : Int) (M_right : Int) (M_panes : Int) (M_now : Int → Int) (M_queue : Int → Int) (M_pane : Int → Int) (M_size : Int → Int) (M_near : Int → Int) (M_nearMany : Int → Int) (M_sequence : Int → Int) (M_isGone : Int → Int) (M_number : Int → Int) (l1 : Int) (l2 : Int) (N : Nat) (Res : Int × Int × Int × Int × Int × Int × (Int → Int) × (Int → Int) × (Int → Int) × (Int → Int) × (Int → Int) × (Int → Int) × (Int → Int) × (Int → Int)) (hf : f_mo_suggestedColour N l1 l2 M_top M_bottom M_left M_right M_panes M_now M_queue M_pane M_size M_near M_nearMany M_sequence M_isGone M_number = some Res) : CoI l D (xT cI cJ cZ cO) yX8_suggestedColour cX8_suggestedColour 5 (some .int) rm_mo_suggestedColour [.ref (a 0), iv l1, iv l2] [((a 0), oM a M_edits M_typed M_readRows M_readColumns M_top M_bottom M_left M_right M_panes), ((a 1), aI cI 151 M_now), ((a 5), aI cI 49 M_queue), ((a 6), aI cI 49 M_pane), ((a 8), aI cI 49 M_size), ((a 10), aI cZ 2401 M_near), ((a 11), aI cI 49 M_nearMany), ((a 16), aI cI 49 M_sequence), ((a 17), aI cZ 49 M_isGone), ((a 18), aI cI 49 M_number)] Res.1 [((a 0), oM a M_edits M_typed M_readRows M_readColumns Res.2.1 Res.2.2.1 Res.2.2.2.1 Res.2.2.2.2.1 Res.2.2.2.2.2.1), ((a 1), aI cI 151 M_now), ((a 5), aI cI 49 Res.2.2.2.2.2.2.1), ((a 6), aI cI 49 Res.2.2.2.2.2.2.2.1), ((a 8), aI cI 49 Res.2.2.2.2.2.2.2.2.1), ((a 10), aI cZ 2401 Res.2.2.2.2.2.2.2.2.2.1), ((a 11), aI cI 49 Res.2.2.2.2.2.2.2.2.2.2.1), ((a 16), aI cI 49 Res.2.2.2.2.2.2.2.2.2.2.2.1), ((a 17), aI cZ 49 Res.2.2.2.2.2.2.2.2.2.2.2.2.1), ((a 18), aI cI 49 Res.2.2.2.2.2.2.2.2.2.2.2.2.2)] := by
  refine co_i (by decide) ⟨rfl, rfl⟩ (Nat.le_of_ble_eq_true rfl) ?_
  intro p e s m args below meth c A Q ls C hret hl h
  have hx := C.1.1
  have hb := C.1.2.1
  have hl : lv_has ls 5 [(0, .ref (a 0)), (1, iv l1), (2, iv l2)] := hl
  unfold f_mo_suggestedColour at hf
  refine lv_iload_n hx hb (pc := 0) dX8_suggestedColour_0 rfl (lv_at hl 1 rfl) ?_
  refine x_iconst C (pc := 1) dX8_suggestedColour_1 ?_
  refine x_iconst C (pc := 2) dX8_suggestedColour_2 ?_
  obtain ⟨q_1, hq_1, hf⟩ := ob_some hf
  refine x_callSi C h (pc := 3) hl (c_mo_in l D cI cJ cZ cO a l1 0 2 N q_1 hq_1) xs_X8_in lk_X8_65 ⟨(Nat.le_of_ble_eq_true rfl), (Nat.le_of_ble_eq_true rfl)⟩ rfl [] [0, 1, 2, 3, 4, 5, 6, 7, 8, 9] (nw := 10) (wr := [((a 0), oM a M_edits M_typed M_readRows M_readColumns M_top M_bottom M_left M_right M_panes), ((a 1), aI cI 151 M_now), ((a 5), aI cI 49 M_queue), ((a 6), aI cI 49 M_pane), ((a 8), aI cI 49 M_size), ((a 10), aI cZ 2401 M_near), ((a 11), aI cI 49 M_nearMany), ((a 16), aI cI 49 M_sequence), ((a 17), aI cZ 49 M_isGone), ((a 18), aI cI 49 M_number)]) (as := [(a 0), (a 1), (a 5), (a 6), (a 8), (a 10), (a 11), (a 16), (a 17), (a 18)]) (ws' := [((a 0), oM a M_edits M_typed M_readRows M_readColumns M_top M_bottom M_left M_right M_panes), ((a 1), aI cI 151 M_now), ((a 5), aI cI 49 M_queue), ((a 6), aI cI 49 M_pane), ((a 8), aI cI 49 M_size), ((a 10), aI cZ 2401 M_near), ((a 11), aI cI 49 M_nearMany), ((a 16), aI cI 49 M_sequence), ((a 17), aI cZ 49 M_isGone), ((a 18), aI cI 49 M_number)]) rfl rfl rfl rfl rfl rfl rfl rfl rfl rfl (Nat.le_of_ble_eq_true rfl) dX8_suggestedColour_3 (fun H locs h => ?_)
  obtain ⟨g_2, hf⟩ := og_some hf
  refine x_ifeq C (pc := 6) (tgt := 17) g_2 dX8_suggestedColour_6 rfl (fun hc => ?_) (fun hc => ?_)
  · have hf := oi_t hf hc
    refine x_iconst C (pc := 17) dX8_suggestedColour_17 ?_
    have e9 := Option.some.inj hf
    subst e9
    exact hret _ _ _ _ dX8_suggestedColour_18 h
  · have hf := oi_f hf hc
    refine lv_aload_n hx hb (pc := 9) dX8_suggestedColour_9 rfl (lv_at hl 0 rfl) ?_
    refine lv_iload_n hx hb (pc := 10) dX8_suggestedColour_10 rfl (lv_at hl 2 rfl) ?_
    obtain ⟨q_3, hq_3, hf⟩ := ob_some hf
    refine x_callVi C h (pc := 11) hl (c_mo_isPane l D cI cJ cZ cO a M_edits M_typed M_readRows M_readColumns M_top M_bottom M_left M_right M_panes M_now M_queue M_pane M_size l2 N q_3 hq_3) xv_X8_isPane lk_X8_156 ⟨(Nat.le_of_ble_eq_true rfl), (Nat.le_of_ble_eq_true rfl)⟩ rfl [0, 1, 2, 3, 4] [5, 6, 7, 8, 9] (nw := 10) (wr := [((a 10), aI cZ 2401 M_near), ((a 11), aI cI 49 M_nearMany), ((a 16), aI cI 49 M_sequence), ((a 17), aI cZ 49 M_isGone), ((a 18), aI cI 49 M_number)]) (as := [(a 0), (a 1), (a 5), (a 6), (a 8), (a 10), (a 11), (a 16), (a 17), (a 18)]) (ws' := [((a 0), oM a M_edits M_typed M_readRows M_readColumns q_3.2.1 q_3.2.2.1 q_3.2.2.2.1 q_3.2.2.2.2.1 q_3.2.2.2.2.2.1), ((a 1), aI cI 151 M_now), ((a 5), aI cI 49 q_3.2.2.2.2.2.2.1), ((a 6), aI cI 49 q_3.2.2.2.2.2.2.2.1), ((a 8), aI cI 49 q_3.2.2.2.2.2.2.2.2), ((a 10), aI cZ 2401 M_near), ((a 11), aI cI 49 M_nearMany), ((a 16), aI cI 49 M_sequence), ((a 17), aI cZ 49 M_isGone), ((a 18), aI cI 49 M_number)]) rfl rfl rfl rfl rfl rfl rfl rfl rfl 0 rfl rfl rfl rfl (Nat.le_of_ble_eq_true rfl) dX8_suggestedColour_11 (fun H locs h => ?_)
    obtain ⟨g_4, hf⟩ := og_some hf
    refine x_ifne C (pc := 14) (tgt := 19) g_4 dX8_suggestedColour_14 rfl (fun hc => ?_) (fun hc => ?_)
    · have hf := oi_f hf hc
      refine lv_aload_n hx hb (pc := 19) dX8_suggestedColour_19 rfl (lv_at hl 0 rfl) ?_
      obtain ⟨q_5, hq_5, hf⟩ := ob_some hf
      refine x_callVi C h (pc := 20) hl (c_mo_findNear l D cI cJ cZ cO a M_edits M_typed M_readRows M_readColumns q_3.2.1 q_3.2.2.1 q_3.2.2.2.1 q_3.2.2.2.2.1 q_3.2.2.2.2.2.1 M_now q_3.2.2.2.2.2.2.1 q_3.2.2.2.2.2.2.2.1 q_3.2.2.2.2.2.2.2.2 M_near M_nearMany N q_5 hq_5) xv_X8_findNear lk_X8_168 ⟨(Nat.le_of_ble_eq_true rfl), (Nat.le_of_ble_eq_true rfl)⟩ rfl [0, 1, 2, 3, 4, 5, 6] [7, 8, 9] (nw := 10) (wr := [((a 16), aI cI 49 M_sequence), ((a 17), aI cZ 49 M_isGone), ((a 18), aI cI 49 M_number)]) (as := [(a 0), (a 1), (a 5), (a 6), (a 8), (a 10), (a 11), (a 16), (a 17), (a 18)]) (ws' := [((a 0), oM a M_edits M_typed M_readRows M_readColumns q_5.2.1 q_5.2.2.1 q_5.2.2.2.1 q_5.2.2.2.2.1 q_5.2.2.2.2.2.1), ((a 1), aI cI 151 M_now), ((a 5), aI cI 49 q_5.2.2.2.2.2.2.1), ((a 6), aI cI 49 q_5.2.2.2.2.2.2.2.1), ((a 8), aI cI 49 q_5.2.2.2.2.2.2.2.2.1), ((a 10), aI cZ 2401 q_5.2.2.2.2.2.2.2.2.2.1), ((a 11), aI cI 49 q_5.2.2.2.2.2.2.2.2.2.2), ((a 16), aI cI 49 M_sequence), ((a 17), aI cZ 49 M_isGone), ((a 18), aI cI 49 M_number)]) rfl rfl rfl rfl rfl rfl rfl rfl rfl 0 rfl rfl rfl rfl (Nat.le_of_ble_eq_true rfl) dX8_suggestedColour_20 (fun H locs h => ?_)
      refine lv_istore_n hx hb (pc := 23) (lv' := [(3, iv q_5.1), (0, .ref (a 0)), (1, iv l1), (2, iv l2)]) dX8_suggestedColour_23 rfl hl (Nat.le_of_ble_eq_true rfl) rfl (fun ls hl => ?_)
      refine lv_aload_n hx hb (pc := 24) dX8_suggestedColour_24 rfl (lv_at hl 1 rfl) ?_
      refine lv_iload_n hx hb (pc := 25) dX8_suggestedColour_25 rfl (lv_at hl 2 rfl) ?_
      obtain ⟨q_6, hq_6, hf⟩ := ob_some hf
      refine x_callVi C h (pc := 26) hl (c_mo_colourAll l D cI cJ cZ cO a M_edits M_typed M_readRows M_readColumns q_5.2.1 q_5.2.2.1 q_5.2.2.2.1 q_5.2.2.2.2.1 q_5.2.2.2.2.2.1 q_5.2.2.2.2.2.2.2.2.2.1 q_5.2.2.2.2.2.2.2.2.2.2 M_sequence M_isGone M_number l1 N q_6 hq_6) xv_X8_colourAll lk_X8_211 ⟨(Nat.le_of_ble_eq_true rfl), (Nat.le_of_ble_eq_true rfl)⟩ rfl [0, 5, 6, 7, 8, 9] [1, 2, 3, 4] (nw := 10) (wr := [((a 1), aI cI 151 M_now), ((a 5), aI cI 49 q_5.2.2.2.2.2.2.1), ((a 6), aI cI 49 q_5.2.2.2.2.2.2.2.1), ((a 8), aI cI 49 q_5.2.2.2.2.2.2.2.2.1)]) (as := [(a 0), (a 1), (a 5), (a 6), (a 8), (a 10), (a 11), (a 16), (a 17), (a 18)]) (ws' := [((a 0), oM a M_edits M_typed M_readRows M_readColumns q_5.2.1 q_5.2.2.1 q_5.2.2.2.1 q_5.2.2.2.2.1 q_5.2.2.2.2.2.1), ((a 1), aI cI 151 M_now), ((a 5), aI cI 49 q_5.2.2.2.2.2.2.1), ((a 6), aI cI 49 q_5.2.2.2.2.2.2.2.1), ((a 8), aI cI 49 q_5.2.2.2.2.2.2.2.2.1), ((a 10), aI cZ 2401 q_5.2.2.2.2.2.2.2.2.2.1), ((a 11), aI cI 49 q_5.2.2.2.2.2.2.2.2.2.2), ((a 16), aI cI 49 q_6.2.1), ((a 17), aI cZ 49 q_6.2.2.1), ((a 18), aI cI 49 q_6.2.2.2)]) rfl rfl rfl rfl rfl rfl rfl rfl rfl 0 rfl rfl rfl rfl (Nat.le_of_ble_eq_true rfl) dX8_suggestedColour_26 (fun H locs h => ?_)
      refine lv_istore hx hb (pc := 29) (lv' := [(4, iv q_6.1), (3, iv q_5.1), (0, .ref (a 0)), (1, iv l1), (2, iv l2)]) dX8_suggestedColour_29 hl (Nat.le_of_ble_eq_true rfl) rfl (fun ls hl => ?_)
      refine lv_aload_n hx hb (pc := 31) dX8_suggestedColour_31 rfl (lv_at hl 2 rfl) ?_
      refine x_get C h (pc := 32) xf_X8_62 0 rfl (v := .ref (a 18)) rfl dX8_suggestedColour_32 ?_
      refine lv_iload_n hx hb (pc := 35) dX8_suggestedColour_35 rfl (lv_at hl 4 rfl) ?_
      obtain ⟨g_7, hf⟩ := og_some hf
      refine x_iald C h (pc := 36) 9 0 rfl rfl (Nat.le_of_ble_eq_true rfl) g_7 dX8_suggestedColour_36 ?_
      have e9 := Option.some.inj hf
      subst e9
      exact hret _ _ _ _ dX8_suggestedColour_37 h
    · have hf := oi_t hf hc
      refine x_iconst C (pc := 17) dX8_suggestedColour_17 ?_
      have e9 := Option.some.inj hf
      subst e9
      exact hret _ _ _ _ dX8_suggestedColour_18 h
abbrev rm_mo_bestOrder : Room := { frames := 5, cells := 0, slots := 0, locals := 120 }
set_option maxHeartbeats 4000000 in
set_option maxRecDepth 100000 in
theorem w_mo_bestOrder_16 {p : Program} {l : Launch} {e : Env} {s : State} {m : MethodId} {args : Array Value} {below : List Frame} {meth : Method} {c : Code} {Q : State → Prop} {D : va_G} {cI cJ cZ cO : ClassId} {A : Nat → Prop} {H0 : Heap} {w0 : Cond} (C : XC p s m args c cX8_bestOrder 6 RX8 w0 D (xT cI cJ cZ cO)) (a : Nat → Nat) (M_edits : Int) (M_typed : Int) (M_readRows : Int) (M_readColumns : Int) (M_now : Int → Int) (Res : Int × Int × Int × Int × Int × Int × (Int → Int) × (Int → Int) × (Int → Int) × (Int → Int) × (Int → Int) × (Int → Int) × (Int → Int) × (Int → Int)) (hret : XRI p l e rm_mo_bestOrder s m args below meth c cX8_bestOrder D A H0 Q Res.1 [((a 0), oM a M_edits M_typed M_readRows M_readColumns Res.2.1 Res.2.2.1 Res.2.2.2.1 Res.2.2.2.2.1 Res.2.2.2.2.2.1), ((a 1), aI cI 151 M_now), ((a 5), aI cI 49 Res.2.2.2.2.2.2.1), ((a 6), aI cI 49 Res.2.2.2.2.2.2.2.1), ((a 8), aI cI 49 Res.2.2.2.2.2.2.2.2.1), ((a 10), aI cZ 2401 Res.2.2.2.2.2.2.2.2.2.1), ((a 11), aI cI 49 Res.2.2.2.2.2.2.2.2.2.2.1), ((a 16), aI cI 49 Res.2.2.2.2.2.2.2.2.2.2.2.1), ((a 17), aI cZ 49 Res.2.2.2.2.2.2.2.2.2.2.2.2.1), ((a 18), aI cI 49 Res.2.2.2.2.2.2.2.2.2.2.2.2.2)]) (N : Nat) (M_top : Int) (M_bottom : Int) (M_left : Int) (M_right : Int) (M_panes : Int) (M_queue : Int → Int) (M_pane : Int → Int) (M_size : Int → Int) (M_near : Int → Int) (M_nearMany : Int → Int) : ∀ (n : Nat) (l2 : Int) (l3 : Int) (l4 : Int) (M_sequence : Int → Int) (M_isGone : Int → Int) (M_number : Int → Int) (ls : Array Slot) (H : Heap) (locs : List Loc), lv_has ls 6 [(0, .ref (a 0)), (2, iv l2), (3, iv l3), (4, iv l4)] → XH D A H0 [((a 0), oM a M_edits M_typed M_readRows M_readColumns M_top M_bottom M_left M_right M_panes), ((a 1), aI cI 151 M_now), ((a 5), aI cI 49 M_queue), ((a 6), aI cI 49 M_pane), ((a 8), aI cI 49 M_size), ((a 10), aI cZ 2401 M_near), ((a 11), aI cI 49 M_nearMany), ((a 16), aI cI 49 M_sequence), ((a 17), aI cZ 49 M_isGone), ((a 18), aI cI 49 M_number)] H locs → f_mo_bestOrder_16 N M_top M_bottom M_left M_right M_panes M_queue M_pane M_size M_near M_nearMany n l2 l3 l4 M_sequence M_isGone M_number = some Res → W p l e rm_mo_bestOrder s m args below meth c H locs 0 0 Q (F0 m 16 ls []) := by
  have hx := C.1.1
  have hb := C.1.2.1
  intro n
  induction n with
  | zero => intro l2 l3 l4 M_sequence M_isGone M_number ls H locs hl h hf; cases hf
  | succ n ih =>
    intro l2 l3 l4 M_sequence M_isGone M_number ls H locs hl h hf
    rw [f_mo_bestOrder_16.eq_2] at hf
    refine lv_iload hx hb (pc := 16) dX8_bestOrder_16 (lv_at hl 3 rfl) ?_
    refine x_iconst C (pc := 18) dX8_bestOrder_18 ?_
    obtain ⟨g_3, hf⟩ := og_some hf
    refine x_icmpge C (pc := 19) (tgt := 48) g_3 ⟨by decide, by decide⟩ dX8_bestOrder_19 rfl (fun hc => ?_) (fun hc => ?_)
    · have hf := oi_t hf hc
      refine lv_iload_n hx hb (pc := 48) dX8_bestOrder_48 rfl (lv_at hl 1 rfl) ?_
      have e9 := Option.some.inj hf
      subst e9
      exact hret _ _ _ _ dX8_bestOrder_49 h
    · have hf := oi_f hf hc
      refine lv_aload_n hx hb (pc := 22) dX8_bestOrder_22 rfl (lv_at hl 0 rfl) ?_
      refine lv_iload hx hb (pc := 23) dX8_bestOrder_23 (lv_at hl 3 rfl) ?_
      obtain ⟨q_4, hq_4, hf⟩ := ob_some hf
      refine x_callVi C h (pc := 25) hl (c_mo_colourAll l D cI cJ cZ cO a M_edits M_typed M_readRows M_readColumns M_top M_bottom M_left M_right M_panes M_near M_nearMany M_sequence M_isGone M_number l4 N q_4 hq_4) xv_X8_colourAll lk_X8_211 ⟨(Nat.le_of_ble_eq_true rfl), (Nat.le_of_ble_eq_true rfl)⟩ rfl [0, 5, 6, 7, 8, 9] [1, 2, 3, 4] (nw := 10) (wr := [((a 1), aI cI 151 M_now), ((a 5), aI cI 49 M_queue), ((a 6), aI cI 49 M_pane), ((a 8), aI cI 49 M_size)]) (as := [(a 0), (a 1), (a 5), (a 6), (a 8), (a 10), (a 11), (a 16), (a 17), (a 18)]) (ws' := [((a 0), oM a M_edits M_typed M_readRows M_readColumns M_top M_bottom M_left M_right M_panes), ((a 1), aI cI 151 M_now), ((a 5), aI cI 49 M_queue), ((a 6), aI cI 49 M_pane), ((a 8), aI cI 49 M_size), ((a 10), aI cZ 2401 M_near), ((a 11), aI cI 49 M_nearMany), ((a 16), aI cI 49 q_4.2.1), ((a 17), aI cZ 49 q_4.2.2.1), ((a 18), aI cI 49 q_4.2.2.2)]) rfl rfl rfl rfl rfl rfl rfl rfl rfl 0 rfl rfl rfl rfl (Nat.le_of_ble_eq_true rfl) dX8_bestOrder_25 (fun H locs h => ?_)
      refine lv_istore hx hb (pc := 28) (lv' := [(5, iv q_4.1), (0, .ref (a 0)), (2, iv l2), (3, iv l3), (4, iv l4)]) dX8_bestOrder_28 hl (Nat.le_of_ble_eq_true rfl) rfl (fun ls hl => ?_)
      refine lv_iload hx hb (pc := 30) dX8_bestOrder_30 (lv_at hl 0 rfl) ?_
      refine lv_iload_n hx hb (pc := 32) dX8_bestOrder_32 rfl (lv_at hl 3 rfl) ?_
      obtain ⟨g_5, hf⟩ := og_some hf
      obtain ⟨g_6, hf⟩ := og_some hf
      obtain ⟨r_9, hrr_9, hf⟩ := ob_some hf
      have Jr_9 : ∀ (ls : Array Slot) (H : Heap) (locs : List Loc), lv_has ls 6 [(0, .ref (a 0)), (2, iv r_9.1), (3, iv r_9.2.1), (4, iv r_9.2.2)] → XH D A H0 [((a 0), oM a M_edits M_typed M_readRows M_readColumns M_top M_bottom M_left M_right M_panes), ((a 1), aI cI 151 M_now), ((a 5), aI cI 49 M_queue), ((a 6), aI cI 49 M_pane), ((a 8), aI cI 49 M_size), ((a 10), aI cZ 2401 M_near), ((a 11), aI cI 49 M_nearMany), ((a 16), aI cI 49 q_4.2.1), ((a 17), aI cZ 49 q_4.2.2.1), ((a 18), aI cI 49 q_4.2.2.2)] H locs → W p l e rm_mo_bestOrder s m args below meth c H locs 0 0 Q (F0 m 16 ls []) := by
        intro ls H locs hl h
        exact ih r_9.1 r_9.2.1 r_9.2.2 q_4.2.1 q_4.2.2.1 q_4.2.2.2 _ _ _ (lv_sub hl [0, 1, 2, 3] rfl) h hf
      clear hf
      have hf := hrr_9
      refine x_icmpge C (pc := 33) (tgt := 42) g_5 g_6 dX8_bestOrder_33 rfl (fun hc => ?_) (fun hc => ?_)
      · have hf := oi_t hf hc
        obtain ⟨l4_7, el4_7, hf⟩ := ol_some hf
        refine x_iinc C (pc := 42) (k := 4) (lw' := [(4, iv l4_7), (5, iv q_4.1), (0, .ref (a 0)), (2, iv l2), (3, iv l3)]) dX8_bestOrder_42 hl rfl el4_7 (Nat.le_of_ble_eq_true rfl) rfl (fun ls hl => ?_)
        refine lv_goto hx hb (pc := 45) (tgt := 16) dX8_bestOrder_45 rfl ?_
        have e9 := Option.some.inj hf
        subst e9
        exact Jr_9 _ _ _ (lv_sub hl [2, 3, 4, 0] rfl) h
      · have hf := oi_f hf hc
        refine lv_iload hx hb (pc := 36) dX8_bestOrder_36 (lv_at hl 4 rfl) ?_
        refine lv_istore_n hx hb (pc := 38) (lv' := [(2, iv l4), (5, iv q_4.1), (0, .ref (a 0)), (3, iv l3), (4, iv l4)]) dX8_bestOrder_38 rfl hl (Nat.le_of_ble_eq_true rfl) rfl (fun ls hl => ?_)
        refine lv_iload hx hb (pc := 39) dX8_bestOrder_39 (lv_at hl 1 rfl) ?_
        refine lv_istore_n hx hb (pc := 41) (lv' := [(3, iv q_4.1), (2, iv l4), (5, iv q_4.1), (0, .ref (a 0)), (4, iv l4)]) dX8_bestOrder_41 rfl hl (Nat.le_of_ble_eq_true rfl) rfl (fun ls hl => ?_)
        obtain ⟨l4_8, el4_8, hf⟩ := ol_some hf
        refine x_iinc C (pc := 42) (k := 4) (lw' := [(4, iv l4_8), (3, iv q_4.1), (2, iv l4), (5, iv q_4.1), (0, .ref (a 0))]) dX8_bestOrder_42 hl rfl el4_8 (Nat.le_of_ble_eq_true rfl) rfl (fun ls hl => ?_)
        refine lv_goto hx hb (pc := 45) (tgt := 16) dX8_bestOrder_45 rfl ?_
        have e9 := Option.some.inj hf
        subst e9
        exact Jr_9 _ _ _ (lv_sub hl [4, 2, 1, 0] rfl) h
set_option maxHeartbeats 4000000 in
set_option maxRecDepth 100000 in
theorem c_mo_bestOrder (l : Launch) (D : va_G) (cI cJ cZ cO : ClassId) (a : Nat → Nat) (M_edits : Int) (M_typed : Int) (M_readRows : Int) (M_readColumns : Int) (M_top : Int) (M_bottom : Int) (M_left : Int) (M_right : Int) (M_panes : Int) (M_now : Int → Int) (M_queue : Int → Int) (M_pane : Int → Int) (M_size : Int → Int) (M_near : Int → Int) (M_nearMany : Int → Int) (M_sequence : Int → Int) (M_isGone : Int → Int) (M_number : Int → Int) (N : Nat) (Res : Int × Int × Int × Int × Int × Int × (Int → Int) × (Int → Int) × (Int → Int) × (Int → Int) × (Int → Int) × (Int → Int) × (Int → Int) × (Int → Int)) (hf : f_mo_bestOrder N M_top M_bottom M_left M_right M_panes M_now M_queue M_pane M_size M_near M_nearMany M_sequence M_isGone M_number = some Res) : CoI l D (xT cI cJ cZ cO) yX8_bestOrder cX8_bestOrder 6 (some .int) rm_mo_bestOrder [.ref (a 0)] [((a 0), oM a M_edits M_typed M_readRows M_readColumns M_top M_bottom M_left M_right M_panes), ((a 1), aI cI 151 M_now), ((a 5), aI cI 49 M_queue), ((a 6), aI cI 49 M_pane), ((a 8), aI cI 49 M_size), ((a 10), aI cZ 2401 M_near), ((a 11), aI cI 49 M_nearMany), ((a 16), aI cI 49 M_sequence), ((a 17), aI cZ 49 M_isGone), ((a 18), aI cI 49 M_number)] Res.1 [((a 0), oM a M_edits M_typed M_readRows M_readColumns Res.2.1 Res.2.2.1 Res.2.2.2.1 Res.2.2.2.2.1 Res.2.2.2.2.2.1), ((a 1), aI cI 151 M_now), ((a 5), aI cI 49 Res.2.2.2.2.2.2.1), ((a 6), aI cI 49 Res.2.2.2.2.2.2.2.1), ((a 8), aI cI 49 Res.2.2.2.2.2.2.2.2.1), ((a 10), aI cZ 2401 Res.2.2.2.2.2.2.2.2.2.1), ((a 11), aI cI 49 Res.2.2.2.2.2.2.2.2.2.2.1), ((a 16), aI cI 49 Res.2.2.2.2.2.2.2.2.2.2.2.1), ((a 17), aI cZ 49 Res.2.2.2.2.2.2.2.2.2.2.2.2.1), ((a 18), aI cI 49 Res.2.2.2.2.2.2.2.2.2.2.2.2.2)] := by
  refine co_i (by decide) ⟨rfl, rfl⟩ (Nat.le_of_ble_eq_true rfl) ?_
  intro p e s m args below meth c A Q ls C hret hl h
  have hx := C.1.1
  have hb := C.1.2.1
  have hl : lv_has ls 6 [(0, .ref (a 0))] := hl
  unfold f_mo_bestOrder at hf
  refine lv_aload_n hx hb (pc := 0) dX8_bestOrder_0 rfl (lv_at hl 0 rfl) ?_
  obtain ⟨q_1, hq_1, hf⟩ := ob_some hf
  refine x_callVi C h (pc := 1) hl (c_mo_findNear l D cI cJ cZ cO a M_edits M_typed M_readRows M_readColumns M_top M_bottom M_left M_right M_panes M_now M_queue M_pane M_size M_near M_nearMany N q_1 hq_1) xv_X8_findNear lk_X8_168 ⟨(Nat.le_of_ble_eq_true rfl), (Nat.le_of_ble_eq_true rfl)⟩ rfl [0, 1, 2, 3, 4, 5, 6] [7, 8, 9] (nw := 10) (wr := [((a 16), aI cI 49 M_sequence), ((a 17), aI cZ 49 M_isGone), ((a 18), aI cI 49 M_number)]) (as := [(a 0), (a 1), (a 5), (a 6), (a 8), (a 10), (a 11), (a 16), (a 17), (a 18)]) (ws' := [((a 0), oM a M_edits M_typed M_readRows M_readColumns q_1.2.1 q_1.2.2.1 q_1.2.2.2.1 q_1.2.2.2.2.1 q_1.2.2.2.2.2.1), ((a 1), aI cI 151 M_now), ((a 5), aI cI 49 q_1.2.2.2.2.2.2.1), ((a 6), aI cI 49 q_1.2.2.2.2.2.2.2.1), ((a 8), aI cI 49 q_1.2.2.2.2.2.2.2.2.1), ((a 10), aI cZ 2401 q_1.2.2.2.2.2.2.2.2.2.1), ((a 11), aI cI 49 q_1.2.2.2.2.2.2.2.2.2.2), ((a 16), aI cI 49 M_sequence), ((a 17), aI cZ 49 M_isGone), ((a 18), aI cI 49 M_number)]) rfl rfl rfl rfl rfl rfl rfl rfl rfl 0 rfl rfl rfl rfl (Nat.le_of_ble_eq_true rfl) dX8_bestOrder_1 (fun H locs h => ?_)
  refine lv_istore_n hx hb (pc := 4) (lv' := [(1, iv q_1.1), (0, .ref (a 0))]) dX8_bestOrder_4 rfl hl (Nat.le_of_ble_eq_true rfl) rfl (fun ls hl => ?_)
  refine x_iconst C (pc := 5) dX8_bestOrder_5 ?_
  refine lv_istore_n hx hb (pc := 6) (lv' := [(2, iv 0), (1, iv q_1.1), (0, .ref (a 0))]) dX8_bestOrder_6 rfl hl (Nat.le_of_ble_eq_true rfl) rfl (fun ls hl => ?_)
  refine lv_aload_n hx hb (pc := 7) dX8_bestOrder_7 rfl (lv_at hl 2 rfl) ?_
  refine x_iconst C (pc := 8) dX8_bestOrder_8 ?_
  obtain ⟨q_2, hq_2, hf⟩ := ob_some hf
  refine x_callVi C h (pc := 9) hl (c_mo_colourAll l D cI cJ cZ cO a M_edits M_typed M_readRows M_readColumns q_1.2.1 q_1.2.2.1 q_1.2.2.2.1 q_1.2.2.2.2.1 q_1.2.2.2.2.2.1 q_1.2.2.2.2.2.2.2.2.2.1 q_1.2.2.2.2.2.2.2.2.2.2 M_sequence M_isGone M_number 0 N q_2 hq_2) xv_X8_colourAll lk_X8_211 ⟨(Nat.le_of_ble_eq_true rfl), (Nat.le_of_ble_eq_true rfl)⟩ rfl [0, 5, 6, 7, 8, 9] [1, 2, 3, 4] (nw := 10) (wr := [((a 1), aI cI 151 M_now), ((a 5), aI cI 49 q_1.2.2.2.2.2.2.1), ((a 6), aI cI 49 q_1.2.2.2.2.2.2.2.1), ((a 8), aI cI 49 q_1.2.2.2.2.2.2.2.2.1)]) (as := [(a 0), (a 1), (a 5), (a 6), (a 8), (a 10), (a 11), (a 16), (a 17), (a 18)]) (ws' := [((a 0), oM a M_edits M_typed M_readRows M_readColumns q_1.2.1 q_1.2.2.1 q_1.2.2.2.1 q_1.2.2.2.2.1 q_1.2.2.2.2.2.1), ((a 1), aI cI 151 M_now), ((a 5), aI cI 49 q_1.2.2.2.2.2.2.1), ((a 6), aI cI 49 q_1.2.2.2.2.2.2.2.1), ((a 8), aI cI 49 q_1.2.2.2.2.2.2.2.2.1), ((a 10), aI cZ 2401 q_1.2.2.2.2.2.2.2.2.2.1), ((a 11), aI cI 49 q_1.2.2.2.2.2.2.2.2.2.2), ((a 16), aI cI 49 q_2.2.1), ((a 17), aI cZ 49 q_2.2.2.1), ((a 18), aI cI 49 q_2.2.2.2)]) rfl rfl rfl rfl rfl rfl rfl rfl rfl 0 rfl rfl rfl rfl (Nat.le_of_ble_eq_true rfl) dX8_bestOrder_9 (fun H locs h => ?_)
  refine lv_istore_n hx hb (pc := 12) (lv' := [(3, iv q_2.1), (2, iv 0), (1, iv q_1.1), (0, .ref (a 0))]) dX8_bestOrder_12 rfl hl (Nat.le_of_ble_eq_true rfl) rfl (fun ls hl => ?_)
  refine x_iconst C (pc := 13) dX8_bestOrder_13 ?_
  refine lv_istore hx hb (pc := 14) (lv' := [(4, iv 1), (3, iv q_2.1), (2, iv 0), (1, iv q_1.1), (0, .ref (a 0))]) dX8_bestOrder_14 hl (Nat.le_of_ble_eq_true rfl) rfl (fun ls hl => ?_)
  exact w_mo_bestOrder_16 C a M_edits M_typed M_readRows M_readColumns M_now Res hret N q_1.2.1 q_1.2.2.1 q_1.2.2.2.1 q_1.2.2.2.2.1 q_1.2.2.2.2.2.1 q_1.2.2.2.2.2.2.1 q_1.2.2.2.2.2.2.2.1 q_1.2.2.2.2.2.2.2.2.1 q_1.2.2.2.2.2.2.2.2.2.1 q_1.2.2.2.2.2.2.2.2.2.2 N 0 q_2.1 1 q_2.2.1 q_2.2.2.1 q_2.2.2.2 _ _ _ (lv_sub hl [4, 2, 1, 0] rfl) h hf
abbrev rm_mo_areNear : Room := { frames := 0, cells := 0, slots := 0, locals := 0 }
set_option maxHeartbeats 4000000 in
set_option maxRecDepth 100000 in
theorem c_mo_areNear (l : Launch) (D : va_G) (cI cJ cZ cO : ClassId) (a : Nat → Nat) (M_edits : Int) (M_typed : Int) (M_readRows : Int) (M_readColumns : Int) (M_top : Int) (M_bottom : Int) (M_left : Int) (M_right : Int) (M_panes : Int) (M_near : Int → Int) (l1 : Int) (l2 : Int) (N : Nat) (Res : Int) (hf : f_mo_areNear N l1 l2 M_near = some Res) : CoI l D (xT cI cJ cZ cO) yX8_areNear cX8_areNear 3 (some .boolean) rm_mo_areNear [.ref (a 0), iv l1, iv l2] [((a 0), oM a M_edits M_typed M_readRows M_readColumns M_top M_bottom M_left M_right M_panes), ((a 10), aI cZ 2401 M_near)] Res [((a 0), oM a M_edits M_typed M_readRows M_readColumns M_top M_bottom M_left M_right M_panes), ((a 10), aI cZ 2401 M_near)] := by
  refine co_z (by decide) ⟨rfl, rfl⟩ (Nat.le_of_ble_eq_true rfl) ?_
  intro p e s m args below meth c A Q ls C hret hl h
  have hx := C.1.1
  have hb := C.1.2.1
  have hl : lv_has ls 3 [(0, .ref (a 0)), (1, iv l1), (2, iv l2)] := hl
  unfold f_mo_areNear at hf
  refine lv_aload_n hx hb (pc := 0) dX8_areNear_0 rfl (lv_at hl 0 rfl) ?_
  refine x_get C h (pc := 1) xf_X8_38 0 rfl (v := .ref (a 10)) rfl dX8_areNear_1 ?_
  refine x_bipush C (pc := 4) dX8_areNear_4 (by decide) ?_
  refine lv_iload_n hx hb (pc := 6) dX8_areNear_6 rfl (lv_at hl 1 rfl) ?_
  refine x_imul C (pc := 7) dX8_areNear_7 ?_
  refine lv_iload_n hx hb (pc := 8) dX8_areNear_8 rfl (lv_at hl 2 rfl) ?_
  refine x_iadd C (pc := 9) dX8_areNear_9 ?_
  obtain ⟨g_1, hf⟩ := og_some hf
  refine x_zald C h (pc := 10) 1 2 rfl rfl (Nat.le_of_ble_eq_true rfl) g_1 dX8_areNear_10 ?_
  obtain ⟨g_2, hf⟩ := og_some hf
  have e9 := Option.some.inj hf
  subst e9
  exact hret _ _ _ _ g_2 dX8_areNear_11 h
abbrev rm_mo_largestClique : Room := { frames := 5, cells := 0, slots := 0, locals := 120 }
set_option maxHeartbeats 4000000 in
set_option maxRecDepth 100000 in
theorem w_mo_largestClique_111 {p : Program} {l : Launch} {e : Env} {s : State} {m : MethodId} {args : Array Value} {below : List Frame} {meth : Method} {c : Code} {Q : State → Prop} {D : va_G} {cI cJ cZ cO : ClassId} {A : Nat → Prop} {H0 : Heap} {w0 : Cond} (C : XC p s m args c cX8_largestClique 7 RX8 w0 D (xT cI cJ cZ cO)) (a : Nat → Nat) (M_edits : Int) (M_typed : Int) (M_readRows : Int) (M_readColumns : Int) (M_now : Int → Int) (Res : Int × Int × Int × Int × Int × Int × (Int → Int) × (Int → Int) × (Int → Int) × (Int → Int) × (Int → Int)) (hret : XRI p l e rm_mo_largestClique s m args below meth c cX8_largestClique D A H0 Q Res.1 [((a 0), oM a M_edits M_typed M_readRows M_readColumns Res.2.1 Res.2.2.1 Res.2.2.2.1 Res.2.2.2.2.1 Res.2.2.2.2.2.1), ((a 1), aI cI 151 M_now), ((a 5), aI cI 49 Res.2.2.2.2.2.2.1), ((a 6), aI cI 49 Res.2.2.2.2.2.2.2.1), ((a 8), aI cI 49 Res.2.2.2.2.2.2.2.2.1), ((a 10), aI cZ 2401 Res.2.2.2.2.2.2.2.2.2.1), ((a 11), aI cI 49 Res.2.2.2.2.2.2.2.2.2.2)]) (N : Nat) (l3 : Int) (l4 : Int) (l5 : Int) (M_top : Int) (M_bottom : Int) (M_left : Int) (M_right : Int) (M_panes : Int) (M_queue : Int → Int) (M_pane : Int → Int) (M_size : Int → Int) (M_near : Int → Int) (M_nearMany : Int → Int) (k9 : Int → Int → Option (Int × Int × Int × Int × Int × Int × (Int → Int) × (Int → Int) × (Int → Int) × (Int → Int) × (Int → Int))) (hk9 : ∀ (l2' : Int) (l3' : Int) (ls : Array Slot) (H : Heap) (locs : List Loc), lv_has ls 7 [(0, .ref (a 0)), (2, iv l2'), (3, iv l3')] → XH D A H0 [((a 0), oM a M_edits M_typed M_readRows M_readColumns M_top M_bottom M_left M_right M_panes), ((a 1), aI cI 151 M_now), ((a 5), aI cI 49 M_queue), ((a 6), aI cI 49 M_pane), ((a 8), aI cI 49 M_size), ((a 10), aI cZ 2401 M_near), ((a 11), aI cI 49 M_nearMany)] H locs → k9 l2' l3' = some Res → W p l e rm_mo_largestClique s m args below meth c H locs 0 0 Q (F0 m 9 ls [])) (k22 : Int → Int → Option (Int × Int × Int × Int × Int × Int × (Int → Int) × (Int → Int) × (Int → Int) × (Int → Int) × (Int → Int))) (hk22 : ∀ (l2' : Int) (l4' : Int) (ls : Array Slot) (H : Heap) (locs : List Loc), lv_has ls 7 [(0, .ref (a 0)), (2, iv l2'), (3, iv l3), (4, iv l4')] → XH D A H0 [((a 0), oM a M_edits M_typed M_readRows M_readColumns M_top M_bottom M_left M_right M_panes), ((a 1), aI cI 151 M_now), ((a 5), aI cI 49 M_queue), ((a 6), aI cI 49 M_pane), ((a 8), aI cI 49 M_size), ((a 10), aI cZ 2401 M_near), ((a 11), aI cI 49 M_nearMany)] H locs → k22 l2' l4' = some Res → W p l e rm_mo_largestClique s m args below meth c H locs 0 0 Q (F0 m 22 ls [])) (k61 : Int → Int → Option (Int × Int × Int × Int × Int × Int × (Int → Int) × (Int → Int) × (Int → Int) × (Int → Int) × (Int → Int))) (hk61 : ∀ (l2' : Int) (l5' : Int) (ls : Array Slot) (H : Heap) (locs : List Loc), lv_has ls 7 [(0, .ref (a 0)), (2, iv l2'), (3, iv l3), (4, iv l4), (5, iv l5')] → XH D A H0 [((a 0), oM a M_edits M_typed M_readRows M_readColumns M_top M_bottom M_left M_right M_panes), ((a 1), aI cI 151 M_now), ((a 5), aI cI 49 M_queue), ((a 6), aI cI 49 M_pane), ((a 8), aI cI 49 M_size), ((a 10), aI cZ 2401 M_near), ((a 11), aI cI 49 M_nearMany)] H locs → k61 l2' l5' = some Res → W p l e rm_mo_largestClique s m args below meth c H locs 0 0 Q (F0 m 61 ls [])) : ∀ (n : Nat) (l2 : Int) (l6 : Int) (ls : Array Slot) (H : Heap) (locs : List Loc), lv_has ls 7 [(0, .ref (a 0)), (2, iv l2), (3, iv l3), (4, iv l4), (5, iv l5), (6, iv l6)] → XH D A H0 [((a 0), oM a M_edits M_typed M_readRows M_readColumns M_top M_bottom M_left M_right M_panes), ((a 1), aI cI 151 M_now), ((a 5), aI cI 49 M_queue), ((a 6), aI cI 49 M_pane), ((a 8), aI cI 49 M_size), ((a 10), aI cZ 2401 M_near), ((a 11), aI cI 49 M_nearMany)] H locs → f_mo_largestClique_111 N l3 l4 l5 M_top M_bottom M_left M_right M_panes M_queue M_pane M_size M_near M_nearMany k9 k22 k61 n l2 l6 = some Res → W p l e rm_mo_largestClique s m args below meth c H locs 0 0 Q (F0 m 111 ls []) := by
  have hx := C.1.1
  have hb := C.1.2.1
  intro n
  induction n with
  | zero => intro l2 l6 ls H locs hl h hf; cases hf
  | succ n ih =>
    intro l2 l6 ls H locs hl h hf
    rw [f_mo_largestClique_111.eq_2] at hf
    refine lv_iload hx hb (pc := 111) dX8_largestClique_111 (lv_at hl 5 rfl) ?_
    refine lv_aload_n hx hb (pc := 113) dX8_largestClique_113 rfl (lv_at hl 0 rfl) ?_
    refine x_get C h (pc := 114) xf_X8_92 0 rfl (v := iv M_panes) rfl dX8_largestClique_114 ?_
    obtain ⟨g_65, hf⟩ := og_some hf
    obtain ⟨g_66, hf⟩ := og_some hf
    refine x_icmpge C (pc := 117) (tgt := 164) g_65 g_66 dX8_largestClique_117 rfl (fun hc => ?_) (fun hc => ?_)
    · have hf := oi_t hf hc
      obtain ⟨l5_67, el5_67, hf⟩ := ol_some hf
      refine x_iinc C (pc := 164) (k := 4) (lw' := [(5, iv l5_67), (0, .ref (a 0)), (2, iv l2), (3, iv l3), (4, iv l4), (6, iv l6)]) dX8_largestClique_164 hl rfl el5_67 (Nat.le_of_ble_eq_true rfl) rfl (fun ls hl => ?_)
      refine lv_goto hx hb (pc := 167) (tgt := 61) dX8_largestClique_167 rfl ?_
      exact hk61 l2 l5_67 _ _ _ (lv_sub hl [1, 2, 3, 4, 0] rfl) h hf
    · have hf := oi_f hf hc
      refine lv_aload_n hx hb (pc := 120) dX8_largestClique_120 rfl (lv_at hl 0 rfl) ?_
      refine lv_iload_n hx hb (pc := 121) dX8_largestClique_121 rfl (lv_at hl 2 rfl) ?_
      refine lv_iload hx hb (pc := 122) dX8_largestClique_122 (lv_at hl 5 rfl) ?_
      obtain ⟨q_68, hq_68, hf⟩ := ob_some hf
      refine x_callVi C h (pc := 124) hl (c_mo_areNear l D cI cJ cZ cO a M_edits M_typed M_readRows M_readColumns M_top M_bottom M_left M_right M_panes M_near l3 l6 N q_68 hq_68) xv_X8_areNear lk_X8_214 ⟨(Nat.le_of_ble_eq_true rfl), (Nat.le_of_ble_eq_true rfl)⟩ rfl [0, 5] [1, 2, 3, 4, 6] (nw := 7) (wr := [((a 1), aI cI 151 M_now), ((a 5), aI cI 49 M_queue), ((a 6), aI cI 49 M_pane), ((a 8), aI cI 49 M_size), ((a 11), aI cI 49 M_nearMany)]) (as := [(a 0), (a 1), (a 5), (a 6), (a 8), (a 10), (a 11)]) (ws' := [((a 0), oM a M_edits M_typed M_readRows M_readColumns M_top M_bottom M_left M_right M_panes), ((a 1), aI cI 151 M_now), ((a 5), aI cI 49 M_queue), ((a 6), aI cI 49 M_pane), ((a 8), aI cI 49 M_size), ((a 10), aI cZ 2401 M_near), ((a 11), aI cI 49 M_nearMany)]) rfl rfl rfl rfl rfl rfl rfl rfl rfl 0 rfl rfl rfl rfl (Nat.le_of_ble_eq_true rfl) dX8_largestClique_124 (fun H locs h => ?_)
      obtain ⟨g_69, hf⟩ := og_some hf
      obtain ⟨r_78, hrr_78, hf⟩ := ob_some hf
      have Jr_78 : ∀ (ls : Array Slot) (H : Heap) (locs : List Loc), lv_has ls 7 [(0, .ref (a 0)), (2, iv r_78.1), (3, iv l3), (4, iv l4), (5, iv l5), (6, iv r_78.2)] → XH D A H0 [((a 0), oM a M_edits M_typed M_readRows M_readColumns M_top M_bottom M_left M_right M_panes), ((a 1), aI cI 151 M_now), ((a 5), aI cI 49 M_queue), ((a 6), aI cI 49 M_pane), ((a 8), aI cI 49 M_size), ((a 10), aI cZ 2401 M_near), ((a 11), aI cI 49 M_nearMany)] H locs → W p l e rm_mo_largestClique s m args below meth c H locs 0 0 Q (F0 m 111 ls []) := by
        intro ls H locs hl h
        exact ih r_78.1 r_78.2 _ _ _ (lv_sub hl [0, 1, 2, 3, 4, 5] rfl) h hf
      clear hf
      have hf := hrr_78
      refine x_ifeq C (pc := 127) (tgt := 156) g_69 dX8_largestClique_127 rfl (fun hc => ?_) (fun hc => ?_)
      · have hf := oi_t hf hc
        refine lv_iload_n hx hb (pc := 156) dX8_largestClique_156 rfl (lv_at hl 1 rfl) ?_
        refine lv_istore_n hx hb (pc := 157) (lv' := [(2, iv l2), (0, .ref (a 0)), (3, iv l3), (4, iv l4), (5, iv l5), (6, iv l6)]) dX8_largestClique_157 rfl hl (Nat.le_of_ble_eq_true rfl) rfl (fun ls hl => ?_)
        obtain ⟨l6_70, el6_70, hf⟩ := ol_some hf
        refine x_iinc C (pc := 158) (k := 5) (lw' := [(6, iv l6_70), (2, iv l2), (0, .ref (a 0)), (3, iv l3), (4, iv l4), (5, iv l5)]) dX8_largestClique_158 hl rfl el6_70 (Nat.le_of_ble_eq_true rfl) rfl (fun ls hl => ?_)
        refine lv_goto hx hb (pc := 161) (tgt := 111) dX8_largestClique_161 rfl ?_
        have e9 := Option.some.inj hf
        subst e9
        exact Jr_78 _ _ _ (lv_sub hl [2, 1, 3, 4, 5, 0] rfl) h
      · have hf := oi_f hf hc
        refine lv_aload_n hx hb (pc := 130) dX8_largestClique_130 rfl (lv_at hl 0 rfl) ?_
        refine lv_iload hx hb (pc := 131) dX8_largestClique_131 (lv_at hl 3 rfl) ?_
        refine lv_iload hx hb (pc := 133) dX8_largestClique_133 (lv_at hl 5 rfl) ?_
        obtain ⟨q_71, hq_71, hf⟩ := ob_some hf
        refine x_callVi C h (pc := 135) hl (c_mo_areNear l D cI cJ cZ cO a M_edits M_typed M_readRows M_readColumns M_top M_bottom M_left M_right M_panes M_near l4 l6 N q_71 hq_71) xv_X8_areNear lk_X8_214 ⟨(Nat.le_of_ble_eq_true rfl), (Nat.le_of_ble_eq_true rfl)⟩ rfl [0, 5] [1, 2, 3, 4, 6] (nw := 7) (wr := [((a 1), aI cI 151 M_now), ((a 5), aI cI 49 M_queue), ((a 6), aI cI 49 M_pane), ((a 8), aI cI 49 M_size), ((a 11), aI cI 49 M_nearMany)]) (as := [(a 0), (a 1), (a 5), (a 6), (a 8), (a 10), (a 11)]) (ws' := [((a 0), oM a M_edits M_typed M_readRows M_readColumns M_top M_bottom M_left M_right M_panes), ((a 1), aI cI 151 M_now), ((a 5), aI cI 49 M_queue), ((a 6), aI cI 49 M_pane), ((a 8), aI cI 49 M_size), ((a 10), aI cZ 2401 M_near), ((a 11), aI cI 49 M_nearMany)]) rfl rfl rfl rfl rfl rfl rfl rfl rfl 0 rfl rfl rfl rfl (Nat.le_of_ble_eq_true rfl) dX8_largestClique_135 (fun H locs h => ?_)
        obtain ⟨g_72, hf⟩ := og_some hf
        refine x_ifeq C (pc := 138) (tgt := 156) g_72 dX8_largestClique_138 rfl (fun hc => ?_) (fun hc => ?_)
        · have hf := oi_t hf hc
          refine lv_iload_n hx hb (pc := 156) dX8_largestClique_156 rfl (lv_at hl 1 rfl) ?_
          refine lv_istore_n hx hb (pc := 157) (lv' := [(2, iv l2), (0, .ref (a 0)), (3, iv l3), (4, iv l4), (5, iv l5), (6, iv l6)]) dX8_largestClique_157 rfl hl (Nat.le_of_ble_eq_true rfl) rfl (fun ls hl => ?_)
          obtain ⟨l6_73, el6_73, hf⟩ := ol_some hf
          refine x_iinc C (pc := 158) (k := 5) (lw' := [(6, iv l6_73), (2, iv l2), (0, .ref (a 0)), (3, iv l3), (4, iv l4), (5, iv l5)]) dX8_largestClique_158 hl rfl el6_73 (Nat.le_of_ble_eq_true rfl) rfl (fun ls hl => ?_)
          refine lv_goto hx hb (pc := 161) (tgt := 111) dX8_largestClique_161 rfl ?_
          have e9 := Option.some.inj hf
          subst e9
          exact Jr_78 _ _ _ (lv_sub hl [2, 1, 3, 4, 5, 0] rfl) h
        · have hf := oi_f hf hc
          refine lv_aload_n hx hb (pc := 141) dX8_largestClique_141 rfl (lv_at hl 0 rfl) ?_
          refine lv_iload hx hb (pc := 142) dX8_largestClique_142 (lv_at hl 4 rfl) ?_
          refine lv_iload hx hb (pc := 144) dX8_largestClique_144 (lv_at hl 5 rfl) ?_
          obtain ⟨q_74, hq_74, hf⟩ := ob_some hf
          refine x_callVi C h (pc := 146) hl (c_mo_areNear l D cI cJ cZ cO a M_edits M_typed M_readRows M_readColumns M_top M_bottom M_left M_right M_panes M_near l5 l6 N q_74 hq_74) xv_X8_areNear lk_X8_214 ⟨(Nat.le_of_ble_eq_true rfl), (Nat.le_of_ble_eq_true rfl)⟩ rfl [0, 5] [1, 2, 3, 4, 6] (nw := 7) (wr := [((a 1), aI cI 151 M_now), ((a 5), aI cI 49 M_queue), ((a 6), aI cI 49 M_pane), ((a 8), aI cI 49 M_size), ((a 11), aI cI 49 M_nearMany)]) (as := [(a 0), (a 1), (a 5), (a 6), (a 8), (a 10), (a 11)]) (ws' := [((a 0), oM a M_edits M_typed M_readRows M_readColumns M_top M_bottom M_left M_right M_panes), ((a 1), aI cI 151 M_now), ((a 5), aI cI 49 M_queue), ((a 6), aI cI 49 M_pane), ((a 8), aI cI 49 M_size), ((a 10), aI cZ 2401 M_near), ((a 11), aI cI 49 M_nearMany)]) rfl rfl rfl rfl rfl rfl rfl rfl rfl 0 rfl rfl rfl rfl (Nat.le_of_ble_eq_true rfl) dX8_largestClique_146 (fun H locs h => ?_)
          obtain ⟨g_75, hf⟩ := og_some hf
          refine x_ifeq C (pc := 149) (tgt := 156) g_75 dX8_largestClique_149 rfl (fun hc => ?_) (fun hc => ?_)
          · have hf := oi_t hf hc
            refine lv_iload_n hx hb (pc := 156) dX8_largestClique_156 rfl (lv_at hl 1 rfl) ?_
            refine lv_istore_n hx hb (pc := 157) (lv' := [(2, iv l2), (0, .ref (a 0)), (3, iv l3), (4, iv l4), (5, iv l5), (6, iv l6)]) dX8_largestClique_157 rfl hl (Nat.le_of_ble_eq_true rfl) rfl (fun ls hl => ?_)
            obtain ⟨l6_76, el6_76, hf⟩ := ol_some hf
            refine x_iinc C (pc := 158) (k := 5) (lw' := [(6, iv l6_76), (2, iv l2), (0, .ref (a 0)), (3, iv l3), (4, iv l4), (5, iv l5)]) dX8_largestClique_158 hl rfl el6_76 (Nat.le_of_ble_eq_true rfl) rfl (fun ls hl => ?_)
            refine lv_goto hx hb (pc := 161) (tgt := 111) dX8_largestClique_161 rfl ?_
            have e9 := Option.some.inj hf
            subst e9
            exact Jr_78 _ _ _ (lv_sub hl [2, 1, 3, 4, 5, 0] rfl) h
          · have hf := oi_f hf hc
            refine x_iconst C (pc := 152) dX8_largestClique_152 ?_
            refine lv_goto hx hb (pc := 153) (tgt := 157) dX8_largestClique_153 rfl ?_
            refine lv_istore_n hx hb (pc := 157) (lv' := [(2, iv 4), (0, .ref (a 0)), (3, iv l3), (4, iv l4), (5, iv l5), (6, iv l6)]) dX8_largestClique_157 rfl hl (Nat.le_of_ble_eq_true rfl) rfl (fun ls hl => ?_)
            obtain ⟨l6_77, el6_77, hf⟩ := ol_some hf
            refine x_iinc C (pc := 158) (k := 5) (lw' := [(6, iv l6_77), (2, iv 4), (0, .ref (a 0)), (3, iv l3), (4, iv l4), (5, iv l5)]) dX8_largestClique_158 hl rfl el6_77 (Nat.le_of_ble_eq_true rfl) rfl (fun ls hl => ?_)
            refine lv_goto hx hb (pc := 161) (tgt := 111) dX8_largestClique_161 rfl ?_
            have e9 := Option.some.inj hf
            subst e9
            exact Jr_78 _ _ _ (lv_sub hl [2, 1, 3, 4, 5, 0] rfl) h
set_option maxHeartbeats 4000000 in
set_option maxRecDepth 100000 in
theorem w_mo_largestClique_61 {p : Program} {l : Launch} {e : Env} {s : State} {m : MethodId} {args : Array Value} {below : List Frame} {meth : Method} {c : Code} {Q : State → Prop} {D : va_G} {cI cJ cZ cO : ClassId} {A : Nat → Prop} {H0 : Heap} {w0 : Cond} (C : XC p s m args c cX8_largestClique 7 RX8 w0 D (xT cI cJ cZ cO)) (a : Nat → Nat) (M_edits : Int) (M_typed : Int) (M_readRows : Int) (M_readColumns : Int) (M_now : Int → Int) (Res : Int × Int × Int × Int × Int × Int × (Int → Int) × (Int → Int) × (Int → Int) × (Int → Int) × (Int → Int)) (hret : XRI p l e rm_mo_largestClique s m args below meth c cX8_largestClique D A H0 Q Res.1 [((a 0), oM a M_edits M_typed M_readRows M_readColumns Res.2.1 Res.2.2.1 Res.2.2.2.1 Res.2.2.2.2.1 Res.2.2.2.2.2.1), ((a 1), aI cI 151 M_now), ((a 5), aI cI 49 Res.2.2.2.2.2.2.1), ((a 6), aI cI 49 Res.2.2.2.2.2.2.2.1), ((a 8), aI cI 49 Res.2.2.2.2.2.2.2.2.1), ((a 10), aI cZ 2401 Res.2.2.2.2.2.2.2.2.2.1), ((a 11), aI cI 49 Res.2.2.2.2.2.2.2.2.2.2)]) (N : Nat) (l3 : Int) (l4 : Int) (M_top : Int) (M_bottom : Int) (M_left : Int) (M_right : Int) (M_panes : Int) (M_queue : Int → Int) (M_pane : Int → Int) (M_size : Int → Int) (M_near : Int → Int) (M_nearMany : Int → Int) (k9 : Int → Int → Option (Int × Int × Int × Int × Int × Int × (Int → Int) × (Int → Int) × (Int → Int) × (Int → Int) × (Int → Int))) (hk9 : ∀ (l2' : Int) (l3' : Int) (ls : Array Slot) (H : Heap) (locs : List Loc), lv_has ls 7 [(0, .ref (a 0)), (2, iv l2'), (3, iv l3')] → XH D A H0 [((a 0), oM a M_edits M_typed M_readRows M_readColumns M_top M_bottom M_left M_right M_panes), ((a 1), aI cI 151 M_now), ((a 5), aI cI 49 M_queue), ((a 6), aI cI 49 M_pane), ((a 8), aI cI 49 M_size), ((a 10), aI cZ 2401 M_near), ((a 11), aI cI 49 M_nearMany)] H locs → k9 l2' l3' = some Res → W p l e rm_mo_largestClique s m args below meth c H locs 0 0 Q (F0 m 9 ls [])) (k22 : Int → Int → Option (Int × Int × Int × Int × Int × Int × (Int → Int) × (Int → Int) × (Int → Int) × (Int → Int) × (Int → Int))) (hk22 : ∀ (l2' : Int) (l4' : Int) (ls : Array Slot) (H : Heap) (locs : List Loc), lv_has ls 7 [(0, .ref (a 0)), (2, iv l2'), (3, iv l3), (4, iv l4')] → XH D A H0 [((a 0), oM a M_edits M_typed M_readRows M_readColumns M_top M_bottom M_left M_right M_panes), ((a 1), aI cI 151 M_now), ((a 5), aI cI 49 M_queue), ((a 6), aI cI 49 M_pane), ((a 8), aI cI 49 M_size), ((a 10), aI cZ 2401 M_near), ((a 11), aI cI 49 M_nearMany)] H locs → k22 l2' l4' = some Res → W p l e rm_mo_largestClique s m args below meth c H locs 0 0 Q (F0 m 22 ls [])) : ∀ (n : Nat) (l2 : Int) (l5 : Int) (ls : Array Slot) (H : Heap) (locs : List Loc), lv_has ls 7 [(0, .ref (a 0)), (2, iv l2), (3, iv l3), (4, iv l4), (5, iv l5)] → XH D A H0 [((a 0), oM a M_edits M_typed M_readRows M_readColumns M_top M_bottom M_left M_right M_panes), ((a 1), aI cI 151 M_now), ((a 5), aI cI 49 M_queue), ((a 6), aI cI 49 M_pane), ((a 8), aI cI 49 M_size), ((a 10), aI cZ 2401 M_near), ((a 11), aI cI 49 M_nearMany)] H locs → f_mo_largestClique_61 N l3 l4 M_top M_bottom M_left M_right M_panes M_queue M_pane M_size M_near M_nearMany k9 k22 n l2 l5 = some Res → W p l e rm_mo_largestClique s m args below meth c H locs 0 0 Q (F0 m 61 ls []) := by
  have hx := C.1.1
  have hb := C.1.2.1
  intro n
  induction n with
  | zero => intro l2 l5 ls H locs hl h hf; cases hf
  | succ n ih =>
    intro l2 l5 ls H locs hl h hf
    rw [f_mo_largestClique_61.eq_2] at hf
    refine lv_iload hx hb (pc := 61) dX8_largestClique_61 (lv_at hl 4 rfl) ?_
    refine lv_aload_n hx hb (pc := 63) dX8_largestClique_63 rfl (lv_at hl 0 rfl) ?_
    refine x_get C h (pc := 64) xf_X8_92 0 rfl (v := iv M_panes) rfl dX8_largestClique_64 ?_
    obtain ⟨g_53, hf⟩ := og_some hf
    obtain ⟨g_54, hf⟩ := og_some hf
    refine x_icmpge C (pc := 67) (tgt := 170) g_53 g_54 dX8_largestClique_67 rfl (fun hc => ?_) (fun hc => ?_)
    · have hf := oi_t hf hc
      obtain ⟨l4_55, el4_55, hf⟩ := ol_some hf
      refine x_iinc C (pc := 170) (k := 3) (lw' := [(4, iv l4_55), (0, .ref (a 0)), (2, iv l2), (3, iv l3), (5, iv l5)]) dX8_largestClique_170 hl rfl el4_55 (Nat.le_of_ble_eq_true rfl) rfl (fun ls hl => ?_)
      refine lv_goto hx hb (pc := 173) (tgt := 22) dX8_largestClique_173 rfl ?_
      exact hk22 l2 l4_55 _ _ _ (lv_sub hl [1, 2, 3, 0] rfl) h hf
    · have hf := oi_f hf hc
      refine lv_aload_n hx hb (pc := 70) dX8_largestClique_70 rfl (lv_at hl 0 rfl) ?_
      refine lv_iload_n hx hb (pc := 71) dX8_largestClique_71 rfl (lv_at hl 2 rfl) ?_
      refine lv_iload hx hb (pc := 72) dX8_largestClique_72 (lv_at hl 4 rfl) ?_
      obtain ⟨q_56, hq_56, hf⟩ := ob_some hf
      refine x_callVi C h (pc := 74) hl (c_mo_areNear l D cI cJ cZ cO a M_edits M_typed M_readRows M_readColumns M_top M_bottom M_left M_right M_panes M_near l3 l5 N q_56 hq_56) xv_X8_areNear lk_X8_214 ⟨(Nat.le_of_ble_eq_true rfl), (Nat.le_of_ble_eq_true rfl)⟩ rfl [0, 5] [1, 2, 3, 4, 6] (nw := 7) (wr := [((a 1), aI cI 151 M_now), ((a 5), aI cI 49 M_queue), ((a 6), aI cI 49 M_pane), ((a 8), aI cI 49 M_size), ((a 11), aI cI 49 M_nearMany)]) (as := [(a 0), (a 1), (a 5), (a 6), (a 8), (a 10), (a 11)]) (ws' := [((a 0), oM a M_edits M_typed M_readRows M_readColumns M_top M_bottom M_left M_right M_panes), ((a 1), aI cI 151 M_now), ((a 5), aI cI 49 M_queue), ((a 6), aI cI 49 M_pane), ((a 8), aI cI 49 M_size), ((a 10), aI cZ 2401 M_near), ((a 11), aI cI 49 M_nearMany)]) rfl rfl rfl rfl rfl rfl rfl rfl rfl 0 rfl rfl rfl rfl (Nat.le_of_ble_eq_true rfl) dX8_largestClique_74 (fun H locs h => ?_)
      obtain ⟨g_57, hf⟩ := og_some hf
      refine x_ifeq C (pc := 77) (tgt := 164) g_57 dX8_largestClique_77 rfl (fun hc => ?_) (fun hc => ?_)
      · have hf := oi_t hf hc
        obtain ⟨l5_58, el5_58, hf⟩ := ol_some hf
        refine x_iinc C (pc := 164) (k := 4) (lw' := [(5, iv l5_58), (0, .ref (a 0)), (2, iv l2), (3, iv l3), (4, iv l4)]) dX8_largestClique_164 hl rfl el5_58 (Nat.le_of_ble_eq_true rfl) rfl (fun ls hl => ?_)
        refine lv_goto hx hb (pc := 167) (tgt := 61) dX8_largestClique_167 rfl ?_
        exact ih l2 l5_58 _ _ _ (lv_sub hl [1, 2, 3, 4, 0] rfl) h hf
      · have hf := oi_f hf hc
        refine lv_aload_n hx hb (pc := 80) dX8_largestClique_80 rfl (lv_at hl 0 rfl) ?_
        refine lv_iload hx hb (pc := 81) dX8_largestClique_81 (lv_at hl 3 rfl) ?_
        refine lv_iload hx hb (pc := 83) dX8_largestClique_83 (lv_at hl 4 rfl) ?_
        obtain ⟨q_59, hq_59, hf⟩ := ob_some hf
        refine x_callVi C h (pc := 85) hl (c_mo_areNear l D cI cJ cZ cO a M_edits M_typed M_readRows M_readColumns M_top M_bottom M_left M_right M_panes M_near l4 l5 N q_59 hq_59) xv_X8_areNear lk_X8_214 ⟨(Nat.le_of_ble_eq_true rfl), (Nat.le_of_ble_eq_true rfl)⟩ rfl [0, 5] [1, 2, 3, 4, 6] (nw := 7) (wr := [((a 1), aI cI 151 M_now), ((a 5), aI cI 49 M_queue), ((a 6), aI cI 49 M_pane), ((a 8), aI cI 49 M_size), ((a 11), aI cI 49 M_nearMany)]) (as := [(a 0), (a 1), (a 5), (a 6), (a 8), (a 10), (a 11)]) (ws' := [((a 0), oM a M_edits M_typed M_readRows M_readColumns M_top M_bottom M_left M_right M_panes), ((a 1), aI cI 151 M_now), ((a 5), aI cI 49 M_queue), ((a 6), aI cI 49 M_pane), ((a 8), aI cI 49 M_size), ((a 10), aI cZ 2401 M_near), ((a 11), aI cI 49 M_nearMany)]) rfl rfl rfl rfl rfl rfl rfl rfl rfl 0 rfl rfl rfl rfl (Nat.le_of_ble_eq_true rfl) dX8_largestClique_85 (fun H locs h => ?_)
        obtain ⟨g_60, hf⟩ := og_some hf
        refine x_ifne C (pc := 88) (tgt := 94) g_60 dX8_largestClique_88 rfl (fun hc => ?_) (fun hc => ?_)
        · have hf := oi_f hf hc
          refine lv_iload_n hx hb (pc := 94) dX8_largestClique_94 rfl (lv_at hl 1 rfl) ?_
          refine x_iconst C (pc := 95) dX8_largestClique_95 ?_
          obtain ⟨g_61, hf⟩ := og_some hf
          obtain ⟨r_63, hrr_63, hf⟩ := ob_some hf
          have Jr_63 : ∀ (ls : Array Slot) (H : Heap) (locs : List Loc), lv_has ls 7 [(0, .ref (a 0)), (3, iv l3), (4, iv l4), (5, iv l5)] → XH D A H0 [((a 0), oM a M_edits M_typed M_readRows M_readColumns M_top M_bottom M_left M_right M_panes), ((a 1), aI cI 151 M_now), ((a 5), aI cI 49 M_queue), ((a 6), aI cI 49 M_pane), ((a 8), aI cI 49 M_size), ((a 10), aI cZ 2401 M_near), ((a 11), aI cI 49 M_nearMany)] H locs → W p l e rm_mo_largestClique s m args below meth c H locs 0 0 Q (F0 m 104 ls [iv r_63]) := by
            intro ls H locs hl h
            refine lv_istore_n hx hb (pc := 104) (lv' := [(2, iv r_63), (0, .ref (a 0)), (3, iv l3), (4, iv l4), (5, iv l5)]) dX8_largestClique_104 rfl hl (Nat.le_of_ble_eq_true rfl) rfl (fun ls hl => ?_)
            refine lv_iload hx hb (pc := 105) dX8_largestClique_105 (lv_at hl 4 rfl) ?_
            refine x_iconst C (pc := 107) dX8_largestClique_107 ?_
            refine x_iadd C (pc := 108) dX8_largestClique_108 ?_
            obtain ⟨l6_64, el6_64, hf⟩ := ol_some hf
            refine x_topi el6_64 ?_
            refine lv_istore hx hb (pc := 109) (lv' := [(6, iv l6_64), (2, iv r_63), (0, .ref (a 0)), (3, iv l3), (4, iv l4), (5, iv l5)]) dX8_largestClique_109 hl (Nat.le_of_ble_eq_true rfl) rfl (fun ls hl => ?_)
            exact w_mo_largestClique_111 C a M_edits M_typed M_readRows M_readColumns M_now Res hret N l3 l4 l5 M_top M_bottom M_left M_right M_panes M_queue M_pane M_size M_near M_nearMany k9 hk9 k22 hk22 (f_mo_largestClique_61 N l3 l4 M_top M_bottom M_left M_right M_panes M_queue M_pane M_size M_near M_nearMany k9 k22 n) ih N r_63 l6_64 _ _ _ (lv_sub hl [2, 1, 3, 4, 5, 0] rfl) h hf
          clear hf
          have hf := hrr_63
          refine x_icmpge C (pc := 96) (tgt := 103) g_61 ⟨by decide, by decide⟩ dX8_largestClique_96 rfl (fun hc => ?_) (fun hc => ?_)
          · have hf := oi_t hf hc
            refine lv_iload_n hx hb (pc := 103) dX8_largestClique_103 rfl (lv_at hl 1 rfl) ?_
            have e9 := Option.some.inj hf
            subst e9
            exact Jr_63 _ _ _ (lv_sub hl [0, 2, 3, 4] rfl) h
          · have hf := oi_f hf hc
            refine x_iconst C (pc := 99) dX8_largestClique_99 ?_
            refine lv_goto hx hb (pc := 100) (tgt := 104) dX8_largestClique_100 rfl ?_
            have e9 := Option.some.inj hf
            subst e9
            exact Jr_63 _ _ _ (lv_sub hl [0, 2, 3, 4] rfl) h
        · have hf := oi_t hf hc
          refine lv_goto hx hb (pc := 91) (tgt := 164) dX8_largestClique_91 rfl ?_
          obtain ⟨l5_62, el5_62, hf⟩ := ol_some hf
          refine x_iinc C (pc := 164) (k := 4) (lw' := [(5, iv l5_62), (0, .ref (a 0)), (2, iv l2), (3, iv l3), (4, iv l4)]) dX8_largestClique_164 hl rfl el5_62 (Nat.le_of_ble_eq_true rfl) rfl (fun ls hl => ?_)
          refine lv_goto hx hb (pc := 167) (tgt := 61) dX8_largestClique_167 rfl ?_
          exact ih l2 l5_62 _ _ _ (lv_sub hl [1, 2, 3, 4, 0] rfl) h hf
set_option maxHeartbeats 4000000 in
set_option maxRecDepth 100000 in
theorem w_mo_largestClique_22 {p : Program} {l : Launch} {e : Env} {s : State} {m : MethodId} {args : Array Value} {below : List Frame} {meth : Method} {c : Code} {Q : State → Prop} {D : va_G} {cI cJ cZ cO : ClassId} {A : Nat → Prop} {H0 : Heap} {w0 : Cond} (C : XC p s m args c cX8_largestClique 7 RX8 w0 D (xT cI cJ cZ cO)) (a : Nat → Nat) (M_edits : Int) (M_typed : Int) (M_readRows : Int) (M_readColumns : Int) (M_now : Int → Int) (Res : Int × Int × Int × Int × Int × Int × (Int → Int) × (Int → Int) × (Int → Int) × (Int → Int) × (Int → Int)) (hret : XRI p l e rm_mo_largestClique s m args below meth c cX8_largestClique D A H0 Q Res.1 [((a 0), oM a M_edits M_typed M_readRows M_readColumns Res.2.1 Res.2.2.1 Res.2.2.2.1 Res.2.2.2.2.1 Res.2.2.2.2.2.1), ((a 1), aI cI 151 M_now), ((a 5), aI cI 49 Res.2.2.2.2.2.2.1), ((a 6), aI cI 49 Res.2.2.2.2.2.2.2.1), ((a 8), aI cI 49 Res.2.2.2.2.2.2.2.2.1), ((a 10), aI cZ 2401 Res.2.2.2.2.2.2.2.2.2.1), ((a 11), aI cI 49 Res.2.2.2.2.2.2.2.2.2.2)]) (N : Nat) (l3 : Int) (M_top : Int) (M_bottom : Int) (M_left : Int) (M_right : Int) (M_panes : Int) (M_queue : Int → Int) (M_pane : Int → Int) (M_size : Int → Int) (M_near : Int → Int) (M_nearMany : Int → Int) (k9 : Int → Int → Option (Int × Int × Int × Int × Int × Int × (Int → Int) × (Int → Int) × (Int → Int) × (Int → Int) × (Int → Int))) (hk9 : ∀ (l2' : Int) (l3' : Int) (ls : Array Slot) (H : Heap) (locs : List Loc), lv_has ls 7 [(0, .ref (a 0)), (2, iv l2'), (3, iv l3')] → XH D A H0 [((a 0), oM a M_edits M_typed M_readRows M_readColumns M_top M_bottom M_left M_right M_panes), ((a 1), aI cI 151 M_now), ((a 5), aI cI 49 M_queue), ((a 6), aI cI 49 M_pane), ((a 8), aI cI 49 M_size), ((a 10), aI cZ 2401 M_near), ((a 11), aI cI 49 M_nearMany)] H locs → k9 l2' l3' = some Res → W p l e rm_mo_largestClique s m args below meth c H locs 0 0 Q (F0 m 9 ls [])) : ∀ (n : Nat) (l2 : Int) (l4 : Int) (ls : Array Slot) (H : Heap) (locs : List Loc), lv_has ls 7 [(0, .ref (a 0)), (2, iv l2), (3, iv l3), (4, iv l4)] → XH D A H0 [((a 0), oM a M_edits M_typed M_readRows M_readColumns M_top M_bottom M_left M_right M_panes), ((a 1), aI cI 151 M_now), ((a 5), aI cI 49 M_queue), ((a 6), aI cI 49 M_pane), ((a 8), aI cI 49 M_size), ((a 10), aI cZ 2401 M_near), ((a 11), aI cI 49 M_nearMany)] H locs → f_mo_largestClique_22 N l3 M_top M_bottom M_left M_right M_panes M_queue M_pane M_size M_near M_nearMany k9 n l2 l4 = some Res → W p l e rm_mo_largestClique s m args below meth c H locs 0 0 Q (F0 m 22 ls []) := by
  have hx := C.1.1
  have hb := C.1.2.1
  intro n
  induction n with
  | zero => intro l2 l4 ls H locs hl h hf; cases hf
  | succ n ih =>
    intro l2 l4 ls H locs hl h hf
    rw [f_mo_largestClique_22.eq_2] at hf
    refine lv_iload hx hb (pc := 22) dX8_largestClique_22 (lv_at hl 3 rfl) ?_
    refine lv_aload_n hx hb (pc := 24) dX8_largestClique_24 rfl (lv_at hl 0 rfl) ?_
    refine x_get C h (pc := 25) xf_X8_92 0 rfl (v := iv M_panes) rfl dX8_largestClique_25 ?_
    obtain ⟨g_44, hf⟩ := og_some hf
    obtain ⟨g_45, hf⟩ := og_some hf
    refine x_icmpge C (pc := 28) (tgt := 176) g_44 g_45 dX8_largestClique_28 rfl (fun hc => ?_) (fun hc => ?_)
    · have hf := oi_t hf hc
      obtain ⟨l3_46, el3_46, hf⟩ := ol_some hf
      refine x_iinc C (pc := 176) (k := 2) (lw' := [(3, iv l3_46), (0, .ref (a 0)), (2, iv l2), (4, iv l4)]) dX8_largestClique_176 hl rfl el3_46 (Nat.le_of_ble_eq_true rfl) rfl (fun ls hl => ?_)
      refine lv_goto hx hb (pc := 179) (tgt := 9) dX8_largestClique_179 rfl ?_
      exact hk9 l2 l3_46 _ _ _ (lv_sub hl [1, 2, 0] rfl) h hf
    · have hf := oi_f hf hc
      refine lv_aload_n hx hb (pc := 31) dX8_largestClique_31 rfl (lv_at hl 0 rfl) ?_
      refine lv_iload_n hx hb (pc := 32) dX8_largestClique_32 rfl (lv_at hl 2 rfl) ?_
      refine lv_iload hx hb (pc := 33) dX8_largestClique_33 (lv_at hl 3 rfl) ?_
      obtain ⟨q_47, hq_47, hf⟩ := ob_some hf
      refine x_callVi C h (pc := 35) hl (c_mo_areNear l D cI cJ cZ cO a M_edits M_typed M_readRows M_readColumns M_top M_bottom M_left M_right M_panes M_near l3 l4 N q_47 hq_47) xv_X8_areNear lk_X8_214 ⟨(Nat.le_of_ble_eq_true rfl), (Nat.le_of_ble_eq_true rfl)⟩ rfl [0, 5] [1, 2, 3, 4, 6] (nw := 7) (wr := [((a 1), aI cI 151 M_now), ((a 5), aI cI 49 M_queue), ((a 6), aI cI 49 M_pane), ((a 8), aI cI 49 M_size), ((a 11), aI cI 49 M_nearMany)]) (as := [(a 0), (a 1), (a 5), (a 6), (a 8), (a 10), (a 11)]) (ws' := [((a 0), oM a M_edits M_typed M_readRows M_readColumns M_top M_bottom M_left M_right M_panes), ((a 1), aI cI 151 M_now), ((a 5), aI cI 49 M_queue), ((a 6), aI cI 49 M_pane), ((a 8), aI cI 49 M_size), ((a 10), aI cZ 2401 M_near), ((a 11), aI cI 49 M_nearMany)]) rfl rfl rfl rfl rfl rfl rfl rfl rfl 0 rfl rfl rfl rfl (Nat.le_of_ble_eq_true rfl) dX8_largestClique_35 (fun H locs h => ?_)
      obtain ⟨g_48, hf⟩ := og_some hf
      refine x_ifne C (pc := 38) (tgt := 44) g_48 dX8_largestClique_38 rfl (fun hc => ?_) (fun hc => ?_)
      · have hf := oi_f hf hc
        refine lv_iload_n hx hb (pc := 44) dX8_largestClique_44 rfl (lv_at hl 1 rfl) ?_
        refine x_iconst C (pc := 45) dX8_largestClique_45 ?_
        obtain ⟨g_49, hf⟩ := og_some hf
        obtain ⟨r_51, hrr_51, hf⟩ := ob_some hf
        have Jr_51 : ∀ (ls : Array Slot) (H : Heap) (locs : List Loc), lv_has ls 7 [(0, .ref (a 0)), (3, iv l3), (4, iv l4)] → XH D A H0 [((a 0), oM a M_edits M_typed M_readRows M_readColumns M_top M_bottom M_left M_right M_panes), ((a 1), aI cI 151 M_now), ((a 5), aI cI 49 M_queue), ((a 6), aI cI 49 M_pane), ((a 8), aI cI 49 M_size), ((a 10), aI cZ 2401 M_near), ((a 11), aI cI 49 M_nearMany)] H locs → W p l e rm_mo_largestClique s m args below meth c H locs 0 0 Q (F0 m 54 ls [iv r_51]) := by
          intro ls H locs hl h
          refine lv_istore_n hx hb (pc := 54) (lv' := [(2, iv r_51), (0, .ref (a 0)), (3, iv l3), (4, iv l4)]) dX8_largestClique_54 rfl hl (Nat.le_of_ble_eq_true rfl) rfl (fun ls hl => ?_)
          refine lv_iload hx hb (pc := 55) dX8_largestClique_55 (lv_at hl 3 rfl) ?_
          refine x_iconst C (pc := 57) dX8_largestClique_57 ?_
          refine x_iadd C (pc := 58) dX8_largestClique_58 ?_
          obtain ⟨l5_52, el5_52, hf⟩ := ol_some hf
          refine x_topi el5_52 ?_
          refine lv_istore hx hb (pc := 59) (lv' := [(5, iv l5_52), (2, iv r_51), (0, .ref (a 0)), (3, iv l3), (4, iv l4)]) dX8_largestClique_59 hl (Nat.le_of_ble_eq_true rfl) rfl (fun ls hl => ?_)
          exact w_mo_largestClique_61 C a M_edits M_typed M_readRows M_readColumns M_now Res hret N l3 l4 M_top M_bottom M_left M_right M_panes M_queue M_pane M_size M_near M_nearMany k9 hk9 (f_mo_largestClique_22 N l3 M_top M_bottom M_left M_right M_panes M_queue M_pane M_size M_near M_nearMany k9 n) ih N r_51 l5_52 _ _ _ (lv_sub hl [2, 1, 3, 4, 0] rfl) h hf
        clear hf
        have hf := hrr_51
        refine x_icmpge C (pc := 46) (tgt := 53) g_49 ⟨by decide, by decide⟩ dX8_largestClique_46 rfl (fun hc => ?_) (fun hc => ?_)
        · have hf := oi_t hf hc
          refine lv_iload_n hx hb (pc := 53) dX8_largestClique_53 rfl (lv_at hl 1 rfl) ?_
          have e9 := Option.some.inj hf
          subst e9
          exact Jr_51 _ _ _ (lv_sub hl [0, 2, 3] rfl) h
        · have hf := oi_f hf hc
          refine x_iconst C (pc := 49) dX8_largestClique_49 ?_
          refine lv_goto hx hb (pc := 50) (tgt := 54) dX8_largestClique_50 rfl ?_
          have e9 := Option.some.inj hf
          subst e9
          exact Jr_51 _ _ _ (lv_sub hl [0, 2, 3] rfl) h
      · have hf := oi_t hf hc
        refine lv_goto hx hb (pc := 41) (tgt := 170) dX8_largestClique_41 rfl ?_
        obtain ⟨l4_50, el4_50, hf⟩ := ol_some hf
        refine x_iinc C (pc := 170) (k := 3) (lw' := [(4, iv l4_50), (0, .ref (a 0)), (2, iv l2), (3, iv l3)]) dX8_largestClique_170 hl rfl el4_50 (Nat.le_of_ble_eq_true rfl) rfl (fun ls hl => ?_)
        refine lv_goto hx hb (pc := 173) (tgt := 22) dX8_largestClique_173 rfl ?_
        exact ih l2 l4_50 _ _ _ (lv_sub hl [1, 2, 3, 0] rfl) h hf
set_option maxHeartbeats 4000000 in
set_option maxRecDepth 100000 in
theorem w_mo_largestClique_9 {p : Program} {l : Launch} {e : Env} {s : State} {m : MethodId} {args : Array Value} {below : List Frame} {meth : Method} {c : Code} {Q : State → Prop} {D : va_G} {cI cJ cZ cO : ClassId} {A : Nat → Prop} {H0 : Heap} {w0 : Cond} (C : XC p s m args c cX8_largestClique 7 RX8 w0 D (xT cI cJ cZ cO)) (a : Nat → Nat) (M_edits : Int) (M_typed : Int) (M_readRows : Int) (M_readColumns : Int) (M_now : Int → Int) (Res : Int × Int × Int × Int × Int × Int × (Int → Int) × (Int → Int) × (Int → Int) × (Int → Int) × (Int → Int)) (hret : XRI p l e rm_mo_largestClique s m args below meth c cX8_largestClique D A H0 Q Res.1 [((a 0), oM a M_edits M_typed M_readRows M_readColumns Res.2.1 Res.2.2.1 Res.2.2.2.1 Res.2.2.2.2.1 Res.2.2.2.2.2.1), ((a 1), aI cI 151 M_now), ((a 5), aI cI 49 Res.2.2.2.2.2.2.1), ((a 6), aI cI 49 Res.2.2.2.2.2.2.2.1), ((a 8), aI cI 49 Res.2.2.2.2.2.2.2.2.1), ((a 10), aI cZ 2401 Res.2.2.2.2.2.2.2.2.2.1), ((a 11), aI cI 49 Res.2.2.2.2.2.2.2.2.2.2)]) (N : Nat) (M_top : Int) (M_bottom : Int) (M_left : Int) (M_right : Int) (M_panes : Int) (M_queue : Int → Int) (M_pane : Int → Int) (M_size : Int → Int) (M_near : Int → Int) (M_nearMany : Int → Int) : ∀ (n : Nat) (l2 : Int) (l3 : Int) (ls : Array Slot) (H : Heap) (locs : List Loc), lv_has ls 7 [(0, .ref (a 0)), (2, iv l2), (3, iv l3)] → XH D A H0 [((a 0), oM a M_edits M_typed M_readRows M_readColumns M_top M_bottom M_left M_right M_panes), ((a 1), aI cI 151 M_now), ((a 5), aI cI 49 M_queue), ((a 6), aI cI 49 M_pane), ((a 8), aI cI 49 M_size), ((a 10), aI cZ 2401 M_near), ((a 11), aI cI 49 M_nearMany)] H locs → f_mo_largestClique_9 N M_top M_bottom M_left M_right M_panes M_queue M_pane M_size M_near M_nearMany n l2 l3 = some Res → W p l e rm_mo_largestClique s m args below meth c H locs 0 0 Q (F0 m 9 ls []) := by
  have hx := C.1.1
  have hb := C.1.2.1
  intro n
  induction n with
  | zero => intro l2 l3 ls H locs hl h hf; cases hf
  | succ n ih =>
    intro l2 l3 ls H locs hl h hf
    rw [f_mo_largestClique_9.eq_2] at hf
    refine lv_iload_n hx hb (pc := 9) dX8_largestClique_9 rfl (lv_at hl 2 rfl) ?_
    refine lv_aload_n hx hb (pc := 10) dX8_largestClique_10 rfl (lv_at hl 0 rfl) ?_
    refine x_get C h (pc := 11) xf_X8_92 0 rfl (v := iv M_panes) rfl dX8_largestClique_11 ?_
    obtain ⟨g_41, hf⟩ := og_some hf
    obtain ⟨g_42, hf⟩ := og_some hf
    refine x_icmpge C (pc := 14) (tgt := 182) g_41 g_42 dX8_largestClique_14 rfl (fun hc => ?_) (fun hc => ?_)
    · have hf := oi_t hf hc
      refine lv_iload_n hx hb (pc := 182) dX8_largestClique_182 rfl (lv_at hl 1 rfl) ?_
      have e9 := Option.some.inj hf
      subst e9
      exact hret _ _ _ _ dX8_largestClique_183 h
    · have hf := oi_f hf hc
      refine lv_iload_n hx hb (pc := 17) dX8_largestClique_17 rfl (lv_at hl 2 rfl) ?_
      refine x_iconst C (pc := 18) dX8_largestClique_18 ?_
      refine x_iadd C (pc := 19) dX8_largestClique_19 ?_
      obtain ⟨l4_43, el4_43, hf⟩ := ol_some hf
      refine x_topi el4_43 ?_
      refine lv_istore hx hb (pc := 20) (lv' := [(4, iv l4_43), (0, .ref (a 0)), (2, iv l2), (3, iv l3)]) dX8_largestClique_20 hl (Nat.le_of_ble_eq_true rfl) rfl (fun ls hl => ?_)
      exact w_mo_largestClique_22 C a M_edits M_typed M_readRows M_readColumns M_now Res hret N l3 M_top M_bottom M_left M_right M_panes M_queue M_pane M_size M_near M_nearMany (f_mo_largestClique_9 N M_top M_bottom M_left M_right M_panes M_queue M_pane M_size M_near M_nearMany n) ih N l2 l4_43 _ _ _ (lv_sub hl [1, 2, 3, 0] rfl) h hf
set_option maxHeartbeats 4000000 in
set_option maxRecDepth 100000 in
theorem c_mo_largestClique (l : Launch) (D : va_G) (cI cJ cZ cO : ClassId) (a : Nat → Nat) (M_edits : Int) (M_typed : Int) (M_readRows : Int) (M_readColumns : Int) (M_top : Int) (M_bottom : Int) (M_left : Int) (M_right : Int) (M_panes : Int) (M_now : Int → Int) (M_queue : Int → Int) (M_pane : Int → Int) (M_size : Int → Int) (M_near : Int → Int) (M_nearMany : Int → Int) (N : Nat) (Res : Int × Int × Int × Int × Int × Int × (Int → Int) × (Int → Int) × (Int → Int) × (Int → Int) × (Int → Int)) (hf : f_mo_largestClique N M_top M_bottom M_left M_right M_panes M_now M_queue M_pane M_size M_near M_nearMany = some Res) : CoI l D (xT cI cJ cZ cO) yX8_largestClique cX8_largestClique 7 (some .int) rm_mo_largestClique [.ref (a 0)] [((a 0), oM a M_edits M_typed M_readRows M_readColumns M_top M_bottom M_left M_right M_panes), ((a 1), aI cI 151 M_now), ((a 5), aI cI 49 M_queue), ((a 6), aI cI 49 M_pane), ((a 8), aI cI 49 M_size), ((a 10), aI cZ 2401 M_near), ((a 11), aI cI 49 M_nearMany)] Res.1 [((a 0), oM a M_edits M_typed M_readRows M_readColumns Res.2.1 Res.2.2.1 Res.2.2.2.1 Res.2.2.2.2.1 Res.2.2.2.2.2.1), ((a 1), aI cI 151 M_now), ((a 5), aI cI 49 Res.2.2.2.2.2.2.1), ((a 6), aI cI 49 Res.2.2.2.2.2.2.2.1), ((a 8), aI cI 49 Res.2.2.2.2.2.2.2.2.1), ((a 10), aI cZ 2401 Res.2.2.2.2.2.2.2.2.2.1), ((a 11), aI cI 49 Res.2.2.2.2.2.2.2.2.2.2)] := by
  refine co_i (by decide) ⟨rfl, rfl⟩ (Nat.le_of_ble_eq_true rfl) ?_
  intro p e s m args below meth c A Q ls C hret hl h
  have hx := C.1.1
  have hb := C.1.2.1
  have hl : lv_has ls 7 [(0, .ref (a 0))] := hl
  unfold f_mo_largestClique at hf
  refine lv_aload_n hx hb (pc := 0) dX8_largestClique_0 rfl (lv_at hl 0 rfl) ?_
  obtain ⟨q_40, hq_40, hf⟩ := ob_some hf
  refine x_callVi C h (pc := 1) hl (c_mo_findNear l D cI cJ cZ cO a M_edits M_typed M_readRows M_readColumns M_top M_bottom M_left M_right M_panes M_now M_queue M_pane M_size M_near M_nearMany N q_40 hq_40) xv_X8_findNear lk_X8_168 ⟨(Nat.le_of_ble_eq_true rfl), (Nat.le_of_ble_eq_true rfl)⟩ rfl [0, 1, 2, 3, 4, 5, 6] [] (nw := 7) (wr := []) (as := [(a 0), (a 1), (a 5), (a 6), (a 8), (a 10), (a 11)]) (ws' := [((a 0), oM a M_edits M_typed M_readRows M_readColumns q_40.2.1 q_40.2.2.1 q_40.2.2.2.1 q_40.2.2.2.2.1 q_40.2.2.2.2.2.1), ((a 1), aI cI 151 M_now), ((a 5), aI cI 49 q_40.2.2.2.2.2.2.1), ((a 6), aI cI 49 q_40.2.2.2.2.2.2.2.1), ((a 8), aI cI 49 q_40.2.2.2.2.2.2.2.2.1), ((a 10), aI cZ 2401 q_40.2.2.2.2.2.2.2.2.2.1), ((a 11), aI cI 49 q_40.2.2.2.2.2.2.2.2.2.2)]) rfl rfl rfl rfl rfl rfl rfl rfl rfl 0 rfl rfl rfl rfl (Nat.le_of_ble_eq_true rfl) dX8_largestClique_1 (fun H locs h => ?_)
  refine lv_istore_n hx hb (pc := 4) (lv' := [(1, iv q_40.1), (0, .ref (a 0))]) dX8_largestClique_4 rfl hl (Nat.le_of_ble_eq_true rfl) rfl (fun ls hl => ?_)
  refine x_iconst C (pc := 5) dX8_largestClique_5 ?_
  refine lv_istore_n hx hb (pc := 6) (lv' := [(2, iv 1), (1, iv q_40.1), (0, .ref (a 0))]) dX8_largestClique_6 rfl hl (Nat.le_of_ble_eq_true rfl) rfl (fun ls hl => ?_)
  refine x_iconst C (pc := 7) dX8_largestClique_7 ?_
  refine lv_istore_n hx hb (pc := 8) (lv' := [(3, iv 0), (2, iv 1), (1, iv q_40.1), (0, .ref (a 0))]) dX8_largestClique_8 rfl hl (Nat.le_of_ble_eq_true rfl) rfl (fun ls hl => ?_)
  exact w_mo_largestClique_9 C a M_edits M_typed M_readRows M_readColumns M_now Res hret N q_40.2.1 q_40.2.2.1 q_40.2.2.2.1 q_40.2.2.2.2.1 q_40.2.2.2.2.2.1 q_40.2.2.2.2.2.2.1 q_40.2.2.2.2.2.2.2.1 q_40.2.2.2.2.2.2.2.2.1 q_40.2.2.2.2.2.2.2.2.2.1 q_40.2.2.2.2.2.2.2.2.2.2 N 1 0 _ _ _ (lv_sub hl [3, 1, 0] rfl) h hf
