abbrev rm_mo_in : Room := { frames := 0, cells := 0, slots := 0, locals := 0 }
set_option maxHeartbeats 4000000 in
set_option maxRecDepth 100000 in
theorem c_mo_in (l : Launch) (D : va_G) (cI cJ cZ cO : ClassId) (a : Nat → Nat) (l0 : Int) (l1 : Int) (l2 : Int) (N : Nat) (Res : Int) (hf : f_mo_in N l0 l1 l2 = some Res) : CoI l D (xT cI cJ cZ cO) yX8_in cX8_in 3 (some .boolean) rm_mo_in [iv l0, iv l1, iv l2] [] Res [] := by
  refine co_z (by decide) ⟨rfl, rfl⟩ (Nat.le_of_ble_eq_true rfl) ?_
  intro p e s m args below meth c A Q ls C hret hl h
  have hx := C.1.1
  have hb := C.1.2.1
  have hl : lv_has ls 3 [(0, iv l0), (1, iv l1), (2, iv l2)] := hl
  unfold f_mo_in at hf
  refine lv_iload_n hx hb (pc := 0) dX8_in_0 rfl (lv_at hl 0 rfl) ?_
  refine lv_iload_n hx hb (pc := 1) dX8_in_1 rfl (lv_at hl 1 rfl) ?_
  obtain ⟨g_1, hf⟩ := og_some hf
  obtain ⟨g_2, hf⟩ := og_some hf
  refine x_icmplt C (pc := 2) (tgt := 14) g_1 g_2 dX8_in_2 rfl (fun hc => ?_) (fun hc => ?_)
  · have hf := oi_t hf hc
    refine x_iconst C (pc := 14) dX8_in_14 ?_
    have e9 := Option.some.inj hf
    subst e9
    exact hret _ _ _ _ (Or.inl rfl) dX8_in_15 h
  · have hf := oi_f hf hc
    refine lv_iload_n hx hb (pc := 5) dX8_in_5 rfl (lv_at hl 0 rfl) ?_
    refine lv_iload_n hx hb (pc := 6) dX8_in_6 rfl (lv_at hl 2 rfl) ?_
    obtain ⟨g_3, hf⟩ := og_some hf
    refine x_icmpgt C (pc := 7) (tgt := 14) g_1 g_3 dX8_in_7 rfl (fun hc => ?_) (fun hc => ?_)
    · have hf := oi_t hf hc
      refine x_iconst C (pc := 14) dX8_in_14 ?_
      have e9 := Option.some.inj hf
      subst e9
      exact hret _ _ _ _ (Or.inl rfl) dX8_in_15 h
    · have hf := oi_f hf hc
      refine x_iconst C (pc := 10) dX8_in_10 ?_
      refine lv_goto hx hb (pc := 11) (tgt := 15) dX8_in_11 rfl ?_
      have e9 := Option.some.inj hf
      subst e9
      exact hret _ _ _ _ (Or.inr rfl) dX8_in_15 h
abbrev rm_mo_isCell : Room := { frames := 1, cells := 0, slots := 0, locals := 22 }
set_option maxHeartbeats 4000000 in
set_option maxRecDepth 100000 in
theorem c_mo_isCell (l : Launch) (D : va_G) (cI cJ cZ cO : ClassId) (a : Nat → Nat) (M_edits : Int) (M_typed : Int) (M_readRows : Int) (M_readColumns : Int) (M_top : Int) (M_bottom : Int) (M_left : Int) (M_right : Int) (M_panes : Int) (M_now : Int → Int) (l1 : Int) (l2 : Int) (N : Nat) (Res : Int) (hf : f_mo_isCell N l1 l2 M_now = some Res) : CoI l D (xT cI cJ cZ cO) yX8_isCell cX8_isCell 3 (some .boolean) rm_mo_isCell [.ref (a 0), iv l1, iv l2] [((a 0), oM a M_edits M_typed M_readRows M_readColumns M_top M_bottom M_left M_right M_panes), ((a 1), aI cI 151 M_now)] Res [((a 0), oM a M_edits M_typed M_readRows M_readColumns M_top M_bottom M_left M_right M_panes), ((a 1), aI cI 151 M_now)] := by
  refine co_z (by decide) ⟨rfl, rfl⟩ (Nat.le_of_ble_eq_true rfl) ?_
  intro p e s m args below meth c A Q ls C hret hl h
  have hx := C.1.1
  have hb := C.1.2.1
  have hl : lv_has ls 3 [(0, .ref (a 0)), (1, iv l1), (2, iv l2)] := hl
  unfold f_mo_isCell at hf
  refine lv_iload_n hx hb (pc := 0) dX8_isCell_0 rfl (lv_at hl 1 rfl) ?_
  refine x_iconst C (pc := 1) dX8_isCell_1 ?_
  refine lv_aload_n hx hb (pc := 2) dX8_isCell_2 rfl (lv_at hl 0 rfl) ?_
  refine x_get C h (pc := 3) xf_X8_7 0 rfl (v := .ref (a 1)) rfl dX8_isCell_3 ?_
  refine x_iconst C (pc := 6) dX8_isCell_6 ?_
  refine x_iald C h (pc := 7) 1 0 rfl rfl (Nat.le_of_ble_eq_true rfl) ⟨by decide, by decide⟩ dX8_isCell_7 ?_
  refine x_iconst C (pc := 8) dX8_isCell_8 ?_
  refine x_isub C (pc := 9) dX8_isCell_9 ?_
  obtain ⟨q_1, hq_1, hf⟩ := ob_some hf
  refine x_callSi C h (pc := 10) hl (c_mo_in l D cI cJ cZ cO a l1 0 ((M_now 0) - 1) N q_1 hq_1) xs_X8_in lk_X8_65 ⟨(Nat.le_of_ble_eq_true rfl), (Nat.le_of_ble_eq_true rfl)⟩ rfl [] [0, 1] (nw := 2) (wr := [((a 0), oM a M_edits M_typed M_readRows M_readColumns M_top M_bottom M_left M_right M_panes), ((a 1), aI cI 151 M_now)]) (as := [(a 0), (a 1)]) (ws' := [((a 0), oM a M_edits M_typed M_readRows M_readColumns M_top M_bottom M_left M_right M_panes), ((a 1), aI cI 151 M_now)]) rfl rfl rfl rfl rfl rfl rfl rfl rfl rfl (Nat.le_of_ble_eq_true rfl) dX8_isCell_10 (fun H locs h => ?_)
  obtain ⟨g_2, hf⟩ := og_some hf
  refine x_ifeq C (pc := 13) (tgt := 36) g_2 dX8_isCell_13 rfl (fun hc => ?_) (fun hc => ?_)
  · have hf := oi_t hf hc
    refine x_iconst C (pc := 36) dX8_isCell_36 ?_
    have e9 := Option.some.inj hf
    subst e9
    exact hret _ _ _ _ (Or.inl rfl) dX8_isCell_37 h
  · have hf := oi_f hf hc
    refine lv_iload_n hx hb (pc := 16) dX8_isCell_16 rfl (lv_at hl 2 rfl) ?_
    refine x_iconst C (pc := 17) dX8_isCell_17 ?_
    refine lv_aload_n hx hb (pc := 18) dX8_isCell_18 rfl (lv_at hl 0 rfl) ?_
    refine x_get C h (pc := 19) xf_X8_7 0 rfl (v := .ref (a 1)) rfl dX8_isCell_19 ?_
    refine x_iconst C (pc := 22) dX8_isCell_22 ?_
    refine x_iald C h (pc := 23) 1 0 rfl rfl (Nat.le_of_ble_eq_true rfl) ⟨by decide, by decide⟩ dX8_isCell_23 ?_
    refine x_iconst C (pc := 24) dX8_isCell_24 ?_
    refine x_isub C (pc := 25) dX8_isCell_25 ?_
    obtain ⟨q_3, hq_3, hf⟩ := ob_some hf
    refine x_callSi C h (pc := 26) hl (c_mo_in l D cI cJ cZ cO a l2 0 ((M_now 1) - 1) N q_3 hq_3) xs_X8_in lk_X8_65 ⟨(Nat.le_of_ble_eq_true rfl), (Nat.le_of_ble_eq_true rfl)⟩ rfl [] [0, 1] (nw := 2) (wr := [((a 0), oM a M_edits M_typed M_readRows M_readColumns M_top M_bottom M_left M_right M_panes), ((a 1), aI cI 151 M_now)]) (as := [(a 0), (a 1)]) (ws' := [((a 0), oM a M_edits M_typed M_readRows M_readColumns M_top M_bottom M_left M_right M_panes), ((a 1), aI cI 151 M_now)]) rfl rfl rfl rfl rfl rfl rfl rfl rfl rfl (Nat.le_of_ble_eq_true rfl) dX8_isCell_26 (fun H locs h => ?_)
    obtain ⟨g_4, hf⟩ := og_some hf
    refine x_ifeq C (pc := 29) (tgt := 36) g_4 dX8_isCell_29 rfl (fun hc => ?_) (fun hc => ?_)
    · have hf := oi_t hf hc
      refine x_iconst C (pc := 36) dX8_isCell_36 ?_
      have e9 := Option.some.inj hf
      subst e9
      exact hret _ _ _ _ (Or.inl rfl) dX8_isCell_37 h
    · have hf := oi_f hf hc
      refine x_iconst C (pc := 32) dX8_isCell_32 ?_
      refine lv_goto hx hb (pc := 33) (tgt := 37) dX8_isCell_33 rfl ?_
      have e9 := Option.some.inj hf
      subst e9
      exact hret _ _ _ _ (Or.inr rfl) dX8_isCell_37 h
abbrev rm_mo_save : Room := { frames := 0, cells := 0, slots := 0, locals := 0 }
set_option maxHeartbeats 4000000 in
set_option maxRecDepth 100000 in
theorem w_mo_save_52 {p : Program} {l : Launch} {e : Env} {s : State} {m : MethodId} {args : Array Value} {below : List Frame} {meth : Method} {c : Code} {Q : State → Prop} {D : va_G} {cI cJ cZ cO : ClassId} {A : Nat → Prop} {H0 : Heap} {w0 : Cond} (C : XC p s m args c cX8_save 2 RX8 w0 D (xT cI cJ cZ cO)) (a : Nat → Nat) (M_typed : Int) (M_readRows : Int) (M_readColumns : Int) (M_top : Int) (M_bottom : Int) (M_left : Int) (M_right : Int) (M_panes : Int) (M_now : Int → Int) (Res : Int × (Int → Int)) (hret : XRV p l e rm_mo_save s m args below meth c cX8_save D A H0 Q [((a 0), oM a Res.1 M_typed M_readRows M_readColumns M_top M_bottom M_left M_right M_panes), ((a 1), aI cI 151 M_now), ((a 2), aI cI 1208 Res.2)]) (N : Nat) (M_edits : Int) : ∀ (n : Nat) (l1 : Int) (M_past : Int → Int) (ls : Array Slot) (H : Heap) (locs : List Loc), lv_has ls 2 [(0, .ref (a 0)), (1, iv l1)] → XH D A H0 [((a 0), oM a M_edits M_typed M_readRows M_readColumns M_top M_bottom M_left M_right M_panes), ((a 1), aI cI 151 M_now), ((a 2), aI cI 1208 M_past)] H locs → f_mo_save_52 N M_edits M_now n l1 M_past = some Res → W p l e rm_mo_save s m args below meth c H locs 0 0 Q (F0 m 52 ls []) := by
  have hx := C.1.1
  have hb := C.1.2.1
  intro n
  induction n with
  | zero => intro l1 M_past ls H locs hl h hf; cases hf
  | succ n ih =>
    intro l1 M_past ls H locs hl h hf
    rw [f_mo_save_52.eq_2] at hf
    refine lv_iload_n hx hb (pc := 52) dX8_save_52 rfl (lv_at hl 1 rfl) ?_
    refine x_sipush C (pc := 53) dX8_save_53 (by decide) ?_
    obtain ⟨g_8, hf⟩ := og_some hf
    refine x_icmpge C (pc := 56) (tgt := 86) g_8 ⟨by decide, by decide⟩ dX8_save_56 rfl (fun hc => ?_) (fun hc => ?_)
    · have hf := oi_t hf hc
      refine lv_aload_n hx hb (pc := 86) dX8_save_86 rfl (lv_at hl 0 rfl) ?_
      refine lv_dup hx hb (pc := 87) dX8_save_87 rfl ?_
      refine x_get C h (pc := 88) xf_X8_69 0 rfl (v := iv M_edits) rfl dX8_save_88 ?_
      refine x_iconst C (pc := 91) dX8_save_91 ?_
      refine x_iadd C (pc := 92) dX8_save_92 ?_
      obtain ⟨M_edits_9, eM_edits_9, hf⟩ := ol_some hf
      refine x_topi eM_edits_9 ?_
      refine x_puti C h (pc := 93) (ws' := [((a 0), oM a M_edits_9 M_typed M_readRows M_readColumns M_top M_bottom M_left M_right M_panes), ((a 1), aI cI 151 M_now), ((a 2), aI cI 1208 M_past)]) xf_X8_69 xp_X8 rfl 0 rfl rfl (Nat.le_of_ble_eq_true rfl) rfl dX8_save_93 (fun H locs h => ?_)
      have e9 := Option.some.inj hf
      subst e9
      exact hret _ _ _ _ dX8_save_96 h
    · have hf := oi_f hf hc
      refine lv_aload_n hx hb (pc := 59) dX8_save_59 rfl (lv_at hl 0 rfl) ?_
      refine x_get C h (pc := 60) xf_X8_13 0 rfl (v := .ref (a 2)) rfl dX8_save_60 ?_
      refine x_sipush C (pc := 63) dX8_save_63 (by decide) ?_
      refine lv_aload_n hx hb (pc := 66) dX8_save_66 rfl (lv_at hl 0 rfl) ?_
      refine x_get C h (pc := 67) xf_X8_69 0 rfl (v := iv M_edits) rfl dX8_save_67 ?_
      refine x_imul C (pc := 70) dX8_save_70 ?_
      refine lv_iload_n hx hb (pc := 71) dX8_save_71 rfl (lv_at hl 1 rfl) ?_
      refine x_iadd C (pc := 72) dX8_save_72 ?_
      refine lv_aload_n hx hb (pc := 73) dX8_save_73 rfl (lv_at hl 0 rfl) ?_
      refine x_get C h (pc := 74) xf_X8_7 0 rfl (v := .ref (a 1)) rfl dX8_save_74 ?_
      refine lv_iload_n hx hb (pc := 77) dX8_save_77 rfl (lv_at hl 1 rfl) ?_
      obtain ⟨g_10, hf⟩ := og_some hf
      refine x_iald C h (pc := 78) 1 0 rfl rfl (Nat.le_of_ble_eq_true rfl) g_10 dX8_save_78 ?_
      obtain ⟨g_11, hf⟩ := og_some hf
      obtain ⟨M_past_12, eM_past_12, hf⟩ := ol_some hf
      refine x_iast C h (pc := 79) (ws' := [((a 0), oM a M_edits M_typed M_readRows M_readColumns M_top M_bottom M_left M_right M_panes), ((a 1), aI cI 151 M_now), ((a 2), aI cI 1208 M_past_12)]) 2 0 rfl rfl (Nat.le_of_ble_eq_true rfl) g_11 eM_past_12 rfl dX8_save_79 (fun H locs h => ?_)
      obtain ⟨l1_13, el1_13, hf⟩ := ol_some hf
      refine x_iinc C (pc := 80) (k := 1) (lw' := [(1, iv l1_13), (0, .ref (a 0))]) dX8_save_80 hl rfl el1_13 (Nat.le_of_ble_eq_true rfl) rfl (fun ls hl => ?_)
      refine lv_goto hx hb (pc := 83) (tgt := 52) dX8_save_83 rfl ?_
      exact ih l1_13 M_past_12 _ _ _ (lv_sub hl [1, 0] rfl) h hf
set_option maxHeartbeats 4000000 in
set_option maxRecDepth 100000 in
theorem w_mo_save_11 {p : Program} {l : Launch} {e : Env} {s : State} {m : MethodId} {args : Array Value} {below : List Frame} {meth : Method} {c : Code} {Q : State → Prop} {D : va_G} {cI cJ cZ cO : ClassId} {A : Nat → Prop} {H0 : Heap} {w0 : Cond} (C : XC p s m args c cX8_save 2 RX8 w0 D (xT cI cJ cZ cO)) (a : Nat → Nat) (M_typed : Int) (M_readRows : Int) (M_readColumns : Int) (M_top : Int) (M_bottom : Int) (M_left : Int) (M_right : Int) (M_panes : Int) (M_now : Int → Int) (Res : Int × (Int → Int)) (hret : XRV p l e rm_mo_save s m args below meth c cX8_save D A H0 Q [((a 0), oM a Res.1 M_typed M_readRows M_readColumns M_top M_bottom M_left M_right M_panes), ((a 1), aI cI 151 M_now), ((a 2), aI cI 1208 Res.2)]) (N : Nat) (M_edits : Int) : ∀ (n : Nat) (l1 : Int) (M_past : Int → Int) (ls : Array Slot) (H : Heap) (locs : List Loc), lv_has ls 2 [(0, .ref (a 0)), (1, iv l1)] → XH D A H0 [((a 0), oM a M_edits M_typed M_readRows M_readColumns M_top M_bottom M_left M_right M_panes), ((a 1), aI cI 151 M_now), ((a 2), aI cI 1208 M_past)] H locs → f_mo_save_11 N M_edits M_now n l1 M_past = some Res → W p l e rm_mo_save s m args below meth c H locs 0 0 Q (F0 m 11 ls []) := by
  have hx := C.1.1
  have hb := C.1.2.1
  intro n
  induction n with
  | zero => intro l1 M_past ls H locs hl h hf; cases hf
  | succ n ih =>
    intro l1 M_past ls H locs hl h hf
    rw [f_mo_save_11.eq_2] at hf
    refine lv_iload_n hx hb (pc := 11) dX8_save_11 rfl (lv_at hl 1 rfl) ?_
    refine x_sipush C (pc := 12) dX8_save_12 (by decide) ?_
    obtain ⟨g_2, hf⟩ := og_some hf
    refine x_icmpge C (pc := 15) (tgt := 40) g_2 ⟨by decide, by decide⟩ dX8_save_15 rfl (fun hc => ?_) (fun hc => ?_)
    · have hf := oi_t hf hc
      refine lv_aload_n hx hb (pc := 40) dX8_save_40 rfl (lv_at hl 0 rfl) ?_
      refine lv_dup hx hb (pc := 41) dX8_save_41 rfl ?_
      refine x_get C h (pc := 42) xf_X8_69 0 rfl (v := iv M_edits) rfl dX8_save_42 ?_
      refine x_iconst C (pc := 45) dX8_save_45 ?_
      refine x_isub C (pc := 46) dX8_save_46 ?_
      obtain ⟨M_edits_3, eM_edits_3, hf⟩ := ol_some hf
      refine x_topi eM_edits_3 ?_
      refine x_puti C h (pc := 47) (ws' := [((a 0), oM a M_edits_3 M_typed M_readRows M_readColumns M_top M_bottom M_left M_right M_panes), ((a 1), aI cI 151 M_now), ((a 2), aI cI 1208 M_past)]) xf_X8_69 xp_X8 rfl 0 rfl rfl (Nat.le_of_ble_eq_true rfl) rfl dX8_save_47 (fun H locs h => ?_)
      refine x_iconst C (pc := 50) dX8_save_50 ?_
      refine lv_istore_n hx hb (pc := 51) (lv' := [(1, iv 0), (0, .ref (a 0))]) dX8_save_51 rfl hl (Nat.le_of_ble_eq_true rfl) rfl (fun ls hl => ?_)
      exact w_mo_save_52 C a M_typed M_readRows M_readColumns M_top M_bottom M_left M_right M_panes M_now Res hret N M_edits_3 N 0 M_past _ _ _ (lv_sub hl [1, 0] rfl) h hf
    · have hf := oi_f hf hc
      refine lv_aload_n hx hb (pc := 18) dX8_save_18 rfl (lv_at hl 0 rfl) ?_
      refine x_get C h (pc := 19) xf_X8_13 0 rfl (v := .ref (a 2)) rfl dX8_save_19 ?_
      refine lv_iload_n hx hb (pc := 22) dX8_save_22 rfl (lv_at hl 1 rfl) ?_
      refine lv_aload_n hx hb (pc := 23) dX8_save_23 rfl (lv_at hl 0 rfl) ?_
      refine x_get C h (pc := 24) xf_X8_13 0 rfl (v := .ref (a 2)) rfl dX8_save_24 ?_
      refine lv_iload_n hx hb (pc := 27) dX8_save_27 rfl (lv_at hl 1 rfl) ?_
      refine x_sipush C (pc := 28) dX8_save_28 (by decide) ?_
      refine x_iadd C (pc := 31) dX8_save_31 ?_
      obtain ⟨g_4, hf⟩ := og_some hf
      refine x_iald C h (pc := 32) 2 0 rfl rfl (Nat.le_of_ble_eq_true rfl) g_4 dX8_save_32 ?_
      obtain ⟨g_5, hf⟩ := og_some hf
      obtain ⟨M_past_6, eM_past_6, hf⟩ := ol_some hf
      refine x_iast C h (pc := 33) (ws' := [((a 0), oM a M_edits M_typed M_readRows M_readColumns M_top M_bottom M_left M_right M_panes), ((a 1), aI cI 151 M_now), ((a 2), aI cI 1208 M_past_6)]) 2 0 rfl rfl (Nat.le_of_ble_eq_true rfl) g_5 eM_past_6 rfl dX8_save_33 (fun H locs h => ?_)
      obtain ⟨l1_7, el1_7, hf⟩ := ol_some hf
      refine x_iinc C (pc := 34) (k := 1) (lw' := [(1, iv l1_7), (0, .ref (a 0))]) dX8_save_34 hl rfl el1_7 (Nat.le_of_ble_eq_true rfl) rfl (fun ls hl => ?_)
      refine lv_goto hx hb (pc := 37) (tgt := 11) dX8_save_37 rfl ?_
      exact ih l1_7 M_past_6 _ _ _ (lv_sub hl [1, 0] rfl) h hf
set_option maxHeartbeats 4000000 in
set_option maxRecDepth 100000 in
theorem c_mo_save (l : Launch) (D : va_G) (cI cJ cZ cO : ClassId) (a : Nat → Nat) (M_edits : Int) (M_typed : Int) (M_readRows : Int) (M_readColumns : Int) (M_top : Int) (M_bottom : Int) (M_left : Int) (M_right : Int) (M_panes : Int) (M_now : Int → Int) (M_past : Int → Int) (N : Nat) (Res : Int × (Int → Int)) (hf : f_mo_save N M_edits M_now M_past = some Res) : CoV l D (xT cI cJ cZ cO) yX8_save cX8_save 2 none rm_mo_save [.ref (a 0)] [((a 0), oM a M_edits M_typed M_readRows M_readColumns M_top M_bottom M_left M_right M_panes), ((a 1), aI cI 151 M_now), ((a 2), aI cI 1208 M_past)] [((a 0), oM a Res.1 M_typed M_readRows M_readColumns M_top M_bottom M_left M_right M_panes), ((a 1), aI cI 151 M_now), ((a 2), aI cI 1208 Res.2)] := by
  refine co_v (by decide) ⟨rfl, rfl⟩ (Nat.le_of_ble_eq_true rfl) ?_
  intro p e s m args below meth c A Q ls C hret hl h
  have hx := C.1.1
  have hb := C.1.2.1
  have hl : lv_has ls 2 [(0, .ref (a 0))] := hl
  unfold f_mo_save at hf
  refine lv_aload_n hx hb (pc := 0) dX8_save_0 rfl (lv_at hl 0 rfl) ?_
  refine x_get C h (pc := 1) xf_X8_69 0 rfl (v := iv M_edits) rfl dX8_save_1 ?_
  refine x_bipush C (pc := 4) dX8_save_4 (by decide) ?_
  obtain ⟨g_1, hf⟩ := og_some hf
  refine x_icmpne C (pc := 6) (tgt := 50) g_1 ⟨by decide, by decide⟩ dX8_save_6 rfl (fun hc => ?_) (fun hc => ?_)
  · have hf := oi_f hf hc
    refine x_iconst C (pc := 50) dX8_save_50 ?_
    refine lv_istore_n hx hb (pc := 51) (lv' := [(1, iv 0), (0, .ref (a 0))]) dX8_save_51 rfl hl (Nat.le_of_ble_eq_true rfl) rfl (fun ls hl => ?_)
    exact w_mo_save_52 C a M_typed M_readRows M_readColumns M_top M_bottom M_left M_right M_panes M_now Res hret N M_edits N 0 M_past _ _ _ (lv_sub hl [1, 0] rfl) h hf
  · have hf := oi_t hf hc
    refine x_iconst C (pc := 9) dX8_save_9 ?_
    refine lv_istore_n hx hb (pc := 10) (lv' := [(1, iv 0), (0, .ref (a 0))]) dX8_save_10 rfl hl (Nat.le_of_ble_eq_true rfl) rfl (fun ls hl => ?_)
    exact w_mo_save_11 C a M_typed M_readRows M_readColumns M_top M_bottom M_left M_right M_panes M_now Res hret N M_edits N 0 M_past _ _ _ (lv_sub hl [1, 0] rfl) h hf
abbrev rm_mo_undo : Room := { frames := 0, cells := 0, slots := 0, locals := 0 }
set_option maxHeartbeats 4000000 in
set_option maxRecDepth 100000 in
theorem w_mo_undo_22 {p : Program} {l : Launch} {e : Env} {s : State} {m : MethodId} {args : Array Value} {below : List Frame} {meth : Method} {c : Code} {Q : State → Prop} {D : va_G} {cI cJ cZ cO : ClassId} {A : Nat → Prop} {H0 : Heap} {w0 : Cond} (C : XC p s m args c cX8_undo 2 RX8 w0 D (xT cI cJ cZ cO)) (a : Nat → Nat) (M_typed : Int) (M_readRows : Int) (M_readColumns : Int) (M_top : Int) (M_bottom : Int) (M_left : Int) (M_right : Int) (M_panes : Int) (M_past : Int → Int) (Res : Int × Int × (Int → Int)) (hret : XRI p l e rm_mo_undo s m args below meth c cX8_undo D A H0 Q Res.1 [((a 0), oM a Res.2.1 M_typed M_readRows M_readColumns M_top M_bottom M_left M_right M_panes), ((a 1), aI cI 151 Res.2.2), ((a 2), aI cI 1208 M_past)]) (N : Nat) (M_edits : Int) : ∀ (n : Nat) (l1 : Int) (M_now : Int → Int) (ls : Array Slot) (H : Heap) (locs : List Loc), lv_has ls 2 [(0, .ref (a 0)), (1, iv l1)] → XH D A H0 [((a 0), oM a M_edits M_typed M_readRows M_readColumns M_top M_bottom M_left M_right M_panes), ((a 1), aI cI 151 M_now), ((a 2), aI cI 1208 M_past)] H locs → f_mo_undo_22 N M_edits M_past n l1 M_now = some Res → W p l e rm_mo_undo s m args below meth c H locs 0 0 Q (F0 m 22 ls []) := by
  have hx := C.1.1
  have hb := C.1.2.1
  intro n
  induction n with
  | zero => intro l1 M_now ls H locs hl h hf; cases hf
  | succ n ih =>
    intro l1 M_now ls H locs hl h hf
    rw [f_mo_undo_22.eq_2] at hf
    refine lv_iload_n hx hb (pc := 22) dX8_undo_22 rfl (lv_at hl 1 rfl) ?_
    refine x_sipush C (pc := 23) dX8_undo_23 (by decide) ?_
    obtain ⟨g_3, hf⟩ := og_some hf
    refine x_icmpge C (pc := 26) (tgt := 56) g_3 ⟨by decide, by decide⟩ dX8_undo_26 rfl (fun hc => ?_) (fun hc => ?_)
    · have hf := oi_t hf hc
      refine lv_aload_n hx hb (pc := 56) dX8_undo_56 rfl (lv_at hl 0 rfl) ?_
      refine x_get C h (pc := 57) xf_X8_69 0 rfl (v := iv M_edits) rfl dX8_undo_57 ?_
      have e9 := Option.some.inj hf
      subst e9
      exact hret _ _ _ _ dX8_undo_60 h
    · have hf := oi_f hf hc
      refine lv_aload_n hx hb (pc := 29) dX8_undo_29 rfl (lv_at hl 0 rfl) ?_
      refine x_get C h (pc := 30) xf_X8_7 0 rfl (v := .ref (a 1)) rfl dX8_undo_30 ?_
      refine lv_iload_n hx hb (pc := 33) dX8_undo_33 rfl (lv_at hl 1 rfl) ?_
      refine lv_aload_n hx hb (pc := 34) dX8_undo_34 rfl (lv_at hl 0 rfl) ?_
      refine x_get C h (pc := 35) xf_X8_13 0 rfl (v := .ref (a 2)) rfl dX8_undo_35 ?_
      refine x_sipush C (pc := 38) dX8_undo_38 (by decide) ?_
      refine lv_aload_n hx hb (pc := 41) dX8_undo_41 rfl (lv_at hl 0 rfl) ?_
      refine x_get C h (pc := 42) xf_X8_69 0 rfl (v := iv M_edits) rfl dX8_undo_42 ?_
      refine x_imul C (pc := 45) dX8_undo_45 ?_
      refine lv_iload_n hx hb (pc := 46) dX8_undo_46 rfl (lv_at hl 1 rfl) ?_
      refine x_iadd C (pc := 47) dX8_undo_47 ?_
      obtain ⟨g_4, hf⟩ := og_some hf
      refine x_iald C h (pc := 48) 2 0 rfl rfl (Nat.le_of_ble_eq_true rfl) g_4 dX8_undo_48 ?_
      obtain ⟨g_5, hf⟩ := og_some hf
      obtain ⟨M_now_6, eM_now_6, hf⟩ := ol_some hf
      refine x_iast C h (pc := 49) (ws' := [((a 0), oM a M_edits M_typed M_readRows M_readColumns M_top M_bottom M_left M_right M_panes), ((a 1), aI cI 151 M_now_6), ((a 2), aI cI 1208 M_past)]) 1 0 rfl rfl (Nat.le_of_ble_eq_true rfl) g_5 eM_now_6 rfl dX8_undo_49 (fun H locs h => ?_)
      obtain ⟨l1_7, el1_7, hf⟩ := ol_some hf
      refine x_iinc C (pc := 50) (k := 1) (lw' := [(1, iv l1_7), (0, .ref (a 0))]) dX8_undo_50 hl rfl el1_7 (Nat.le_of_ble_eq_true rfl) rfl (fun ls hl => ?_)
      refine lv_goto hx hb (pc := 53) (tgt := 22) dX8_undo_53 rfl ?_
      exact ih l1_7 M_now_6 _ _ _ (lv_sub hl [1, 0] rfl) h hf
set_option maxHeartbeats 4000000 in
set_option maxRecDepth 100000 in
theorem c_mo_undo (l : Launch) (D : va_G) (cI cJ cZ cO : ClassId) (a : Nat → Nat) (M_edits : Int) (M_typed : Int) (M_readRows : Int) (M_readColumns : Int) (M_top : Int) (M_bottom : Int) (M_left : Int) (M_right : Int) (M_panes : Int) (M_now : Int → Int) (M_past : Int → Int) (N : Nat) (Res : Int × Int × (Int → Int)) (hf : f_mo_undo N M_edits M_now M_past = some Res) : CoI l D (xT cI cJ cZ cO) yX8_undo cX8_undo 2 (some .int) rm_mo_undo [.ref (a 0)] [((a 0), oM a M_edits M_typed M_readRows M_readColumns M_top M_bottom M_left M_right M_panes), ((a 1), aI cI 151 M_now), ((a 2), aI cI 1208 M_past)] Res.1 [((a 0), oM a Res.2.1 M_typed M_readRows M_readColumns M_top M_bottom M_left M_right M_panes), ((a 1), aI cI 151 Res.2.2), ((a 2), aI cI 1208 M_past)] := by
  refine co_i (by decide) ⟨rfl, rfl⟩ (Nat.le_of_ble_eq_true rfl) ?_
  intro p e s m args below meth c A Q ls C hret hl h
  have hx := C.1.1
  have hb := C.1.2.1
  have hl : lv_has ls 2 [(0, .ref (a 0))] := hl
  unfold f_mo_undo at hf
  refine lv_aload_n hx hb (pc := 0) dX8_undo_0 rfl (lv_at hl 0 rfl) ?_
  refine x_get C h (pc := 1) xf_X8_69 0 rfl (v := iv M_edits) rfl dX8_undo_1 ?_
  obtain ⟨g_1, hf⟩ := og_some hf
  refine x_ifne C (pc := 4) (tgt := 10) g_1 dX8_undo_4 rfl (fun hc => ?_) (fun hc => ?_)
  · have hf := oi_f hf hc
    refine lv_aload_n hx hb (pc := 10) dX8_undo_10 rfl (lv_at hl 0 rfl) ?_
    refine lv_dup hx hb (pc := 11) dX8_undo_11 rfl ?_
    refine x_get C h (pc := 12) xf_X8_69 0 rfl (v := iv M_edits) rfl dX8_undo_12 ?_
    refine x_iconst C (pc := 15) dX8_undo_15 ?_
    refine x_isub C (pc := 16) dX8_undo_16 ?_
    obtain ⟨M_edits_2, eM_edits_2, hf⟩ := ol_some hf
    refine x_topi eM_edits_2 ?_
    refine x_puti C h (pc := 17) (ws' := [((a 0), oM a M_edits_2 M_typed M_readRows M_readColumns M_top M_bottom M_left M_right M_panes), ((a 1), aI cI 151 M_now), ((a 2), aI cI 1208 M_past)]) xf_X8_69 xp_X8 rfl 0 rfl rfl (Nat.le_of_ble_eq_true rfl) rfl dX8_undo_17 (fun H locs h => ?_)
    refine x_iconst C (pc := 20) dX8_undo_20 ?_
    refine lv_istore_n hx hb (pc := 21) (lv' := [(1, iv 0), (0, .ref (a 0))]) dX8_undo_21 rfl hl (Nat.le_of_ble_eq_true rfl) rfl (fun ls hl => ?_)
    exact w_mo_undo_22 C a M_typed M_readRows M_readColumns M_top M_bottom M_left M_right M_panes M_past Res hret N M_edits_2 N 0 M_now _ _ _ (lv_sub hl [1, 0] rfl) h hf
  · have hf := oi_t hf hc
    refine x_bipush C (pc := 7) dX8_undo_7 (by decide) ?_
    have e9 := Option.some.inj hf
    subst e9
    exact hret _ _ _ _ dX8_undo_9 h
abbrev rm_mo_changed : Room := { frames := 1, cells := 0, slots := 0, locals := 21 }
set_option maxHeartbeats 4000000 in
set_option maxRecDepth 100000 in
theorem c_mo_changed (l : Launch) (D : va_G) (cI cJ cZ cO : ClassId) (a : Nat → Nat) (M_edits : Int) (M_typed : Int) (M_readRows : Int) (M_readColumns : Int) (M_top : Int) (M_bottom : Int) (M_left : Int) (M_right : Int) (M_panes : Int) (M_now : Int → Int) (M_past : Int → Int) (l1 : Int) (l2 : Int) (N : Nat) (Res : Int × Int × (Int → Int) × (Int → Int)) (hf : f_mo_changed N l1 l2 M_edits M_now M_past = some Res) : CoI l D (xT cI cJ cZ cO) yX8_changed cX8_changed 4 (some .int) rm_mo_changed [.ref (a 0), iv l1, iv l2] [((a 0), oM a M_edits M_typed M_readRows M_readColumns M_top M_bottom M_left M_right M_panes), ((a 1), aI cI 151 M_now), ((a 2), aI cI 1208 M_past)] Res.1 [((a 0), oM a Res.2.1 M_typed M_readRows M_readColumns M_top M_bottom M_left M_right M_panes), ((a 1), aI cI 151 Res.2.2.1), ((a 2), aI cI 1208 Res.2.2.2)] := by
  refine co_i (by decide) ⟨rfl, rfl⟩ (Nat.le_of_ble_eq_true rfl) ?_
  intro p e s m args below meth c A Q ls C hret hl h
  have hx := C.1.1
  have hb := C.1.2.1
  have hl : lv_has ls 4 [(0, .ref (a 0)), (1, iv l1), (2, iv l2)] := hl
  unfold f_mo_changed at hf
  refine lv_aload_n hx hb (pc := 0) dX8_changed_0 rfl (lv_at hl 0 rfl) ?_
  obtain ⟨q_1, hq_1, hf⟩ := ob_some hf
  refine x_callVv C h (pc := 1) hl (c_mo_save l D cI cJ cZ cO a M_edits M_typed M_readRows M_readColumns M_top M_bottom M_left M_right M_panes M_now M_past N q_1 hq_1) xv_X8_save lk_X8_73 ⟨(Nat.le_of_ble_eq_true rfl), (Nat.le_of_ble_eq_true rfl)⟩ rfl [0, 1, 2] [] (nw := 3) (wr := []) (as := [(a 0), (a 1), (a 2)]) (ws' := [((a 0), oM a q_1.1 M_typed M_readRows M_readColumns M_top M_bottom M_left M_right M_panes), ((a 1), aI cI 151 M_now), ((a 2), aI cI 1208 q_1.2)]) rfl rfl rfl rfl rfl rfl rfl rfl rfl 0 rfl rfl rfl rfl (Nat.le_of_ble_eq_true rfl) dX8_changed_1 (fun H locs h => ?_)
  refine lv_aload_n hx hb (pc := 4) dX8_changed_4 rfl (lv_at hl 0 rfl) ?_
  refine x_get C h (pc := 5) xf_X8_7 0 rfl (v := .ref (a 1)) rfl dX8_changed_5 ?_
  refine lv_iload_n hx hb (pc := 8) dX8_changed_8 rfl (lv_at hl 1 rfl) ?_
  obtain ⟨g_2, hf⟩ := og_some hf
  refine x_iald C h (pc := 9) 1 0 rfl rfl (Nat.le_of_ble_eq_true rfl) g_2 dX8_changed_9 ?_
  obtain ⟨l3_3, el3_3, hf⟩ := ol_some hf
  refine x_topi el3_3 ?_
  refine lv_istore_n hx hb (pc := 10) (lv' := [(3, iv l3_3), (0, .ref (a 0)), (1, iv l1), (2, iv l2)]) dX8_changed_10 rfl hl (Nat.le_of_ble_eq_true rfl) rfl (fun ls hl => ?_)
  refine lv_aload_n hx hb (pc := 11) dX8_changed_11 rfl (lv_at hl 1 rfl) ?_
  refine x_get C h (pc := 12) xf_X8_7 0 rfl (v := .ref (a 1)) rfl dX8_changed_12 ?_
  refine lv_iload_n hx hb (pc := 15) dX8_changed_15 rfl (lv_at hl 2 rfl) ?_
  refine lv_iload_n hx hb (pc := 16) dX8_changed_16 rfl (lv_at hl 3 rfl) ?_
  obtain ⟨M_now_4, eM_now_4, hf⟩ := ol_some hf
  refine x_iast C h (pc := 17) (ws' := [((a 0), oM a q_1.1 M_typed M_readRows M_readColumns M_top M_bottom M_left M_right M_panes), ((a 1), aI cI 151 M_now_4), ((a 2), aI cI 1208 q_1.2)]) 1 0 rfl rfl (Nat.le_of_ble_eq_true rfl) g_2 eM_now_4 rfl dX8_changed_17 (fun H locs h => ?_)
  refine lv_iload_n hx hb (pc := 18) dX8_changed_18 rfl (lv_at hl 0 rfl) ?_
  have e9 := Option.some.inj hf
  subst e9
  exact hret _ _ _ _ dX8_changed_19 h
abbrev rm_mo_appendCharacter : Room := { frames := 1, cells := 0, slots := 0, locals := 22 }
set_option maxHeartbeats 4000000 in
set_option maxRecDepth 100000 in
theorem c_mo_appendCharacter (l : Launch) (D : va_G) (cI cJ cZ cO : ClassId) (a : Nat → Nat) (M_edits : Int) (M_typed : Int) (M_readRows : Int) (M_readColumns : Int) (M_top : Int) (M_bottom : Int) (M_left : Int) (M_right : Int) (M_panes : Int) (M_text : Int → Int) (l1 : Int) (N : Nat) (Res : Int × Int × (Int → Int)) (hf : f_mo_appendCharacter N l1 M_typed M_text = some Res) : CoI l D (xT cI cJ cZ cO) yX8_appendCharacter cX8_appendCharacter 2 (some .int) rm_mo_appendCharacter [.ref (a 0), iv l1] [((a 0), oM a M_edits M_typed M_readRows M_readColumns M_top M_bottom M_left M_right M_panes), ((a 3), aI cI 80 M_text)] Res.1 [((a 0), oM a M_edits Res.2.1 M_readRows M_readColumns M_top M_bottom M_left M_right M_panes), ((a 3), aI cI 80 Res.2.2)] := by
  refine co_i (by decide) ⟨rfl, rfl⟩ (Nat.le_of_ble_eq_true rfl) ?_
  intro p e s m args below meth c A Q ls C hret hl h
  have hx := C.1.1
  have hb := C.1.2.1
  have hl : lv_has ls 2 [(0, .ref (a 0)), (1, iv l1)] := hl
  unfold f_mo_appendCharacter at hf
  refine lv_iload_n hx hb (pc := 0) dX8_appendCharacter_0 rfl (lv_at hl 1 rfl) ?_
  refine x_iconst C (pc := 1) dX8_appendCharacter_1 ?_
  refine x_sipush C (pc := 2) dX8_appendCharacter_2 (by decide) ?_
  obtain ⟨q_1, hq_1, hf⟩ := ob_some hf
  refine x_callSi C h (pc := 5) hl (c_mo_in l D cI cJ cZ cO a l1 0 255 N q_1 hq_1) xs_X8_in lk_X8_65 ⟨(Nat.le_of_ble_eq_true rfl), (Nat.le_of_ble_eq_true rfl)⟩ rfl [] [0, 1] (nw := 2) (wr := [((a 0), oM a M_edits M_typed M_readRows M_readColumns M_top M_bottom M_left M_right M_panes), ((a 3), aI cI 80 M_text)]) (as := [(a 0), (a 3)]) (ws' := [((a 0), oM a M_edits M_typed M_readRows M_readColumns M_top M_bottom M_left M_right M_panes), ((a 3), aI cI 80 M_text)]) rfl rfl rfl rfl rfl rfl rfl rfl rfl rfl (Nat.le_of_ble_eq_true rfl) dX8_appendCharacter_5 (fun H locs h => ?_)
  obtain ⟨g_2, hf⟩ := og_some hf
  refine x_ifne C (pc := 8) (tgt := 13) g_2 dX8_appendCharacter_8 rfl (fun hc => ?_) (fun hc => ?_)
  · have hf := oi_f hf hc
    refine lv_aload_n hx hb (pc := 13) dX8_appendCharacter_13 rfl (lv_at hl 0 rfl) ?_
    refine x_get C h (pc := 14) xf_X8_76 0 rfl (v := iv M_typed) rfl dX8_appendCharacter_14 ?_
    refine x_bipush C (pc := 17) dX8_appendCharacter_17 (by decide) ?_
    obtain ⟨g_3, hf⟩ := og_some hf
    refine x_icmpne C (pc := 19) (tgt := 25) g_3 ⟨by decide, by decide⟩ dX8_appendCharacter_19 rfl (fun hc => ?_) (fun hc => ?_)
    · have hf := oi_f hf hc
      refine lv_aload_n hx hb (pc := 25) dX8_appendCharacter_25 rfl (lv_at hl 0 rfl) ?_
      refine x_get C h (pc := 26) xf_X8_16 0 rfl (v := .ref (a 3)) rfl dX8_appendCharacter_26 ?_
      refine lv_aload_n hx hb (pc := 29) dX8_appendCharacter_29 rfl (lv_at hl 0 rfl) ?_
      refine x_get C h (pc := 30) xf_X8_76 0 rfl (v := iv M_typed) rfl dX8_appendCharacter_30 ?_
      refine lv_iload_n hx hb (pc := 33) dX8_appendCharacter_33 rfl (lv_at hl 1 rfl) ?_
      obtain ⟨g_4, hf⟩ := og_some hf
      obtain ⟨M_text_5, eM_text_5, hf⟩ := ol_some hf
      refine x_iast C h (pc := 34) (ws' := [((a 0), oM a M_edits M_typed M_readRows M_readColumns M_top M_bottom M_left M_right M_panes), ((a 3), aI cI 80 M_text_5)]) 1 0 rfl rfl (Nat.le_of_ble_eq_true rfl) g_4 eM_text_5 rfl dX8_appendCharacter_34 (fun H locs h => ?_)
      refine lv_aload_n hx hb (pc := 35) dX8_appendCharacter_35 rfl (lv_at hl 0 rfl) ?_
      refine lv_dup hx hb (pc := 36) dX8_appendCharacter_36 rfl ?_
      refine x_get C h (pc := 37) xf_X8_76 0 rfl (v := iv M_typed) rfl dX8_appendCharacter_37 ?_
      refine x_iconst C (pc := 40) dX8_appendCharacter_40 ?_
      refine x_iadd C (pc := 41) dX8_appendCharacter_41 ?_
      obtain ⟨M_typed_6, eM_typed_6, hf⟩ := ol_some hf
      refine x_topi eM_typed_6 ?_
      refine x_puti C h (pc := 42) (ws' := [((a 0), oM a M_edits M_typed_6 M_readRows M_readColumns M_top M_bottom M_left M_right M_panes), ((a 3), aI cI 80 M_text_5)]) xf_X8_76 xp_X8 rfl 0 rfl rfl (Nat.le_of_ble_eq_true rfl) rfl dX8_appendCharacter_42 (fun H locs h => ?_)
      refine lv_aload_n hx hb (pc := 45) dX8_appendCharacter_45 rfl (lv_at hl 0 rfl) ?_
      refine x_get C h (pc := 46) xf_X8_76 0 rfl (v := iv M_typed_6) rfl dX8_appendCharacter_46 ?_
      have e9 := Option.some.inj hf
      subst e9
      exact hret _ _ _ _ dX8_appendCharacter_49 h
    · have hf := oi_t hf hc
      refine x_bipush C (pc := 22) dX8_appendCharacter_22 (by decide) ?_
      have e9 := Option.some.inj hf
      subst e9
      exact hret _ _ _ _ dX8_appendCharacter_24 h
  · have hf := oi_t hf hc
    refine x_iconst C (pc := 11) dX8_appendCharacter_11 ?_
    have e9 := Option.some.inj hf
    subst e9
    exact hret _ _ _ _ dX8_appendCharacter_12 h
abbrev rm_mo_clearText : Room := { frames := 0, cells := 0, slots := 0, locals := 0 }
set_option maxHeartbeats 4000000 in
set_option maxRecDepth 100000 in
theorem c_mo_clearText (l : Launch) (D : va_G) (cI cJ cZ cO : ClassId) (a : Nat → Nat) (M_edits : Int) (M_typed : Int) (M_readRows : Int) (M_readColumns : Int) (M_top : Int) (M_bottom : Int) (M_left : Int) (M_right : Int) (M_panes : Int) (N : Nat) (Res : Int × Int) (hf : f_mo_clearText N M_typed = some Res) : CoI l D (xT cI cJ cZ cO) yX8_clearText cX8_clearText 2 (some .int) rm_mo_clearText [.ref (a 0)] [((a 0), oM a M_edits M_typed M_readRows M_readColumns M_top M_bottom M_left M_right M_panes)] Res.1 [((a 0), oM a M_edits Res.2 M_readRows M_readColumns M_top M_bottom M_left M_right M_panes)] := by
  refine co_i (by decide) ⟨rfl, rfl⟩ (Nat.le_of_ble_eq_true rfl) ?_
  intro p e s m args below meth c A Q ls C hret hl h
  have hx := C.1.1
  have hb := C.1.2.1
  have hl : lv_has ls 2 [(0, .ref (a 0))] := hl
  unfold f_mo_clearText at hf
  refine lv_aload_n hx hb (pc := 0) dX8_clearText_0 rfl (lv_at hl 0 rfl) ?_
  refine x_get C h (pc := 1) xf_X8_76 0 rfl (v := iv M_typed) rfl dX8_clearText_1 ?_
  refine lv_istore_n hx hb (pc := 4) (lv' := [(1, iv M_typed), (0, .ref (a 0))]) dX8_clearText_4 rfl hl (Nat.le_of_ble_eq_true rfl) rfl (fun ls hl => ?_)
  refine lv_aload_n hx hb (pc := 5) dX8_clearText_5 rfl (lv_at hl 1 rfl) ?_
  refine x_iconst C (pc := 6) dX8_clearText_6 ?_
  refine x_puti C h (pc := 7) (ws' := [((a 0), oM a M_edits 0 M_readRows M_readColumns M_top M_bottom M_left M_right M_panes)]) xf_X8_76 xp_X8 rfl 0 rfl rfl (Nat.le_of_ble_eq_true rfl) rfl dX8_clearText_7 (fun H locs h => ?_)
  refine lv_iload_n hx hb (pc := 10) dX8_clearText_10 rfl (lv_at hl 0 rfl) ?_
  have e9 := Option.some.inj hf
  subst e9
  exact hret _ _ _ _ dX8_clearText_11 h
abbrev rm_mo_reads : Room := { frames := 1, cells := 0, slots := 0, locals := 22 }
set_option maxHeartbeats 4000000 in
set_option maxRecDepth 100000 in
theorem w_mo_reads_170 {p : Program} {l : Launch} {e : Env} {s : State} {m : MethodId} {args : Array Value} {below : List Frame} {meth : Method} {c : Code} {Q : State → Prop} {D : va_G} {cI cJ cZ cO : ClassId} {A : Nat → Prop} {H0 : Heap} {w0 : Cond} (C : XC p s m args c cX8_reads 5 RX8 w0 D (xT cI cJ cZ cO)) (a : Nat → Nat) (M_edits : Int) (M_typed : Int) (M_top : Int) (M_bottom : Int) (M_left : Int) (M_right : Int) (M_panes : Int) (M_text : Int → Int) (Res : Int × Int × Int × (Int → Int)) (hret : XRI p l e rm_mo_reads s m args below meth c cX8_reads D A H0 Q Res.1 [((a 0), oM a M_edits M_typed Res.2.1 Res.2.2.1 M_top M_bottom M_left M_right M_panes), ((a 3), aI cI 80 M_text), ((a 4), aI cI 49 Res.2.2.2)]) (N : Nat) : ∀ (M_readRows : Int) (M_readColumns : Int) (M_read : Int → Int) (ls : Array Slot) (H : Heap) (locs : List Loc), lv_has ls 5 [(0, .ref (a 0))] → XH D A H0 [((a 0), oM a M_edits M_typed M_readRows M_readColumns M_top M_bottom M_left M_right M_panes), ((a 3), aI cI 80 M_text), ((a 4), aI cI 49 M_read)] H locs → f_mo_reads_170 N M_typed M_readRows M_readColumns M_read = some Res → W p l e rm_mo_reads s m args below meth c H locs 0 0 Q (F0 m 170 ls []) := by
  have hx := C.1.1
  have hb := C.1.2.1
  intro M_readRows M_readColumns M_read ls H locs hl h hf
  unfold f_mo_reads_170 at hf
  refine lv_aload_n hx hb (pc := 170) dX8_reads_170 rfl (lv_at hl 0 rfl) ?_
  refine x_get C h (pc := 171) xf_X8_76 0 rfl (v := iv M_typed) rfl dX8_reads_171 ?_
  refine lv_goto hx hb (pc := 174) (tgt := 178) dX8_reads_174 rfl ?_
  have e9 := Option.some.inj hf
  subst e9
  exact hret _ _ _ _ dX8_reads_178 h
set_option maxHeartbeats 4000000 in
set_option maxRecDepth 100000 in
theorem w_mo_reads_131 {p : Program} {l : Launch} {e : Env} {s : State} {m : MethodId} {args : Array Value} {below : List Frame} {meth : Method} {c : Code} {Q : State → Prop} {D : va_G} {cI cJ cZ cO : ClassId} {A : Nat → Prop} {H0 : Heap} {w0 : Cond} (C : XC p s m args c cX8_reads 5 RX8 w0 D (xT cI cJ cZ cO)) (a : Nat → Nat) (M_edits : Int) (M_typed : Int) (M_top : Int) (M_bottom : Int) (M_left : Int) (M_right : Int) (M_panes : Int) (M_text : Int → Int) (Res : Int × Int × Int × (Int → Int)) (hret : XRI p l e rm_mo_reads s m args below meth c cX8_reads D A H0 Q Res.1 [((a 0), oM a M_edits M_typed Res.2.1 Res.2.2.1 M_top M_bottom M_left M_right M_panes), ((a 3), aI cI 80 M_text), ((a 4), aI cI 49 Res.2.2.2)]) (N : Nat) (k14 : Int → Int → Int → Int → (Int → Int) → Option (Int × Int × Int × (Int → Int))) (hk14 : ∀ (l1' : Int) (l2' : Int) (M_readRows' : Int) (M_readColumns' : Int) (M_read' : Int → Int) (ls : Array Slot) (H : Heap) (locs : List Loc), lv_has ls 5 [(0, .ref (a 0)), (1, iv l1'), (2, iv l2')] → XH D A H0 [((a 0), oM a M_edits M_typed M_readRows' M_readColumns' M_top M_bottom M_left M_right M_panes), ((a 3), aI cI 80 M_text), ((a 4), aI cI 49 M_read')] H locs → k14 l1' l2' M_readRows' M_readColumns' M_read' = some Res → W p l e rm_mo_reads s m args below meth c H locs 0 0 Q (F0 m 14 ls [])) : ∀ (l1 : Int) (l2 : Int) (M_readRows : Int) (M_readColumns : Int) (M_read : Int → Int) (ls : Array Slot) (H : Heap) (locs : List Loc), lv_has ls 5 [(0, .ref (a 0)), (1, iv l1), (2, iv l2)] → XH D A H0 [((a 0), oM a M_edits M_typed M_readRows M_readColumns M_top M_bottom M_left M_right M_panes), ((a 3), aI cI 80 M_text), ((a 4), aI cI 49 M_read)] H locs → f_mo_reads_131 N M_typed M_text k14 l1 l2 M_readRows M_readColumns M_read = some Res → W p l e rm_mo_reads s m args below meth c H locs 0 0 Q (F0 m 131 ls []) := by
  have hx := C.1.1
  have hb := C.1.2.1
  intro l1 l2 M_readRows M_readColumns M_read ls H locs hl h hf
  unfold f_mo_reads_131 at hf
  refine lv_aload_n hx hb (pc := 131) dX8_reads_131 rfl (lv_at hl 0 rfl) ?_
  refine lv_iload_n hx hb (pc := 132) dX8_reads_132 rfl (lv_at hl 1 rfl) ?_
  refine x_puti C h (pc := 133) (ws' := [((a 0), oM a M_edits M_typed M_readRows l1 M_top M_bottom M_left M_right M_panes), ((a 3), aI cI 80 M_text), ((a 4), aI cI 49 M_read)]) xf_X8_82 xp_X8 rfl 0 rfl rfl (Nat.le_of_ble_eq_true rfl) rfl dX8_reads_133 (fun H locs h => ?_)
  refine lv_aload_n hx hb (pc := 136) dX8_reads_136 rfl (lv_at hl 0 rfl) ?_
  refine lv_dup hx hb (pc := 137) dX8_reads_137 rfl ?_
  refine x_get C h (pc := 138) xf_X8_79 0 rfl (v := iv M_readRows) rfl dX8_reads_138 ?_
  refine x_iconst C (pc := 141) dX8_reads_141 ?_
  refine x_iadd C (pc := 142) dX8_reads_142 ?_
  obtain ⟨M_readRows_48, eM_readRows_48, hf⟩ := ol_some hf
  refine x_topi eM_readRows_48 ?_
  refine x_puti C h (pc := 143) (ws' := [((a 0), oM a M_edits M_typed M_readRows_48 l1 M_top M_bottom M_left M_right M_panes), ((a 3), aI cI 80 M_text), ((a 4), aI cI 49 M_read)]) xf_X8_79 xp_X8 rfl 0 rfl rfl (Nat.le_of_ble_eq_true rfl) rfl dX8_reads_143 (fun H locs h => ?_)
  refine x_iconst C (pc := 146) dX8_reads_146 ?_
  refine lv_istore_n hx hb (pc := 147) (lv' := [(1, iv 0), (0, .ref (a 0)), (2, iv l2)]) dX8_reads_147 rfl hl (Nat.le_of_ble_eq_true rfl) rfl (fun ls hl => ?_)
  refine lv_goto hx hb (pc := 148) (tgt := 153) dX8_reads_148 rfl ?_
  obtain ⟨l2_49, el2_49, hf⟩ := ol_some hf
  refine x_iinc C (pc := 153) (k := 2) (lw' := [(2, iv l2_49), (1, iv 0), (0, .ref (a 0))]) dX8_reads_153 hl rfl el2_49 (Nat.le_of_ble_eq_true rfl) rfl (fun ls hl => ?_)
  refine lv_goto hx hb (pc := 156) (tgt := 14) dX8_reads_156 rfl ?_
  exact hk14 0 l2_49 M_readRows_48 l1 M_read _ _ _ (lv_sub hl [2, 1, 0] rfl) h hf
set_option maxHeartbeats 4000000 in
set_option maxRecDepth 100000 in
theorem w_mo_reads_106 {p : Program} {l : Launch} {e : Env} {s : State} {m : MethodId} {args : Array Value} {below : List Frame} {meth : Method} {c : Code} {Q : State → Prop} {D : va_G} {cI cJ cZ cO : ClassId} {A : Nat → Prop} {H0 : Heap} {w0 : Cond} (C : XC p s m args c cX8_reads 5 RX8 w0 D (xT cI cJ cZ cO)) (a : Nat → Nat) (M_edits : Int) (M_typed : Int) (M_top : Int) (M_bottom : Int) (M_left : Int) (M_right : Int) (M_panes : Int) (M_text : Int → Int) (Res : Int × Int × Int × (Int → Int)) (hret : XRI p l e rm_mo_reads s m args below meth c cX8_reads D A H0 Q Res.1 [((a 0), oM a M_edits M_typed Res.2.1 Res.2.2.1 M_top M_bottom M_left M_right M_panes), ((a 3), aI cI 80 M_text), ((a 4), aI cI 49 Res.2.2.2)]) (N : Nat) (k14 : Int → Int → Int → Int → (Int → Int) → Option (Int × Int × Int × (Int → Int))) (hk14 : ∀ (l1' : Int) (l2' : Int) (M_readRows' : Int) (M_readColumns' : Int) (M_read' : Int → Int) (ls : Array Slot) (H : Heap) (locs : List Loc), lv_has ls 5 [(0, .ref (a 0)), (1, iv l1'), (2, iv l2')] → XH D A H0 [((a 0), oM a M_edits M_typed M_readRows' M_readColumns' M_top M_bottom M_left M_right M_panes), ((a 3), aI cI 80 M_text), ((a 4), aI cI 49 M_read')] H locs → k14 l1' l2' M_readRows' M_readColumns' M_read' = some Res → W p l e rm_mo_reads s m args below meth c H locs 0 0 Q (F0 m 14 ls [])) : ∀ (l1 : Int) (l2 : Int) (l3 : Int) (M_readRows : Int) (M_readColumns : Int) (M_read : Int → Int) (ls : Array Slot) (H : Heap) (locs : List Loc), lv_has ls 5 [(0, .ref (a 0)), (1, iv l1), (2, iv l2), (3, iv l3)] → XH D A H0 [((a 0), oM a M_edits M_typed M_readRows M_readColumns M_top M_bottom M_left M_right M_panes), ((a 3), aI cI 80 M_text), ((a 4), aI cI 49 M_read)] H locs → f_mo_reads_106 N M_typed M_text k14 l1 l2 l3 M_readRows M_readColumns M_read = some Res → W p l e rm_mo_reads s m args below meth c H locs 0 0 Q (F0 m 106 ls []) := by
  have hx := C.1.1
  have hb := C.1.2.1
  intro l1 l2 l3 M_readRows M_readColumns M_read ls H locs hl h hf
  unfold f_mo_reads_106 at hf
  refine lv_iload_n hx hb (pc := 106) dX8_reads_106 rfl (lv_at hl 3 rfl) ?_
  refine x_bipush C (pc := 107) dX8_reads_107 (by decide) ?_
  obtain ⟨g_44, hf⟩ := og_some hf
  refine x_icmpne C (pc := 109) (tgt := 151) g_44 ⟨by decide, by decide⟩ dX8_reads_109 rfl (fun hc => ?_) (fun hc => ?_)
  · have hf := oi_f hf hc
    refine lv_iload_n hx hb (pc := 151) dX8_reads_151 rfl (lv_at hl 2 rfl) ?_
    have e9 := Option.some.inj hf
    subst e9
    exact hret _ _ _ _ dX8_reads_152 h
  · have hf := oi_t hf hc
    refine lv_iload_n hx hb (pc := 112) dX8_reads_112 rfl (lv_at hl 1 rfl) ?_
    obtain ⟨g_45, hf⟩ := og_some hf
    refine x_ifle C (pc := 113) (tgt := 151) g_45 dX8_reads_113 rfl (fun hc => ?_) (fun hc => ?_)
    · have hf := oi_t hf hc
      refine lv_iload_n hx hb (pc := 151) dX8_reads_151 rfl (lv_at hl 2 rfl) ?_
      have e9 := Option.some.inj hf
      subst e9
      exact hret _ _ _ _ dX8_reads_152 h
    · have hf := oi_f hf hc
      refine lv_aload_n hx hb (pc := 116) dX8_reads_116 rfl (lv_at hl 0 rfl) ?_
      refine x_get C h (pc := 117) xf_X8_79 0 rfl (v := iv M_readRows) rfl dX8_reads_117 ?_
      obtain ⟨g_46, hf⟩ := og_some hf
      refine x_ifeq C (pc := 120) (tgt := 131) g_46 dX8_reads_120 rfl (fun hc => ?_) (fun hc => ?_)
      · have hf := oi_t hf hc
        exact w_mo_reads_131 C a M_edits M_typed M_top M_bottom M_left M_right M_panes M_text Res hret N k14 hk14 l1 l2 M_readRows M_readColumns M_read _ _ _ (lv_sub hl [0, 1, 2] rfl) h hf
      · have hf := oi_f hf hc
        refine lv_iload_n hx hb (pc := 123) dX8_reads_123 rfl (lv_at hl 1 rfl) ?_
        refine lv_aload_n hx hb (pc := 124) dX8_reads_124 rfl (lv_at hl 0 rfl) ?_
        refine x_get C h (pc := 125) xf_X8_82 0 rfl (v := iv M_readColumns) rfl dX8_reads_125 ?_
        obtain ⟨g_47, hf⟩ := og_some hf
        refine x_icmpne C (pc := 128) (tgt := 151) g_45 g_47 dX8_reads_128 rfl (fun hc => ?_) (fun hc => ?_)
        · have hf := oi_f hf hc
          refine lv_iload_n hx hb (pc := 151) dX8_reads_151 rfl (lv_at hl 2 rfl) ?_
          have e9 := Option.some.inj hf
          subst e9
          exact hret _ _ _ _ dX8_reads_152 h
        · have hf := oi_t hf hc
          exact w_mo_reads_131 C a M_edits M_typed M_top M_bottom M_left M_right M_panes M_text Res hret N k14 hk14 l1 l2 M_readRows M_readColumns M_read _ _ _ (lv_sub hl [0, 1, 2] rfl) h hf
set_option maxHeartbeats 4000000 in
set_option maxRecDepth 100000 in
theorem w_mo_reads_14 {p : Program} {l : Launch} {e : Env} {s : State} {m : MethodId} {args : Array Value} {below : List Frame} {meth : Method} {c : Code} {Q : State → Prop} {D : va_G} {cI cJ cZ cO : ClassId} {A : Nat → Prop} {H0 : Heap} {w0 : Cond} (C : XC p s m args c cX8_reads 5 RX8 w0 D (xT cI cJ cZ cO)) (a : Nat → Nat) (M_edits : Int) (M_typed : Int) (M_top : Int) (M_bottom : Int) (M_left : Int) (M_right : Int) (M_panes : Int) (M_text : Int → Int) (Res : Int × Int × Int × (Int → Int)) (hret : XRI p l e rm_mo_reads s m args below meth c cX8_reads D A H0 Q Res.1 [((a 0), oM a M_edits M_typed Res.2.1 Res.2.2.1 M_top M_bottom M_left M_right M_panes), ((a 3), aI cI 80 M_text), ((a 4), aI cI 49 Res.2.2.2)]) (N : Nat) : ∀ (n : Nat) (l1 : Int) (l2 : Int) (M_readRows : Int) (M_readColumns : Int) (M_read : Int → Int) (ls : Array Slot) (H : Heap) (locs : List Loc), lv_has ls 5 [(0, .ref (a 0)), (1, iv l1), (2, iv l2)] → XH D A H0 [((a 0), oM a M_edits M_typed M_readRows M_readColumns M_top M_bottom M_left M_right M_panes), ((a 3), aI cI 80 M_text), ((a 4), aI cI 49 M_read)] H locs → f_mo_reads_14 N M_typed M_text n l1 l2 M_readRows M_readColumns M_read = some Res → W p l e rm_mo_reads s m args below meth c H locs 0 0 Q (F0 m 14 ls []) := by
  have hx := C.1.1
  have hb := C.1.2.1
  intro n
  induction n with
  | zero => intro l1 l2 M_readRows M_readColumns M_read ls H locs hl h hf; cases hf
  | succ n ih =>
    intro l1 l2 M_readRows M_readColumns M_read ls H locs hl h hf
    rw [f_mo_reads_14.eq_2] at hf
    refine lv_iload_n hx hb (pc := 14) dX8_reads_14 rfl (lv_at hl 2 rfl) ?_
    refine lv_aload_n hx hb (pc := 15) dX8_reads_15 rfl (lv_at hl 0 rfl) ?_
    refine x_get C h (pc := 16) xf_X8_76 0 rfl (v := iv M_typed) rfl dX8_reads_16 ?_
    obtain ⟨g_26, hf⟩ := og_some hf
    obtain ⟨g_27, hf⟩ := og_some hf
    refine x_icmpge C (pc := 19) (tgt := 159) g_26 g_27 dX8_reads_19 rfl (fun hc => ?_) (fun hc => ?_)
    · have hf := oi_t hf hc
      refine lv_aload_n hx hb (pc := 159) dX8_reads_159 rfl (lv_at hl 0 rfl) ?_
      refine x_get C h (pc := 160) xf_X8_79 0 rfl (v := iv M_readRows) rfl dX8_reads_160 ?_
      obtain ⟨g_28, hf⟩ := og_some hf
      refine x_ifeq C (pc := 163) (tgt := 170) g_28 dX8_reads_163 rfl (fun hc => ?_) (fun hc => ?_)
      · have hf := oi_t hf hc
        exact w_mo_reads_170 C a M_edits M_typed M_top M_bottom M_left M_right M_panes M_text Res hret N M_readRows M_readColumns M_read _ _ _ (lv_sub hl [0] rfl) h hf
      · have hf := oi_f hf hc
        refine lv_iload_n hx hb (pc := 166) dX8_reads_166 rfl (lv_at hl 1 rfl) ?_
        obtain ⟨g_29, hf⟩ := og_some hf
        refine x_ifle C (pc := 167) (tgt := 177) g_29 dX8_reads_167 rfl (fun hc => ?_) (fun hc => ?_)
        · have hf := oi_t hf hc
          refine x_iconst C (pc := 177) dX8_reads_177 ?_
          have e9 := Option.some.inj hf
          subst e9
          exact hret _ _ _ _ dX8_reads_178 h
        · have hf := oi_f hf hc
          exact w_mo_reads_170 C a M_edits M_typed M_top M_bottom M_left M_right M_panes M_text Res hret N M_readRows M_readColumns M_read _ _ _ (lv_sub hl [0] rfl) h hf
    · have hf := oi_f hf hc
      refine lv_aload_n hx hb (pc := 22) dX8_reads_22 rfl (lv_at hl 0 rfl) ?_
      refine x_get C h (pc := 23) xf_X8_16 0 rfl (v := .ref (a 3)) rfl dX8_reads_23 ?_
      refine lv_iload_n hx hb (pc := 26) dX8_reads_26 rfl (lv_at hl 2 rfl) ?_
      obtain ⟨g_30, hf⟩ := og_some hf
      refine x_iald C h (pc := 27) 1 0 rfl rfl (Nat.le_of_ble_eq_true rfl) g_30 dX8_reads_27 ?_
      obtain ⟨l3_31, el3_31, hf⟩ := ol_some hf
      refine x_topi el3_31 ?_
      refine lv_istore_n hx hb (pc := 28) (lv' := [(3, iv l3_31), (0, .ref (a 0)), (1, iv l1), (2, iv l2)]) dX8_reads_28 rfl hl (Nat.le_of_ble_eq_true rfl) rfl (fun ls hl => ?_)
      refine lv_aload_n hx hb (pc := 29) dX8_reads_29 rfl (lv_at hl 1 rfl) ?_
      refine x_get C h (pc := 30) xf_X8_79 0 rfl (v := iv M_readRows) rfl dX8_reads_30 ?_
      obtain ⟨g_32, hf⟩ := og_some hf
      obtain ⟨r_33, hrr_33, hf⟩ := ob_some hf
      have Jr_33 : ∀ (ls : Array Slot) (H : Heap) (locs : List Loc), lv_has ls 5 [(0, .ref (a 0)), (1, iv l1), (2, iv l2), (3, iv l3_31)] → XH D A H0 [((a 0), oM a M_edits M_typed M_readRows M_readColumns M_top M_bottom M_left M_right M_panes), ((a 3), aI cI 80 M_text), ((a 4), aI cI 49 M_read)] H locs → W p l e rm_mo_reads s m args below meth c H locs 0 0 Q (F0 m 45 ls [iv r_33]) := by
        intro ls H locs hl h
        refine lv_istore hx hb (pc := 45) (lv' := [(4, iv r_33), (0, .ref (a 0)), (1, iv l1), (2, iv l2), (3, iv l3_31)]) dX8_reads_45 hl (Nat.le_of_ble_eq_true rfl) rfl (fun ls hl => ?_)
        refine lv_iload_n hx hb (pc := 47) dX8_reads_47 rfl (lv_at hl 4 rfl) ?_
        refine x_bipush C (pc := 48) dX8_reads_48 (by decide) ?_
        obtain ⟨g_34, hf⟩ := og_some hf
        refine x_icmpne C (pc := 50) (tgt := 56) g_34 ⟨by decide, by decide⟩ dX8_reads_50 rfl (fun hc => ?_) (fun hc => ?_)
        · have hf := oi_f hf hc
          refine lv_iload_n hx hb (pc := 56) dX8_reads_56 rfl (lv_at hl 4 rfl) ?_
          refine x_bipush C (pc := 57) dX8_reads_57 (by decide) ?_
          refine x_bipush C (pc := 59) dX8_reads_59 (by decide) ?_
          obtain ⟨q_35, hq_35, hf⟩ := ob_some hf
          refine x_callSi C h (pc := 61) hl (c_mo_in l D cI cJ cZ cO a l3_31 48 53 N q_35 hq_35) xs_X8_in lk_X8_65 ⟨(Nat.le_of_ble_eq_true rfl), (Nat.le_of_ble_eq_true rfl)⟩ rfl [] [0, 1, 2] (nw := 3) (wr := [((a 0), oM a M_edits M_typed M_readRows M_readColumns M_top M_bottom M_left M_right M_panes), ((a 3), aI cI 80 M_text), ((a 4), aI cI 49 M_read)]) (as := [(a 0), (a 3), (a 4)]) (ws' := [((a 0), oM a M_edits M_typed M_readRows M_readColumns M_top M_bottom M_left M_right M_panes), ((a 3), aI cI 80 M_text), ((a 4), aI cI 49 M_read)]) rfl rfl rfl rfl rfl rfl rfl rfl rfl rfl (Nat.le_of_ble_eq_true rfl) dX8_reads_61 (fun H locs h => ?_)
          obtain ⟨g_36, hf⟩ := og_some hf
          refine x_ifeq C (pc := 64) (tgt := 106) g_36 dX8_reads_64 rfl (fun hc => ?_) (fun hc => ?_)
          · have hf := oi_t hf hc
            exact w_mo_reads_106 C a M_edits M_typed M_top M_bottom M_left M_right M_panes M_text Res hret N (f_mo_reads_14 N M_typed M_text n) ih l1 l2 l3_31 M_readRows M_readColumns M_read _ _ _ (lv_sub hl [1, 2, 3, 4] rfl) h hf
          · have hf := oi_f hf hc
            refine lv_aload_n hx hb (pc := 67) dX8_reads_67 rfl (lv_at hl 1 rfl) ?_
            refine x_get C h (pc := 68) xf_X8_79 0 rfl (v := iv M_readRows) rfl dX8_reads_68 ?_
            refine x_bipush C (pc := 71) dX8_reads_71 (by decide) ?_
            refine x_icmpge C (pc := 73) (tgt := 106) g_32 ⟨by decide, by decide⟩ dX8_reads_73 rfl (fun hc => ?_) (fun hc => ?_)
            · have hf := oi_t hf hc
              exact w_mo_reads_106 C a M_edits M_typed M_top M_bottom M_left M_right M_panes M_text Res hret N (f_mo_reads_14 N M_typed M_text n) ih l1 l2 l3_31 M_readRows M_readColumns M_read _ _ _ (lv_sub hl [1, 2, 3, 4] rfl) h hf
            · have hf := oi_f hf hc
              refine lv_iload_n hx hb (pc := 76) dX8_reads_76 rfl (lv_at hl 2 rfl) ?_
              refine lv_iload hx hb (pc := 77) dX8_reads_77 (lv_at hl 0 rfl) ?_
              obtain ⟨g_37, hf⟩ := og_some hf
              obtain ⟨g_38, hf⟩ := og_some hf
              refine x_icmpge C (pc := 79) (tgt := 106) g_37 g_38 dX8_reads_79 rfl (fun hc => ?_) (fun hc => ?_)
              · have hf := oi_t hf hc
                exact w_mo_reads_106 C a M_edits M_typed M_top M_bottom M_left M_right M_panes M_text Res hret N (f_mo_reads_14 N M_typed M_text n) ih l1 l2 l3_31 M_readRows M_readColumns M_read _ _ _ (lv_sub hl [1, 2, 3, 4] rfl) h hf
              · have hf := oi_f hf hc
                refine lv_aload_n hx hb (pc := 82) dX8_reads_82 rfl (lv_at hl 1 rfl) ?_
                refine x_get C h (pc := 83) xf_X8_19 0 rfl (v := .ref (a 4)) rfl dX8_reads_83 ?_
                refine x_bipush C (pc := 86) dX8_reads_86 (by decide) ?_
                refine lv_aload_n hx hb (pc := 88) dX8_reads_88 rfl (lv_at hl 1 rfl) ?_
                refine x_get C h (pc := 89) xf_X8_79 0 rfl (v := iv M_readRows) rfl dX8_reads_89 ?_
                refine x_imul C (pc := 92) dX8_reads_92 ?_
                refine lv_iload_n hx hb (pc := 93) dX8_reads_93 rfl (lv_at hl 2 rfl) ?_
                refine x_iadd C (pc := 94) dX8_reads_94 ?_
                refine lv_iload_n hx hb (pc := 95) dX8_reads_95 rfl (lv_at hl 4 rfl) ?_
                refine x_bipush C (pc := 96) dX8_reads_96 (by decide) ?_
                refine x_isub C (pc := 98) dX8_reads_98 ?_
                obtain ⟨g_39, hf⟩ := og_some hf
                obtain ⟨M_read_40, eM_read_40, hf⟩ := ol_some hf
                refine x_iast C h (pc := 99) (ws' := [((a 0), oM a M_edits M_typed M_readRows M_readColumns M_top M_bottom M_left M_right M_panes), ((a 3), aI cI 80 M_text), ((a 4), aI cI 49 M_read_40)]) 2 0 rfl rfl (Nat.le_of_ble_eq_true rfl) g_39 eM_read_40 rfl dX8_reads_99 (fun H locs h => ?_)
                obtain ⟨l1_41, el1_41, hf⟩ := ol_some hf
                refine x_iinc C (pc := 100) (k := 2) (lw' := [(1, iv l1_41), (4, iv r_33), (0, .ref (a 0)), (2, iv l2), (3, iv l3_31)]) dX8_reads_100 hl rfl el1_41 (Nat.le_of_ble_eq_true rfl) rfl (fun ls hl => ?_)
                refine lv_goto hx hb (pc := 103) (tgt := 153) dX8_reads_103 rfl ?_
                obtain ⟨l2_42, el2_42, hf⟩ := ol_some hf
                refine x_iinc C (pc := 153) (k := 3) (lw' := [(2, iv l2_42), (1, iv l1_41), (4, iv r_33), (0, .ref (a 0)), (3, iv l3_31)]) dX8_reads_153 hl rfl el2_42 (Nat.le_of_ble_eq_true rfl) rfl (fun ls hl => ?_)
                refine lv_goto hx hb (pc := 156) (tgt := 14) dX8_reads_156 rfl ?_
                exact ih l1_41 l2_42 M_readRows M_readColumns M_read_40 _ _ _ (lv_sub hl [3, 1, 0] rfl) h hf
        · have hf := oi_t hf hc
          refine lv_goto hx hb (pc := 53) (tgt := 153) dX8_reads_53 rfl ?_
          obtain ⟨l2_43, el2_43, hf⟩ := ol_some hf
          refine x_iinc C (pc := 153) (k := 3) (lw' := [(2, iv l2_43), (4, iv r_33), (0, .ref (a 0)), (1, iv l1), (3, iv l3_31)]) dX8_reads_153 hl rfl el2_43 (Nat.le_of_ble_eq_true rfl) rfl (fun ls hl => ?_)
          refine lv_goto hx hb (pc := 156) (tgt := 14) dX8_reads_156 rfl ?_
          exact ih l1 l2_43 M_readRows M_readColumns M_read _ _ _ (lv_sub hl [2, 3, 0] rfl) h hf
      clear hf
      have hf := hrr_33
      refine x_ifne C (pc := 33) (tgt := 41) g_32 dX8_reads_33 rfl (fun hc => ?_) (fun hc => ?_)
      · have hf := oi_f hf hc
        refine lv_aload_n hx hb (pc := 41) dX8_reads_41 rfl (lv_at hl 1 rfl) ?_
        refine x_get C h (pc := 42) xf_X8_82 0 rfl (v := iv M_readColumns) rfl dX8_reads_42 ?_
        have e9 := Option.some.inj hf
        subst e9
        exact Jr_33 _ _ _ (lv_sub hl [1, 2, 3, 0] rfl) h
      · have hf := oi_t hf hc
        refine x_bipush C (pc := 36) dX8_reads_36 (by decide) ?_
        refine lv_goto hx hb (pc := 38) (tgt := 45) dX8_reads_38 rfl ?_
        have e9 := Option.some.inj hf
        subst e9
        exact Jr_33 _ _ _ (lv_sub hl [1, 2, 3, 0] rfl) h
set_option maxHeartbeats 4000000 in
set_option maxRecDepth 100000 in
theorem c_mo_reads (l : Launch) (D : va_G) (cI cJ cZ cO : ClassId) (a : Nat → Nat) (M_edits : Int) (M_typed : Int) (M_readRows : Int) (M_readColumns : Int) (M_top : Int) (M_bottom : Int) (M_left : Int) (M_right : Int) (M_panes : Int) (M_text : Int → Int) (M_read : Int → Int) (N : Nat) (Res : Int × Int × Int × (Int → Int)) (hf : f_mo_reads N M_typed M_readRows M_readColumns M_text M_read = some Res) : CoI l D (xT cI cJ cZ cO) yX8_reads cX8_reads 5 (some .int) rm_mo_reads [.ref (a 0)] [((a 0), oM a M_edits M_typed M_readRows M_readColumns M_top M_bottom M_left M_right M_panes), ((a 3), aI cI 80 M_text), ((a 4), aI cI 49 M_read)] Res.1 [((a 0), oM a M_edits M_typed Res.2.1 Res.2.2.1 M_top M_bottom M_left M_right M_panes), ((a 3), aI cI 80 M_text), ((a 4), aI cI 49 Res.2.2.2)] := by
  refine co_i (by decide) ⟨rfl, rfl⟩ (Nat.le_of_ble_eq_true rfl) ?_
  intro p e s m args below meth c A Q ls C hret hl h
  have hx := C.1.1
  have hb := C.1.2.1
  have hl : lv_has ls 5 [(0, .ref (a 0))] := hl
  unfold f_mo_reads at hf
  refine lv_aload_n hx hb (pc := 0) dX8_reads_0 rfl (lv_at hl 0 rfl) ?_
  refine x_iconst C (pc := 1) dX8_reads_1 ?_
  refine x_puti C h (pc := 2) (ws' := [((a 0), oM a M_edits M_typed 0 M_readColumns M_top M_bottom M_left M_right M_panes), ((a 3), aI cI 80 M_text), ((a 4), aI cI 49 M_read)]) xf_X8_79 xp_X8 rfl 0 rfl rfl (Nat.le_of_ble_eq_true rfl) rfl dX8_reads_2 (fun H locs h => ?_)
  refine lv_aload_n hx hb (pc := 5) dX8_reads_5 rfl (lv_at hl 0 rfl) ?_
  refine x_iconst C (pc := 6) dX8_reads_6 ?_
  refine x_puti C h (pc := 7) (ws' := [((a 0), oM a M_edits M_typed 0 0 M_top M_bottom M_left M_right M_panes), ((a 3), aI cI 80 M_text), ((a 4), aI cI 49 M_read)]) xf_X8_82 xp_X8 rfl 0 rfl rfl (Nat.le_of_ble_eq_true rfl) rfl dX8_reads_7 (fun H locs h => ?_)
  refine x_iconst C (pc := 10) dX8_reads_10 ?_
  refine lv_istore_n hx hb (pc := 11) (lv' := [(1, iv 0), (0, .ref (a 0))]) dX8_reads_11 rfl hl (Nat.le_of_ble_eq_true rfl) rfl (fun ls hl => ?_)
  refine x_iconst C (pc := 12) dX8_reads_12 ?_
  refine lv_istore_n hx hb (pc := 13) (lv' := [(2, iv 0), (1, iv 0), (0, .ref (a 0))]) dX8_reads_13 rfl hl (Nat.le_of_ble_eq_true rfl) rfl (fun ls hl => ?_)
  exact w_mo_reads_14 C a M_edits M_typed M_top M_bottom M_left M_right M_panes M_text Res hret N N 0 0 0 0 M_read _ _ _ (lv_sub hl [2, 1, 0] rfl) h hf
abbrev rm_mo_step : Room := { frames := 0, cells := 0, slots := 0, locals := 0 }
set_option maxHeartbeats 4000000 in
set_option maxRecDepth 100000 in
theorem c_mo_step (l : Launch) (D : va_G) (cI cJ cZ cO : ClassId) (a : Nat → Nat) (l0 : Int) (N : Nat) (Res : Int) (hf : f_mo_step N l0 = some Res) : CoI l D (xT cI cJ cZ cO) yX8_step cX8_step 1 (some .int) rm_mo_step [iv l0] [] Res [] := by
  refine co_i (by decide) ⟨rfl, rfl⟩ (Nat.le_of_ble_eq_true rfl) ?_
  intro p e s m args below meth c A Q ls C hret hl h
  have hx := C.1.1
  have hb := C.1.2.1
  have hl : lv_has ls 1 [(0, iv l0)] := hl
  unfold f_mo_step at hf
  refine lv_iload_n hx hb (pc := 0) dX8_step_0 rfl (lv_at hl 0 rfl) ?_
  obtain ⟨g_1, hf⟩ := og_some hf
  refine x_ifne C (pc := 1) (tgt := 8) g_1 dX8_step_1 rfl (fun hc => ?_) (fun hc => ?_)
  · have hf := oi_f hf hc
    refine x_bipush C (pc := 8) dX8_step_8 (by decide) ?_
    have e9 := Option.some.inj hf
    subst e9
    exact hret _ _ _ _ dX8_step_10 h
  · have hf := oi_t hf hc
    refine x_iconst C (pc := 4) dX8_step_4 ?_
    refine lv_goto hx hb (pc := 5) (tgt := 10) dX8_step_5 rfl ?_
    have e9 := Option.some.inj hf
    subst e9
    exact hret _ _ _ _ dX8_step_10 h
abbrev rm_mo_hasNext : Room := { frames := 0, cells := 0, slots := 0, locals := 0 }
set_option maxHeartbeats 4000000 in
set_option maxRecDepth 100000 in
theorem c_mo_hasNext (l : Launch) (D : va_G) (cI cJ cZ cO : ClassId) (a : Nat → Nat) (M_edits : Int) (M_typed : Int) (M_readRows : Int) (M_readColumns : Int) (M_top : Int) (M_bottom : Int) (M_left : Int) (M_right : Int) (M_panes : Int) (M_now : Int → Int) (l1 : Int) (l2 : Int) (N : Nat) (Res : Int) (hf : f_mo_hasNext N l1 l2 M_now = some Res) : CoI l D (xT cI cJ cZ cO) yX8_hasNext cX8_hasNext 3 (some .boolean) rm_mo_hasNext [.ref (a 0), iv l1, iv l2] [((a 0), oM a M_edits M_typed M_readRows M_readColumns M_top M_bottom M_left M_right M_panes), ((a 1), aI cI 151 M_now)] Res [((a 0), oM a M_edits M_typed M_readRows M_readColumns M_top M_bottom M_left M_right M_panes), ((a 1), aI cI 151 M_now)] := by
  refine co_z (by decide) ⟨rfl, rfl⟩ (Nat.le_of_ble_eq_true rfl) ?_
  intro p e s m args below meth c A Q ls C hret hl h
  have hx := C.1.1
  have hb := C.1.2.1
  have hl : lv_has ls 3 [(0, .ref (a 0)), (1, iv l1), (2, iv l2)] := hl
  unfold f_mo_hasNext at hf
  refine lv_iload_n hx hb (pc := 0) dX8_hasNext_0 rfl (lv_at hl 2 rfl) ?_
  obtain ⟨g_1, hf⟩ := og_some hf
  refine x_ifne C (pc := 1) (tgt := 27) g_1 dX8_hasNext_1 rfl (fun hc => ?_) (fun hc => ?_)
  · have hf := oi_f hf hc
    refine lv_iload_n hx hb (pc := 27) dX8_hasNext_27 rfl (lv_at hl 1 rfl) ?_
    refine x_bipush C (pc := 28) dX8_hasNext_28 (by decide) ?_
    obtain ⟨g_2, hf⟩ := og_some hf
    refine x_idiv C (pc := 30) g_2 ⟨by decide, by decide⟩ dX8_hasNext_30 ?_
    refine x_iconst C (pc := 31) dX8_hasNext_31 ?_
    refine x_iadd C (pc := 32) dX8_hasNext_32 ?_
    refine lv_aload_n hx hb (pc := 33) dX8_hasNext_33 rfl (lv_at hl 0 rfl) ?_
    refine x_get C h (pc := 34) xf_X8_7 0 rfl (v := .ref (a 1)) rfl dX8_hasNext_34 ?_
    refine x_iconst C (pc := 37) dX8_hasNext_37 ?_
    refine x_iald C h (pc := 38) 1 0 rfl rfl (Nat.le_of_ble_eq_true rfl) ⟨by decide, by decide⟩ dX8_hasNext_38 ?_
    obtain ⟨g_3, hf⟩ := og_some hf
    obtain ⟨g_4, hf⟩ := og_some hf
    refine x_icmpge C (pc := 39) (tgt := 46) g_3 g_4 dX8_hasNext_39 rfl (fun hc => ?_) (fun hc => ?_)
    · have hf := oi_t hf hc
      refine x_iconst C (pc := 46) dX8_hasNext_46 ?_
      have e9 := Option.some.inj hf
      subst e9
      exact hret _ _ _ _ (Or.inl rfl) dX8_hasNext_47 h
    · have hf := oi_f hf hc
      refine x_iconst C (pc := 42) dX8_hasNext_42 ?_
      refine lv_goto hx hb (pc := 43) (tgt := 47) dX8_hasNext_43 rfl ?_
      have e9 := Option.some.inj hf
      subst e9
      exact hret _ _ _ _ (Or.inr rfl) dX8_hasNext_47 h
  · have hf := oi_t hf hc
    refine lv_iload_n hx hb (pc := 4) dX8_hasNext_4 rfl (lv_at hl 1 rfl) ?_
    refine x_bipush C (pc := 5) dX8_hasNext_5 (by decide) ?_
    obtain ⟨g_5, hf⟩ := og_some hf
    refine x_irem C (pc := 7) g_5 ⟨by decide, by decide⟩ dX8_hasNext_7 ?_
    refine x_iconst C (pc := 8) dX8_hasNext_8 ?_
    refine x_iadd C (pc := 9) dX8_hasNext_9 ?_
    refine lv_aload_n hx hb (pc := 10) dX8_hasNext_10 rfl (lv_at hl 0 rfl) ?_
    refine x_get C h (pc := 11) xf_X8_7 0 rfl (v := .ref (a 1)) rfl dX8_hasNext_11 ?_
    refine x_iconst C (pc := 14) dX8_hasNext_14 ?_
    refine x_iald C h (pc := 15) 1 0 rfl rfl (Nat.le_of_ble_eq_true rfl) ⟨by decide, by decide⟩ dX8_hasNext_15 ?_
    obtain ⟨g_6, hf⟩ := og_some hf
    obtain ⟨g_7, hf⟩ := og_some hf
    refine x_icmpge C (pc := 16) (tgt := 23) g_6 g_7 dX8_hasNext_16 rfl (fun hc => ?_) (fun hc => ?_)
    · have hf := oi_t hf hc
      refine x_iconst C (pc := 23) dX8_hasNext_23 ?_
      refine lv_goto hx hb (pc := 24) (tgt := 47) dX8_hasNext_24 rfl ?_
      have e9 := Option.some.inj hf
      subst e9
      exact hret _ _ _ _ (Or.inl rfl) dX8_hasNext_47 h
    · have hf := oi_f hf hc
      refine x_iconst C (pc := 19) dX8_hasNext_19 ?_
      refine lv_goto hx hb (pc := 20) (tgt := 47) dX8_hasNext_20 rfl ?_
      have e9 := Option.some.inj hf
      subst e9
      exact hret _ _ _ _ (Or.inr rfl) dX8_hasNext_47 h
abbrev rm_mo_joins : Room := { frames := 1, cells := 0, slots := 0, locals := 22 }
set_option maxHeartbeats 4000000 in
set_option maxRecDepth 100000 in
theorem c_mo_joins (l : Launch) (D : va_G) (cI cJ cZ cO : ClassId) (a : Nat → Nat) (M_edits : Int) (M_typed : Int) (M_readRows : Int) (M_readColumns : Int) (M_top : Int) (M_bottom : Int) (M_left : Int) (M_right : Int) (M_panes : Int) (M_now : Int → Int) (l1 : Int) (l2 : Int) (N : Nat) (Res : Int) (hf : f_mo_joins N l1 l2 M_now = some Res) : CoI l D (xT cI cJ cZ cO) yX8_joins cX8_joins 3 (some .boolean) rm_mo_joins [.ref (a 0), iv l1, iv l2] [((a 0), oM a M_edits M_typed M_readRows M_readColumns M_top M_bottom M_left M_right M_panes), ((a 1), aI cI 151 M_now)] Res [((a 0), oM a M_edits M_typed M_readRows M_readColumns M_top M_bottom M_left M_right M_panes), ((a 1), aI cI 151 M_now)] := by
  refine co_z (by decide) ⟨rfl, rfl⟩ (Nat.le_of_ble_eq_true rfl) ?_
  intro p e s m args below meth c A Q ls C hret hl h
  have hx := C.1.1
  have hb := C.1.2.1
  have hl : lv_has ls 3 [(0, .ref (a 0)), (1, iv l1), (2, iv l2)] := hl
  unfold f_mo_joins at hf
  refine lv_aload_n hx hb (pc := 0) dX8_joins_0 rfl (lv_at hl 0 rfl) ?_
  refine lv_iload_n hx hb (pc := 1) dX8_joins_1 rfl (lv_at hl 1 rfl) ?_
  refine lv_iload_n hx hb (pc := 2) dX8_joins_2 rfl (lv_at hl 2 rfl) ?_
  obtain ⟨q_1, hq_1, hf⟩ := ob_some hf
  refine x_callVi C h (pc := 3) hl (c_mo_hasNext l D cI cJ cZ cO a M_edits M_typed M_readRows M_readColumns M_top M_bottom M_left M_right M_panes M_now l1 l2 N q_1 hq_1) xv_X8_hasNext lk_X8_103 ⟨(Nat.le_of_ble_eq_true rfl), (Nat.le_of_ble_eq_true rfl)⟩ rfl [0, 1] [] (nw := 2) (wr := []) (as := [(a 0), (a 1)]) (ws' := [((a 0), oM a M_edits M_typed M_readRows M_readColumns M_top M_bottom M_left M_right M_panes), ((a 1), aI cI 151 M_now)]) rfl rfl rfl rfl rfl rfl rfl rfl rfl 0 rfl rfl rfl rfl (Nat.le_of_ble_eq_true rfl) dX8_joins_3 (fun H locs h => ?_)
  obtain ⟨g_2, hf⟩ := og_some hf
  refine x_ifeq C (pc := 6) (tgt := 54) g_2 dX8_joins_6 rfl (fun hc => ?_) (fun hc => ?_)
  · have hf := oi_t hf hc
    refine x_iconst C (pc := 54) dX8_joins_54 ?_
    have e9 := Option.some.inj hf
    subst e9
    exact hret _ _ _ _ (Or.inl rfl) dX8_joins_55 h
  · have hf := oi_f hf hc
    refine lv_aload_n hx hb (pc := 9) dX8_joins_9 rfl (lv_at hl 0 rfl) ?_
    refine x_get C h (pc := 10) xf_X8_7 0 rfl (v := .ref (a 1)) rfl dX8_joins_10 ?_
    refine x_iconst C (pc := 13) dX8_joins_13 ?_
    refine lv_iload_n hx hb (pc := 14) dX8_joins_14 rfl (lv_at hl 1 rfl) ?_
    refine x_iadd C (pc := 15) dX8_joins_15 ?_
    obtain ⟨g_3, hf⟩ := og_some hf
    refine x_iald C h (pc := 16) 1 0 rfl rfl (Nat.le_of_ble_eq_true rfl) g_3 dX8_joins_16 ?_
    refine lv_aload_n hx hb (pc := 17) dX8_joins_17 rfl (lv_at hl 0 rfl) ?_
    refine x_get C h (pc := 18) xf_X8_7 0 rfl (v := .ref (a 1)) rfl dX8_joins_18 ?_
    refine x_iconst C (pc := 21) dX8_joins_21 ?_
    refine lv_iload_n hx hb (pc := 22) dX8_joins_22 rfl (lv_at hl 1 rfl) ?_
    refine x_iadd C (pc := 23) dX8_joins_23 ?_
    refine lv_iload_n hx hb (pc := 24) dX8_joins_24 rfl (lv_at hl 2 rfl) ?_
    obtain ⟨q_4, hq_4, hf⟩ := ob_some hf
    refine x_callSi C h (pc := 25) hl (c_mo_step l D cI cJ cZ cO a l2 N q_4 hq_4) xs_X8_step lk_X8_106 ⟨(Nat.le_of_ble_eq_true rfl), (Nat.le_of_ble_eq_true rfl)⟩ rfl [] [0, 1] (nw := 2) (wr := [((a 0), oM a M_edits M_typed M_readRows M_readColumns M_top M_bottom M_left M_right M_panes), ((a 1), aI cI 151 M_now)]) (as := [(a 0), (a 1)]) (ws' := [((a 0), oM a M_edits M_typed M_readRows M_readColumns M_top M_bottom M_left M_right M_panes), ((a 1), aI cI 151 M_now)]) rfl rfl rfl rfl rfl rfl rfl rfl rfl rfl (Nat.le_of_ble_eq_true rfl) dX8_joins_25 (fun H locs h => ?_)
    refine x_iadd C (pc := 28) dX8_joins_28 ?_
    obtain ⟨g_5, hf⟩ := og_some hf
    refine x_iald C h (pc := 29) 1 0 rfl rfl (Nat.le_of_ble_eq_true rfl) g_5 dX8_joins_29 ?_
    obtain ⟨g_6, hf⟩ := og_some hf
    obtain ⟨g_7, hf⟩ := og_some hf
    refine x_icmpne C (pc := 30) (tgt := 54) g_6 g_7 dX8_joins_30 rfl (fun hc => ?_) (fun hc => ?_)
    · have hf := oi_f hf hc
      refine x_iconst C (pc := 54) dX8_joins_54 ?_
      have e9 := Option.some.inj hf
      subst e9
      exact hret _ _ _ _ (Or.inl rfl) dX8_joins_55 h
    · have hf := oi_t hf hc
      refine lv_aload_n hx hb (pc := 33) dX8_joins_33 rfl (lv_at hl 0 rfl) ?_
      refine x_get C h (pc := 34) xf_X8_7 0 rfl (v := .ref (a 1)) rfl dX8_joins_34 ?_
      refine x_bipush C (pc := 37) dX8_joins_37 (by decide) ?_
      refine x_bipush C (pc := 39) dX8_joins_39 (by decide) ?_
      refine lv_iload_n hx hb (pc := 41) dX8_joins_41 rfl (lv_at hl 2 rfl) ?_
      refine x_imul C (pc := 42) dX8_joins_42 ?_
      refine x_iadd C (pc := 43) dX8_joins_43 ?_
      refine lv_iload_n hx hb (pc := 44) dX8_joins_44 rfl (lv_at hl 1 rfl) ?_
      refine x_iadd C (pc := 45) dX8_joins_45 ?_
      obtain ⟨g_8, hf⟩ := og_some hf
      refine x_iald C h (pc := 46) 1 0 rfl rfl (Nat.le_of_ble_eq_true rfl) g_8 dX8_joins_46 ?_
      obtain ⟨g_9, hf⟩ := og_some hf
      refine x_ifne C (pc := 47) (tgt := 54) g_9 dX8_joins_47 rfl (fun hc => ?_) (fun hc => ?_)
      · have hf := oi_f hf hc
        refine x_iconst C (pc := 54) dX8_joins_54 ?_
        have e9 := Option.some.inj hf
        subst e9
        exact hret _ _ _ _ (Or.inl rfl) dX8_joins_55 h
      · have hf := oi_t hf hc
        refine x_iconst C (pc := 50) dX8_joins_50 ?_
        refine lv_goto hx hb (pc := 51) (tgt := 55) dX8_joins_51 rfl ?_
        have e9 := Option.some.inj hf
        subst e9
        exact hret _ _ _ _ (Or.inr rfl) dX8_joins_55 h
abbrev rm_mo_isCut : Room := { frames := 2, cells := 0, slots := 0, locals := 44 }
set_option maxHeartbeats 4000000 in
set_option maxRecDepth 100000 in
theorem c_mo_isCut (l : Launch) (D : va_G) (cI cJ cZ cO : ClassId) (a : Nat → Nat) (M_edits : Int) (M_typed : Int) (M_readRows : Int) (M_readColumns : Int) (M_top : Int) (M_bottom : Int) (M_left : Int) (M_right : Int) (M_panes : Int) (M_now : Int → Int) (l1 : Int) (l2 : Int) (l3 : Int) (N : Nat) (Res : Int) (hf : f_mo_isCut N l1 l2 l3 M_now = some Res) : CoI l D (xT cI cJ cZ cO) yX8_isCut cX8_isCut 4 (some .boolean) rm_mo_isCut [.ref (a 0), iv l1, iv l2, iv l3] [((a 0), oM a M_edits M_typed M_readRows M_readColumns M_top M_bottom M_left M_right M_panes), ((a 1), aI cI 151 M_now)] Res [((a 0), oM a M_edits M_typed M_readRows M_readColumns M_top M_bottom M_left M_right M_panes), ((a 1), aI cI 151 M_now)] := by
  refine co_z (by decide) ⟨rfl, rfl⟩ (Nat.le_of_ble_eq_true rfl) ?_
  intro p e s m args below meth c A Q ls C hret hl h
  have hx := C.1.1
  have hb := C.1.2.1
  have hl : lv_has ls 4 [(0, .ref (a 0)), (1, iv l1), (2, iv l2), (3, iv l3)] := hl
  unfold f_mo_isCut at hf
  refine lv_aload_n hx hb (pc := 0) dX8_isCut_0 rfl (lv_at hl 0 rfl) ?_
  refine lv_iload_n hx hb (pc := 1) dX8_isCut_1 rfl (lv_at hl 1 rfl) ?_
  refine lv_iload_n hx hb (pc := 2) dX8_isCut_2 rfl (lv_at hl 2 rfl) ?_
  obtain ⟨q_1, hq_1, hf⟩ := ob_some hf
  refine x_callVi C h (pc := 3) hl (c_mo_isCell l D cI cJ cZ cO a M_edits M_typed M_readRows M_readColumns M_top M_bottom M_left M_right M_panes M_now l1 l2 N q_1 hq_1) xv_X8_isCell lk_X8_95 ⟨(Nat.le_of_ble_eq_true rfl), (Nat.le_of_ble_eq_true rfl)⟩ rfl [0, 1] [] (nw := 2) (wr := []) (as := [(a 0), (a 1)]) (ws' := [((a 0), oM a M_edits M_typed M_readRows M_readColumns M_top M_bottom M_left M_right M_panes), ((a 1), aI cI 151 M_now)]) rfl rfl rfl rfl rfl rfl rfl rfl rfl 0 rfl rfl rfl rfl (Nat.le_of_ble_eq_true rfl) dX8_isCut_3 (fun H locs h => ?_)
  obtain ⟨g_2, hf⟩ := og_some hf
  refine x_ifeq C (pc := 6) (tgt := 36) g_2 dX8_isCut_6 rfl (fun hc => ?_) (fun hc => ?_)
  · have hf := oi_t hf hc
    refine x_iconst C (pc := 36) dX8_isCut_36 ?_
    have e9 := Option.some.inj hf
    subst e9
    exact hret _ _ _ _ (Or.inl rfl) dX8_isCut_37 h
  · have hf := oi_f hf hc
    refine lv_iload_n hx hb (pc := 9) dX8_isCut_9 rfl (lv_at hl 3 rfl) ?_
    refine x_iconst C (pc := 10) dX8_isCut_10 ?_
    refine x_iconst C (pc := 11) dX8_isCut_11 ?_
    obtain ⟨q_3, hq_3, hf⟩ := ob_some hf
    refine x_callSi C h (pc := 12) hl (c_mo_in l D cI cJ cZ cO a l3 0 1 N q_3 hq_3) xs_X8_in lk_X8_65 ⟨(Nat.le_of_ble_eq_true rfl), (Nat.le_of_ble_eq_true rfl)⟩ rfl [] [0, 1] (nw := 2) (wr := [((a 0), oM a M_edits M_typed M_readRows M_readColumns M_top M_bottom M_left M_right M_panes), ((a 1), aI cI 151 M_now)]) (as := [(a 0), (a 1)]) (ws' := [((a 0), oM a M_edits M_typed M_readRows M_readColumns M_top M_bottom M_left M_right M_panes), ((a 1), aI cI 151 M_now)]) rfl rfl rfl rfl rfl rfl rfl rfl rfl rfl (Nat.le_of_ble_eq_true rfl) dX8_isCut_12 (fun H locs h => ?_)
    obtain ⟨g_4, hf⟩ := og_some hf
    refine x_ifeq C (pc := 15) (tgt := 36) g_4 dX8_isCut_15 rfl (fun hc => ?_) (fun hc => ?_)
    · have hf := oi_t hf hc
      refine x_iconst C (pc := 36) dX8_isCut_36 ?_
      have e9 := Option.some.inj hf
      subst e9
      exact hret _ _ _ _ (Or.inl rfl) dX8_isCut_37 h
    · have hf := oi_f hf hc
      refine lv_aload_n hx hb (pc := 18) dX8_isCut_18 rfl (lv_at hl 0 rfl) ?_
      refine x_bipush C (pc := 19) dX8_isCut_19 (by decide) ?_
      refine lv_iload_n hx hb (pc := 21) dX8_isCut_21 rfl (lv_at hl 1 rfl) ?_
      refine x_imul C (pc := 22) dX8_isCut_22 ?_
      refine lv_iload_n hx hb (pc := 23) dX8_isCut_23 rfl (lv_at hl 2 rfl) ?_
      refine x_iadd C (pc := 24) dX8_isCut_24 ?_
      refine lv_iload_n hx hb (pc := 25) dX8_isCut_25 rfl (lv_at hl 3 rfl) ?_
      obtain ⟨q_5, hq_5, hf⟩ := ob_some hf
      refine x_callVi C h (pc := 26) hl (c_mo_hasNext l D cI cJ cZ cO a M_edits M_typed M_readRows M_readColumns M_top M_bottom M_left M_right M_panes M_now ((7 * l1) + l2) l3 N q_5 hq_5) xv_X8_hasNext lk_X8_103 ⟨(Nat.le_of_ble_eq_true rfl), (Nat.le_of_ble_eq_true rfl)⟩ rfl [0, 1] [] (nw := 2) (wr := []) (as := [(a 0), (a 1)]) (ws' := [((a 0), oM a M_edits M_typed M_readRows M_readColumns M_top M_bottom M_left M_right M_panes), ((a 1), aI cI 151 M_now)]) rfl rfl rfl rfl rfl rfl rfl rfl rfl 0 rfl rfl rfl rfl (Nat.le_of_ble_eq_true rfl) dX8_isCut_26 (fun H locs h => ?_)
      obtain ⟨g_6, hf⟩ := og_some hf
      refine x_ifeq C (pc := 29) (tgt := 36) g_6 dX8_isCut_29 rfl (fun hc => ?_) (fun hc => ?_)
      · have hf := oi_t hf hc
        refine x_iconst C (pc := 36) dX8_isCut_36 ?_
        have e9 := Option.some.inj hf
        subst e9
        exact hret _ _ _ _ (Or.inl rfl) dX8_isCut_37 h
      · have hf := oi_f hf hc
        refine x_iconst C (pc := 32) dX8_isCut_32 ?_
        refine lv_goto hx hb (pc := 33) (tgt := 37) dX8_isCut_33 rfl ?_
        have e9 := Option.some.inj hf
        subst e9
        exact hret _ _ _ _ (Or.inr rfl) dX8_isCut_37 h
abbrev rm_mo_cuts : Room := { frames := 0, cells := 0, slots := 0, locals := 0 }
set_option maxHeartbeats 4000000 in
set_option maxRecDepth 100000 in
theorem w_mo_cuts_4 {p : Program} {l : Launch} {e : Env} {s : State} {m : MethodId} {args : Array Value} {below : List Frame} {meth : Method} {c : Code} {Q : State → Prop} {D : va_G} {cI cJ cZ cO : ClassId} {A : Nat → Prop} {H0 : Heap} {w0 : Cond} (C : XC p s m args c cX8_cuts 3 RX8 w0 D (xT cI cJ cZ cO)) (a : Nat → Nat) (M_edits : Int) (M_typed : Int) (M_readRows : Int) (M_readColumns : Int) (M_top : Int) (M_bottom : Int) (M_left : Int) (M_right : Int) (M_panes : Int) (M_now : Int → Int) (Res : Int) (hret : XRI p l e rm_mo_cuts s m args below meth c cX8_cuts D A H0 Q Res [((a 0), oM a M_edits M_typed M_readRows M_readColumns M_top M_bottom M_left M_right M_panes), ((a 1), aI cI 151 M_now)]) (N : Nat) : ∀ (n : Nat) (l1 : Int) (l2 : Int) (ls : Array Slot) (H : Heap) (locs : List Loc), lv_has ls 3 [(0, .ref (a 0)), (1, iv l1), (2, iv l2)] → XH D A H0 [((a 0), oM a M_edits M_typed M_readRows M_readColumns M_top M_bottom M_left M_right M_panes), ((a 1), aI cI 151 M_now)] H locs → f_mo_cuts_4 N M_now n l1 l2 = some Res → W p l e rm_mo_cuts s m args below meth c H locs 0 0 Q (F0 m 4 ls []) := by
  have hx := C.1.1
  have hb := C.1.2.1
  intro n
  induction n with
  | zero => intro l1 l2 ls H locs hl h hf; cases hf
  | succ n ih =>
    intro l1 l2 ls H locs hl h hf
    rw [f_mo_cuts_4.eq_2] at hf
    refine lv_iload_n hx hb (pc := 4) dX8_cuts_4 rfl (lv_at hl 2 rfl) ?_
    refine x_bipush C (pc := 5) dX8_cuts_5 (by decide) ?_
    obtain ⟨g_1, hf⟩ := og_some hf
    refine x_icmpge C (pc := 7) (tgt := 28) g_1 ⟨by decide, by decide⟩ dX8_cuts_7 rfl (fun hc => ?_) (fun hc => ?_)
    · have hf := oi_t hf hc
      refine lv_iload_n hx hb (pc := 28) dX8_cuts_28 rfl (lv_at hl 1 rfl) ?_
      have e9 := Option.some.inj hf
      subst e9
      exact hret _ _ _ _ dX8_cuts_29 h
    · have hf := oi_f hf hc
      refine lv_iload_n hx hb (pc := 10) dX8_cuts_10 rfl (lv_at hl 1 rfl) ?_
      refine lv_aload_n hx hb (pc := 11) dX8_cuts_11 rfl (lv_at hl 0 rfl) ?_
      refine x_get C h (pc := 12) xf_X8_7 0 rfl (v := .ref (a 1)) rfl dX8_cuts_12 ?_
      refine x_bipush C (pc := 15) dX8_cuts_15 (by decide) ?_
      refine lv_iload_n hx hb (pc := 17) dX8_cuts_17 rfl (lv_at hl 2 rfl) ?_
      refine x_iadd C (pc := 18) dX8_cuts_18 ?_
      obtain ⟨g_2, hf⟩ := og_some hf
      refine x_iald C h (pc := 19) 1 0 rfl rfl (Nat.le_of_ble_eq_true rfl) g_2 dX8_cuts_19 ?_
      refine x_iadd C (pc := 20) dX8_cuts_20 ?_
      obtain ⟨l1_3, el1_3, hf⟩ := ol_some hf
      refine x_topi el1_3 ?_
      refine lv_istore_n hx hb (pc := 21) (lv' := [(1, iv l1_3), (0, .ref (a 0)), (2, iv l2)]) dX8_cuts_21 rfl hl (Nat.le_of_ble_eq_true rfl) rfl (fun ls hl => ?_)
      obtain ⟨l2_4, el2_4, hf⟩ := ol_some hf
      refine x_iinc C (pc := 22) (k := 2) (lw' := [(2, iv l2_4), (1, iv l1_3), (0, .ref (a 0))]) dX8_cuts_22 hl rfl el2_4 (Nat.le_of_ble_eq_true rfl) rfl (fun ls hl => ?_)
      refine lv_goto hx hb (pc := 25) (tgt := 4) dX8_cuts_25 rfl ?_
      exact ih l1_3 l2_4 _ _ _ (lv_sub hl [2, 1, 0] rfl) h hf
set_option maxHeartbeats 4000000 in
set_option maxRecDepth 100000 in
theorem c_mo_cuts (l : Launch) (D : va_G) (cI cJ cZ cO : ClassId) (a : Nat → Nat) (M_edits : Int) (M_typed : Int) (M_readRows : Int) (M_readColumns : Int) (M_top : Int) (M_bottom : Int) (M_left : Int) (M_right : Int) (M_panes : Int) (M_now : Int → Int) (N : Nat) (Res : Int) (hf : f_mo_cuts N M_now = some Res) : CoI l D (xT cI cJ cZ cO) yX8_cuts cX8_cuts 3 (some .int) rm_mo_cuts [.ref (a 0)] [((a 0), oM a M_edits M_typed M_readRows M_readColumns M_top M_bottom M_left M_right M_panes), ((a 1), aI cI 151 M_now)] Res [((a 0), oM a M_edits M_typed M_readRows M_readColumns M_top M_bottom M_left M_right M_panes), ((a 1), aI cI 151 M_now)] := by
  refine co_i (by decide) ⟨rfl, rfl⟩ (Nat.le_of_ble_eq_true rfl) ?_
  intro p e s m args below meth c A Q ls C hret hl h
  have hx := C.1.1
  have hb := C.1.2.1
  have hl : lv_has ls 3 [(0, .ref (a 0))] := hl
  unfold f_mo_cuts at hf
  refine x_iconst C (pc := 0) dX8_cuts_0 ?_
  refine lv_istore_n hx hb (pc := 1) (lv' := [(1, iv 0), (0, .ref (a 0))]) dX8_cuts_1 rfl hl (Nat.le_of_ble_eq_true rfl) rfl (fun ls hl => ?_)
  refine x_iconst C (pc := 2) dX8_cuts_2 ?_
  refine lv_istore_n hx hb (pc := 3) (lv' := [(2, iv 0), (1, iv 0), (0, .ref (a 0))]) dX8_cuts_3 rfl hl (Nat.le_of_ble_eq_true rfl) rfl (fun ls hl => ?_)
  exact w_mo_cuts_4 C a M_edits M_typed M_readRows M_readColumns M_top M_bottom M_left M_right M_panes M_now Res hret N N 0 0 _ _ _ (lv_sub hl [2, 1, 0] rfl) h hf
abbrev rm_mo_addCut : Room := { frames := 3, cells := 0, slots := 0, locals := 67 }
set_option maxHeartbeats 4000000 in
set_option maxRecDepth 100000 in
theorem c_mo_addCut (l : Launch) (D : va_G) (cI cJ cZ cO : ClassId) (a : Nat → Nat) (M_edits : Int) (M_typed : Int) (M_readRows : Int) (M_readColumns : Int) (M_top : Int) (M_bottom : Int) (M_left : Int) (M_right : Int) (M_panes : Int) (M_now : Int → Int) (M_past : Int → Int) (l1 : Int) (l2 : Int) (l3 : Int) (N : Nat) (Res : Int × Int × (Int → Int) × (Int → Int)) (hf : f_mo_addCut N l1 l2 l3 M_edits M_now M_past = some Res) : CoI l D (xT cI cJ cZ cO) yX8_addCut cX8_addCut 6 (some .int) rm_mo_addCut [.ref (a 0), iv l1, iv l2, iv l3] [((a 0), oM a M_edits M_typed M_readRows M_readColumns M_top M_bottom M_left M_right M_panes), ((a 1), aI cI 151 M_now), ((a 2), aI cI 1208 M_past)] Res.1 [((a 0), oM a Res.2.1 M_typed M_readRows M_readColumns M_top M_bottom M_left M_right M_panes), ((a 1), aI cI 151 Res.2.2.1), ((a 2), aI cI 1208 Res.2.2.2)] := by
  refine co_i (by decide) ⟨rfl, rfl⟩ (Nat.le_of_ble_eq_true rfl) ?_
  intro p e s m args below meth c A Q ls C hret hl h
  have hx := C.1.1
  have hb := C.1.2.1
  have hl : lv_has ls 6 [(0, .ref (a 0)), (1, iv l1), (2, iv l2), (3, iv l3)] := hl
  unfold f_mo_addCut at hf
  refine lv_aload_n hx hb (pc := 0) dX8_addCut_0 rfl (lv_at hl 0 rfl) ?_
  refine lv_iload_n hx hb (pc := 1) dX8_addCut_1 rfl (lv_at hl 1 rfl) ?_
  refine lv_iload_n hx hb (pc := 2) dX8_addCut_2 rfl (lv_at hl 2 rfl) ?_
  refine lv_iload_n hx hb (pc := 3) dX8_addCut_3 rfl (lv_at hl 3 rfl) ?_
  obtain ⟨q_1, hq_1, hf⟩ := ob_some hf
  refine x_callVi C h (pc := 4) hl (c_mo_isCut l D cI cJ cZ cO a M_edits M_typed M_readRows M_readColumns M_top M_bottom M_left M_right M_panes M_now l1 l2 l3 N q_1 hq_1) xv_X8_isCut lk_X8_110 ⟨(Nat.le_of_ble_eq_true rfl), (Nat.le_of_ble_eq_true rfl)⟩ rfl [0, 1] [2] (nw := 3) (wr := [((a 2), aI cI 1208 M_past)]) (as := [(a 0), (a 1), (a 2)]) (ws' := [((a 0), oM a M_edits M_typed M_readRows M_readColumns M_top M_bottom M_left M_right M_panes), ((a 1), aI cI 151 M_now), ((a 2), aI cI 1208 M_past)]) rfl rfl rfl rfl rfl rfl rfl rfl rfl 0 rfl rfl rfl rfl (Nat.le_of_ble_eq_true rfl) dX8_addCut_4 (fun H locs h => ?_)
  obtain ⟨g_2, hf⟩ := og_some hf
  refine x_ifne C (pc := 7) (tgt := 12) g_2 dX8_addCut_7 rfl (fun hc => ?_) (fun hc => ?_)
  · have hf := oi_f hf hc
    refine x_bipush C (pc := 12) dX8_addCut_12 (by decide) ?_
    refine x_bipush C (pc := 14) dX8_addCut_14 (by decide) ?_
    refine lv_iload_n hx hb (pc := 16) dX8_addCut_16 rfl (lv_at hl 3 rfl) ?_
    refine x_imul C (pc := 17) dX8_addCut_17 ?_
    refine x_iadd C (pc := 18) dX8_addCut_18 ?_
    refine x_bipush C (pc := 19) dX8_addCut_19 (by decide) ?_
    refine lv_iload_n hx hb (pc := 21) dX8_addCut_21 rfl (lv_at hl 1 rfl) ?_
    refine x_imul C (pc := 22) dX8_addCut_22 ?_
    refine x_iadd C (pc := 23) dX8_addCut_23 ?_
    refine lv_iload_n hx hb (pc := 24) dX8_addCut_24 rfl (lv_at hl 2 rfl) ?_
    refine x_iadd C (pc := 25) dX8_addCut_25 ?_
    obtain ⟨l4_3, el4_3, hf⟩ := ol_some hf
    refine x_topi el4_3 ?_
    refine lv_istore hx hb (pc := 26) (lv' := [(4, iv l4_3), (0, .ref (a 0)), (1, iv l1), (2, iv l2), (3, iv l3)]) dX8_addCut_26 hl (Nat.le_of_ble_eq_true rfl) rfl (fun ls hl => ?_)
    refine lv_aload_n hx hb (pc := 28) dX8_addCut_28 rfl (lv_at hl 1 rfl) ?_
    refine x_get C h (pc := 29) xf_X8_7 0 rfl (v := .ref (a 1)) rfl dX8_addCut_29 ?_
    refine lv_iload hx hb (pc := 32) dX8_addCut_32 (lv_at hl 0 rfl) ?_
    obtain ⟨g_4, hf⟩ := og_some hf
    refine x_iald C h (pc := 34) 1 0 rfl rfl (Nat.le_of_ble_eq_true rfl) g_4 dX8_addCut_34 ?_
    refine x_iconst C (pc := 35) dX8_addCut_35 ?_
    obtain ⟨g_5, hf⟩ := og_some hf
    refine x_icmpne C (pc := 36) (tgt := 42) g_5 ⟨by decide, by decide⟩ dX8_addCut_36 rfl (fun hc => ?_) (fun hc => ?_)
    · have hf := oi_f hf hc
      refine lv_aload_n hx hb (pc := 42) dX8_addCut_42 rfl (lv_at hl 1 rfl) ?_
      refine lv_iload hx hb (pc := 43) dX8_addCut_43 (lv_at hl 0 rfl) ?_
      refine x_iconst C (pc := 45) dX8_addCut_45 ?_
      obtain ⟨q_6, hq_6, hf⟩ := ob_some hf
      refine x_callVi C h (pc := 46) hl (c_mo_changed l D cI cJ cZ cO a M_edits M_typed M_readRows M_readColumns M_top M_bottom M_left M_right M_panes M_now M_past l4_3 1 N q_6 hq_6) xv_X8_changed lk_X8_99 ⟨(Nat.le_of_ble_eq_true rfl), (Nat.le_of_ble_eq_true rfl)⟩ rfl [0, 1, 2] [] (nw := 3) (wr := []) (as := [(a 0), (a 1), (a 2)]) (ws' := [((a 0), oM a q_6.2.1 M_typed M_readRows M_readColumns M_top M_bottom M_left M_right M_panes), ((a 1), aI cI 151 q_6.2.2.1), ((a 2), aI cI 1208 q_6.2.2.2)]) rfl rfl rfl rfl rfl rfl rfl rfl rfl 0 rfl rfl rfl rfl (Nat.le_of_ble_eq_true rfl) dX8_addCut_46 (fun H locs h => ?_)
      refine lv_istore hx hb (pc := 49) (lv' := [(5, iv q_6.1), (4, iv l4_3), (0, .ref (a 0)), (1, iv l1), (2, iv l2), (3, iv l3)]) dX8_addCut_49 hl (Nat.le_of_ble_eq_true rfl) rfl (fun ls hl => ?_)
      refine lv_aload_n hx hb (pc := 51) dX8_addCut_51 rfl (lv_at hl 2 rfl) ?_
      obtain ⟨q_7, hq_7, hf⟩ := ob_some hf
      refine x_callVi C h (pc := 52) hl (c_mo_cuts l D cI cJ cZ cO a q_6.2.1 M_typed M_readRows M_readColumns M_top M_bottom M_left M_right M_panes q_6.2.2.1 N q_7 hq_7) xv_X8_cuts lk_X8_113 ⟨(Nat.le_of_ble_eq_true rfl), (Nat.le_of_ble_eq_true rfl)⟩ rfl [0, 1] [2] (nw := 3) (wr := [((a 2), aI cI 1208 q_6.2.2.2)]) (as := [(a 0), (a 1), (a 2)]) (ws' := [((a 0), oM a q_6.2.1 M_typed M_readRows M_readColumns M_top M_bottom M_left M_right M_panes), ((a 1), aI cI 151 q_6.2.2.1), ((a 2), aI cI 1208 q_6.2.2.2)]) rfl rfl rfl rfl rfl rfl rfl rfl rfl 0 rfl rfl rfl rfl (Nat.le_of_ble_eq_true rfl) dX8_addCut_52 (fun H locs h => ?_)
      have e9 := Option.some.inj hf
      subst e9
      exact hret _ _ _ _ dX8_addCut_55 h
    · have hf := oi_t hf hc
      refine x_bipush C (pc := 39) dX8_addCut_39 (by decide) ?_
      have e9 := Option.some.inj hf
      subst e9
      exact hret _ _ _ _ dX8_addCut_41 h
  · have hf := oi_t hf hc
    refine x_iconst C (pc := 10) dX8_addCut_10 ?_
    have e9 := Option.some.inj hf
    subst e9
    exact hret _ _ _ _ dX8_addCut_11 h
abbrev rm_mo_removeCut : Room := { frames := 3, cells := 0, slots := 0, locals := 67 }
set_option maxHeartbeats 4000000 in
set_option maxRecDepth 100000 in
theorem c_mo_removeCut (l : Launch) (D : va_G) (cI cJ cZ cO : ClassId) (a : Nat → Nat) (M_edits : Int) (M_typed : Int) (M_readRows : Int) (M_readColumns : Int) (M_top : Int) (M_bottom : Int) (M_left : Int) (M_right : Int) (M_panes : Int) (M_now : Int → Int) (M_past : Int → Int) (l1 : Int) (l2 : Int) (l3 : Int) (N : Nat) (Res : Int × Int × (Int → Int) × (Int → Int)) (hf : f_mo_removeCut N l1 l2 l3 M_edits M_now M_past = some Res) : CoI l D (xT cI cJ cZ cO) yX8_removeCut cX8_removeCut 6 (some .int) rm_mo_removeCut [.ref (a 0), iv l1, iv l2, iv l3] [((a 0), oM a M_edits M_typed M_readRows M_readColumns M_top M_bottom M_left M_right M_panes), ((a 1), aI cI 151 M_now), ((a 2), aI cI 1208 M_past)] Res.1 [((a 0), oM a Res.2.1 M_typed M_readRows M_readColumns M_top M_bottom M_left M_right M_panes), ((a 1), aI cI 151 Res.2.2.1), ((a 2), aI cI 1208 Res.2.2.2)] := by
  refine co_i (by decide) ⟨rfl, rfl⟩ (Nat.le_of_ble_eq_true rfl) ?_
  intro p e s m args below meth c A Q ls C hret hl h
  have hx := C.1.1
  have hb := C.1.2.1
  have hl : lv_has ls 6 [(0, .ref (a 0)), (1, iv l1), (2, iv l2), (3, iv l3)] := hl
  unfold f_mo_removeCut at hf
  refine lv_aload_n hx hb (pc := 0) dX8_removeCut_0 rfl (lv_at hl 0 rfl) ?_
  refine lv_iload_n hx hb (pc := 1) dX8_removeCut_1 rfl (lv_at hl 1 rfl) ?_
  refine lv_iload_n hx hb (pc := 2) dX8_removeCut_2 rfl (lv_at hl 2 rfl) ?_
  refine lv_iload_n hx hb (pc := 3) dX8_removeCut_3 rfl (lv_at hl 3 rfl) ?_
  obtain ⟨q_1, hq_1, hf⟩ := ob_some hf
  refine x_callVi C h (pc := 4) hl (c_mo_isCut l D cI cJ cZ cO a M_edits M_typed M_readRows M_readColumns M_top M_bottom M_left M_right M_panes M_now l1 l2 l3 N q_1 hq_1) xv_X8_isCut lk_X8_110 ⟨(Nat.le_of_ble_eq_true rfl), (Nat.le_of_ble_eq_true rfl)⟩ rfl [0, 1] [2] (nw := 3) (wr := [((a 2), aI cI 1208 M_past)]) (as := [(a 0), (a 1), (a 2)]) (ws' := [((a 0), oM a M_edits M_typed M_readRows M_readColumns M_top M_bottom M_left M_right M_panes), ((a 1), aI cI 151 M_now), ((a 2), aI cI 1208 M_past)]) rfl rfl rfl rfl rfl rfl rfl rfl rfl 0 rfl rfl rfl rfl (Nat.le_of_ble_eq_true rfl) dX8_removeCut_4 (fun H locs h => ?_)
  obtain ⟨g_2, hf⟩ := og_some hf
  refine x_ifne C (pc := 7) (tgt := 12) g_2 dX8_removeCut_7 rfl (fun hc => ?_) (fun hc => ?_)
  · have hf := oi_f hf hc
    refine x_bipush C (pc := 12) dX8_removeCut_12 (by decide) ?_
    refine x_bipush C (pc := 14) dX8_removeCut_14 (by decide) ?_
    refine lv_iload_n hx hb (pc := 16) dX8_removeCut_16 rfl (lv_at hl 3 rfl) ?_
    refine x_imul C (pc := 17) dX8_removeCut_17 ?_
    refine x_iadd C (pc := 18) dX8_removeCut_18 ?_
    refine x_bipush C (pc := 19) dX8_removeCut_19 (by decide) ?_
    refine lv_iload_n hx hb (pc := 21) dX8_removeCut_21 rfl (lv_at hl 1 rfl) ?_
    refine x_imul C (pc := 22) dX8_removeCut_22 ?_
    refine x_iadd C (pc := 23) dX8_removeCut_23 ?_
    refine lv_iload_n hx hb (pc := 24) dX8_removeCut_24 rfl (lv_at hl 2 rfl) ?_
    refine x_iadd C (pc := 25) dX8_removeCut_25 ?_
    obtain ⟨l4_3, el4_3, hf⟩ := ol_some hf
    refine x_topi el4_3 ?_
    refine lv_istore hx hb (pc := 26) (lv' := [(4, iv l4_3), (0, .ref (a 0)), (1, iv l1), (2, iv l2), (3, iv l3)]) dX8_removeCut_26 hl (Nat.le_of_ble_eq_true rfl) rfl (fun ls hl => ?_)
    refine lv_aload_n hx hb (pc := 28) dX8_removeCut_28 rfl (lv_at hl 1 rfl) ?_
    refine x_get C h (pc := 29) xf_X8_7 0 rfl (v := .ref (a 1)) rfl dX8_removeCut_29 ?_
    refine lv_iload hx hb (pc := 32) dX8_removeCut_32 (lv_at hl 0 rfl) ?_
    obtain ⟨g_4, hf⟩ := og_some hf
    refine x_iald C h (pc := 34) 1 0 rfl rfl (Nat.le_of_ble_eq_true rfl) g_4 dX8_removeCut_34 ?_
    obtain ⟨g_5, hf⟩ := og_some hf
    refine x_ifne C (pc := 35) (tgt := 41) g_5 dX8_removeCut_35 rfl (fun hc => ?_) (fun hc => ?_)
    · have hf := oi_f hf hc
      refine lv_aload_n hx hb (pc := 41) dX8_removeCut_41 rfl (lv_at hl 1 rfl) ?_
      refine lv_iload hx hb (pc := 42) dX8_removeCut_42 (lv_at hl 0 rfl) ?_
      refine x_iconst C (pc := 44) dX8_removeCut_44 ?_
      obtain ⟨q_6, hq_6, hf⟩ := ob_some hf
      refine x_callVi C h (pc := 45) hl (c_mo_changed l D cI cJ cZ cO a M_edits M_typed M_readRows M_readColumns M_top M_bottom M_left M_right M_panes M_now M_past l4_3 0 N q_6 hq_6) xv_X8_changed lk_X8_99 ⟨(Nat.le_of_ble_eq_true rfl), (Nat.le_of_ble_eq_true rfl)⟩ rfl [0, 1, 2] [] (nw := 3) (wr := []) (as := [(a 0), (a 1), (a 2)]) (ws' := [((a 0), oM a q_6.2.1 M_typed M_readRows M_readColumns M_top M_bottom M_left M_right M_panes), ((a 1), aI cI 151 q_6.2.2.1), ((a 2), aI cI 1208 q_6.2.2.2)]) rfl rfl rfl rfl rfl rfl rfl rfl rfl 0 rfl rfl rfl rfl (Nat.le_of_ble_eq_true rfl) dX8_removeCut_45 (fun H locs h => ?_)
      refine lv_istore hx hb (pc := 48) (lv' := [(5, iv q_6.1), (4, iv l4_3), (0, .ref (a 0)), (1, iv l1), (2, iv l2), (3, iv l3)]) dX8_removeCut_48 hl (Nat.le_of_ble_eq_true rfl) rfl (fun ls hl => ?_)
      refine lv_aload_n hx hb (pc := 50) dX8_removeCut_50 rfl (lv_at hl 2 rfl) ?_
      obtain ⟨q_7, hq_7, hf⟩ := ob_some hf
      refine x_callVi C h (pc := 51) hl (c_mo_cuts l D cI cJ cZ cO a q_6.2.1 M_typed M_readRows M_readColumns M_top M_bottom M_left M_right M_panes q_6.2.2.1 N q_7 hq_7) xv_X8_cuts lk_X8_113 ⟨(Nat.le_of_ble_eq_true rfl), (Nat.le_of_ble_eq_true rfl)⟩ rfl [0, 1] [2] (nw := 3) (wr := [((a 2), aI cI 1208 q_6.2.2.2)]) (as := [(a 0), (a 1), (a 2)]) (ws' := [((a 0), oM a q_6.2.1 M_typed M_readRows M_readColumns M_top M_bottom M_left M_right M_panes), ((a 1), aI cI 151 q_6.2.2.1), ((a 2), aI cI 1208 q_6.2.2.2)]) rfl rfl rfl rfl rfl rfl rfl rfl rfl 0 rfl rfl rfl rfl (Nat.le_of_ble_eq_true rfl) dX8_removeCut_51 (fun H locs h => ?_)
      have e9 := Option.some.inj hf
      subst e9
      exact hret _ _ _ _ dX8_removeCut_54 h
    · have hf := oi_t hf hc
      refine x_bipush C (pc := 38) dX8_removeCut_38 (by decide) ?_
      have e9 := Option.some.inj hf
      subst e9
      exact hret _ _ _ _ dX8_removeCut_40 h
  · have hf := oi_t hf hc
    refine x_iconst C (pc := 10) dX8_removeCut_10 ?_
    have e9 := Option.some.inj hf
    subst e9
    exact hret _ _ _ _ dX8_removeCut_11 h
abbrev rm_mo_spread : Room := { frames := 2, cells := 0, slots := 0, locals := 44 }
set_option maxHeartbeats 4000000 in
set_option maxRecDepth 100000 in
theorem w_mo_spread_36 {p : Program} {l : Launch} {e : Env} {s : State} {m : MethodId} {args : Array Value} {below : List Frame} {meth : Method} {c : Code} {Q : State → Prop} {D : va_G} {cI cJ cZ cO : ClassId} {A : Nat → Prop} {H0 : Heap} {w0 : Cond} (C : XC p s m args c cX8_spread 11 RX8 w0 D (xT cI cJ cZ cO)) (a : Nat → Nat) (xm : Nat) (M_edits : Int) (M_typed : Int) (M_readRows : Int) (M_readColumns : Int) (M_top : Int) (M_bottom : Int) (M_left : Int) (M_right : Int) (M_panes : Int) (M_now : Int → Int) (Res : Int × (Int → Int) × (Int → Int)) (hret : XRI p l e rm_mo_spread s m args below meth c cX8_spread D A H0 Q Res.1 [((a 0), oM a M_edits M_typed M_readRows M_readColumns M_top M_bottom M_left M_right M_panes), ((a 1), aI cI 151 M_now), ((a 5), aI cI 49 Res.2.1), (xm, aI cI 49 Res.2.2)]) (N : Nat) (l3 : Int) (l5 : Int) (l6 : Int) (k17 : Int → Int → (Int → Int) → (Int → Int) → Option (Int × (Int → Int) × (Int → Int))) (hk17 : ∀ (l4' : Int) (l5' : Int) (M_queue' : Int → Int) (M_marks' : Int → Int) (ls : Array Slot) (H : Heap) (locs : List Loc), lv_has ls 11 [(0, .ref (a 0)), (1, .ref xm), (3, iv l3), (4, iv l4'), (5, iv l5')] → XH D A H0 [((a 0), oM a M_edits M_typed M_readRows M_readColumns M_top M_bottom M_left M_right M_panes), ((a 1), aI cI 151 M_now), ((a 5), aI cI 49 M_queue'), (xm, aI cI 49 M_marks')] H locs → k17 l4' l5' M_queue' M_marks' = some Res → W p l e rm_mo_spread s m args below meth c H locs 0 0 Q (F0 m 17 ls [])) : ∀ (n : Nat) (l4 : Int) (l7 : Int) (M_queue : Int → Int) (M_marks : Int → Int) (ls : Array Slot) (H : Heap) (locs : List Loc), lv_has ls 11 [(0, .ref (a 0)), (1, .ref xm), (3, iv l3), (4, iv l4), (5, iv l5), (6, iv l6), (7, iv l7)] → XH D A H0 [((a 0), oM a M_edits M_typed M_readRows M_readColumns M_top M_bottom M_left M_right M_panes), ((a 1), aI cI 151 M_now), ((a 5), aI cI 49 M_queue), (xm, aI cI 49 M_marks)] H locs → f_mo_spread_36 N l3 l5 l6 M_top M_bottom M_left M_right M_now k17 n l4 l7 M_queue M_marks = some Res → W p l e rm_mo_spread s m args below meth c H locs 0 0 Q (F0 m 36 ls []) := by
  have hx := C.1.1
  have hb := C.1.2.1
  intro n
  induction n with
  | zero => intro l4 l7 M_queue M_marks ls H locs hl h hf; cases hf
  | succ n ih =>
    intro l4 l7 M_queue M_marks ls H locs hl h hf
    rw [f_mo_spread_36.eq_2] at hf
    refine lv_iload hx hb (pc := 36) dX8_spread_36 (lv_at hl 6 rfl) ?_
    refine x_iconst C (pc := 38) dX8_spread_38 ?_
    obtain ⟨g_52, hf⟩ := og_some hf
    refine x_icmpge C (pc := 39) (tgt := 228) g_52 ⟨by decide, by decide⟩ dX8_spread_39 rfl (fun hc => ?_) (fun hc => ?_)
    · have hf := oi_t hf hc
      obtain ⟨l5_53, el5_53, hf⟩ := ol_some hf
      refine x_iinc C (pc := 228) (k := 4) (lw' := [(5, iv l5_53), (0, .ref (a 0)), (1, .ref xm), (3, iv l3), (4, iv l4), (6, iv l6), (7, iv l7)]) dX8_spread_228 hl rfl el5_53 (Nat.le_of_ble_eq_true rfl) rfl (fun ls hl => ?_)
      refine lv_goto hx hb (pc := 231) (tgt := 17) dX8_spread_231 rfl ?_
      exact hk17 l4 l5_53 M_queue M_marks _ _ _ (lv_sub hl [1, 2, 3, 4, 0] rfl) h hf
    · have hf := oi_f hf hc
      refine lv_iload hx hb (pc := 42) dX8_spread_42 (lv_at hl 6 rfl) ?_
      refine x_iconst C (pc := 44) dX8_spread_44 ?_
      obtain ⟨g_54, hf⟩ := og_some hf
      refine x_irem C (pc := 45) g_54 ⟨by decide, by decide⟩ dX8_spread_45 ?_
      obtain ⟨l8_55, el8_55, hf⟩ := ol_some hf
      obtain ⟨r_58, hrr_58, hf⟩ := ob_some hf
      have Jr_58 : ∀ (ls : Array Slot) (H : Heap) (locs : List Loc), lv_has ls 11 [(0, .ref (a 0)), (1, .ref xm), (3, iv l3), (4, iv l4), (5, iv l5), (6, iv l6), (7, iv l7), (8, iv l8_55)] → XH D A H0 [((a 0), oM a M_edits M_typed M_readRows M_readColumns M_top M_bottom M_left M_right M_panes), ((a 1), aI cI 151 M_now), ((a 5), aI cI 49 M_queue), (xm, aI cI 49 M_marks)] H locs → W p l e rm_mo_spread s m args below meth c H locs 0 0 Q (F0 m 73 ls [iv r_58]) := by
        intro ls H locs hl h
        obtain ⟨r_71, hrr_71, hf⟩ := ob_some hf
        have Jr_71 : ∀ (ls : Array Slot) (H : Heap) (locs : List Loc), lv_has ls 11 [(0, .ref (a 0)), (1, .ref xm), (3, iv l3), (4, iv l4), (5, iv l5), (6, iv l6), (7, iv l7), (8, iv l8_55), (9, iv r_58)] → XH D A H0 [((a 0), oM a M_edits M_typed M_readRows M_readColumns M_top M_bottom M_left M_right M_panes), ((a 1), aI cI 151 M_now), ((a 5), aI cI 49 M_queue), (xm, aI cI 49 M_marks)] H locs → W p l e rm_mo_spread s m args below meth c H locs 0 0 Q (F0 m 169 ls [iv r_71]) := by
          intro ls H locs hl h
          refine lv_istore hx hb (pc := 169) (lv' := [(10, iv r_71), (0, .ref (a 0)), (1, .ref xm), (3, iv l3), (4, iv l4), (5, iv l5), (6, iv l6), (7, iv l7), (8, iv l8_55), (9, iv r_58)]) dX8_spread_169 hl (Nat.le_of_ble_eq_true rfl) rfl (fun ls hl => ?_)
          refine lv_iload hx hb (pc := 171) dX8_spread_171 (lv_at hl 0 rfl) ?_
          obtain ⟨g_72, hf⟩ := og_some hf
          refine x_ifeq C (pc := 173) (tgt := 222) g_72 dX8_spread_173 rfl (fun hc => ?_) (fun hc => ?_)
          · have hf := oi_t hf hc
            obtain ⟨l7_73, el7_73, hf⟩ := ol_some hf
            refine x_iinc C (pc := 222) (k := 7) (lw' := [(7, iv l7_73), (10, iv r_71), (0, .ref (a 0)), (1, .ref xm), (3, iv l3), (4, iv l4), (5, iv l5), (6, iv l6), (8, iv l8_55), (9, iv r_58)]) dX8_spread_222 hl rfl el7_73 (Nat.le_of_ble_eq_true rfl) rfl (fun ls hl => ?_)
            refine lv_goto hx hb (pc := 225) (tgt := 36) dX8_spread_225 rfl ?_
            exact ih l4 l7_73 M_queue M_marks _ _ _ (lv_sub hl [2, 3, 4, 5, 6, 7, 0] rfl) h hf
          · have hf := oi_f hf hc
            obtain ⟨r_74, hrr_74, hf⟩ := ob_some hf
            have Jr_74 : ∀ (ls : Array Slot) (H : Heap) (locs : List Loc), lv_has ls 11 [(0, .ref (a 0)), (1, .ref xm), (3, iv l3), (4, iv l4), (5, iv l5), (6, iv l6), (7, iv l7), (8, iv l8_55), (9, iv r_58)] → XH D A H0 [((a 0), oM a M_edits M_typed M_readRows M_readColumns M_top M_bottom M_left M_right M_panes), ((a 1), aI cI 151 M_now), ((a 5), aI cI 49 M_queue), (xm, aI cI 49 M_marks)] H locs → W p l e rm_mo_spread s m args below meth c H locs 0 0 Q (F0 m 190 ls [iv r_74, .ref (a 0)]) := by
              intro ls H locs hl h
              refine lv_iload hx hb (pc := 190) dX8_spread_190 (lv_at hl 7 rfl) ?_
              obtain ⟨q_75, hq_75, hf⟩ := ob_some hf
              refine x_callVi C h (pc := 192) hl (c_mo_joins l D cI cJ cZ cO a M_edits M_typed M_readRows M_readColumns M_top M_bottom M_left M_right M_panes M_now r_74 l8_55 N q_75 hq_75) xv_X8_joins lk_X8_128 ⟨(Nat.le_of_ble_eq_true rfl), (Nat.le_of_ble_eq_true rfl)⟩ rfl [0, 1] [2, 3] (nw := 4) (wr := [((a 5), aI cI 49 M_queue), (xm, aI cI 49 M_marks)]) (as := [(a 0), (a 1), (a 5), xm]) (ws' := [((a 0), oM a M_edits M_typed M_readRows M_readColumns M_top M_bottom M_left M_right M_panes), ((a 1), aI cI 151 M_now), ((a 5), aI cI 49 M_queue), (xm, aI cI 49 M_marks)]) rfl rfl rfl rfl rfl rfl rfl rfl rfl 0 rfl rfl rfl rfl (Nat.le_of_ble_eq_true rfl) dX8_spread_192 (fun H locs h => ?_)
              obtain ⟨g_76, hf⟩ := og_some hf
              obtain ⟨r_86, hrr_86, hf⟩ := ob_some hf
              have Jr_86 : ∀ (ls : Array Slot) (H : Heap) (locs : List Loc), lv_has ls 11 [(0, .ref (a 0)), (1, .ref xm), (3, iv l3), (4, iv r_86.1), (5, iv l5), (6, iv l6), (7, iv r_86.2.1)] → XH D A H0 [((a 0), oM a M_edits M_typed M_readRows M_readColumns M_top M_bottom M_left M_right M_panes), ((a 1), aI cI 151 M_now), ((a 5), aI cI 49 r_86.2.2.1), (xm, aI cI 49 r_86.2.2.2)] H locs → W p l e rm_mo_spread s m args below meth c H locs 0 0 Q (F0 m 36 ls []) := by
                intro ls H locs hl h
                exact ih r_86.1 r_86.2.1 r_86.2.2.1 r_86.2.2.2 _ _ _ (lv_sub hl [0, 1, 2, 3, 4, 5, 6] rfl) h hf
              clear hf
              have hf := hrr_86
              refine x_ifeq C (pc := 195) (tgt := 222) g_76 dX8_spread_195 rfl (fun hc => ?_) (fun hc => ?_)
              · have hf := oi_t hf hc
                obtain ⟨l7_77, el7_77, hf⟩ := ol_some hf
                refine x_iinc C (pc := 222) (k := 6) (lw' := [(7, iv l7_77), (0, .ref (a 0)), (1, .ref xm), (3, iv l3), (4, iv l4), (5, iv l5), (6, iv l6), (8, iv l8_55), (9, iv r_58)]) dX8_spread_222 hl rfl el7_77 (Nat.le_of_ble_eq_true rfl) rfl (fun ls hl => ?_)
                refine lv_goto hx hb (pc := 225) (tgt := 36) dX8_spread_225 rfl ?_
                have e9 := Option.some.inj hf
                subst e9
                exact Jr_86 _ _ _ (lv_sub hl [1, 2, 3, 4, 5, 6, 0] rfl) h
              · have hf := oi_f hf hc
                refine lv_aload_n hx hb (pc := 198) dX8_spread_198 rfl (lv_at hl 1 rfl) ?_
                refine lv_iload hx hb (pc := 199) dX8_spread_199 (lv_at hl 8 rfl) ?_
                obtain ⟨g_78, hf⟩ := og_some hf
                refine x_iald C h (pc := 201) 3 0 rfl rfl (Nat.le_of_ble_eq_true rfl) g_78 dX8_spread_201 ?_
                obtain ⟨g_79, hf⟩ := og_some hf
                refine x_ifge C (pc := 202) (tgt := 222) g_79 dX8_spread_202 rfl (fun hc => ?_) (fun hc => ?_)
                · have hf := oi_t hf hc
                  obtain ⟨l7_80, el7_80, hf⟩ := ol_some hf
                  refine x_iinc C (pc := 222) (k := 6) (lw' := [(7, iv l7_80), (0, .ref (a 0)), (1, .ref xm), (3, iv l3), (4, iv l4), (5, iv l5), (6, iv l6), (8, iv l8_55), (9, iv r_58)]) dX8_spread_222 hl rfl el7_80 (Nat.le_of_ble_eq_true rfl) rfl (fun ls hl => ?_)
                  refine lv_goto hx hb (pc := 225) (tgt := 36) dX8_spread_225 rfl ?_
                  have e9 := Option.some.inj hf
                  subst e9
                  exact Jr_86 _ _ _ (lv_sub hl [1, 2, 3, 4, 5, 6, 0] rfl) h
                · have hf := oi_f hf hc
                  refine lv_aload_n hx hb (pc := 205) dX8_spread_205 rfl (lv_at hl 1 rfl) ?_
                  refine lv_iload hx hb (pc := 206) dX8_spread_206 (lv_at hl 8 rfl) ?_
                  refine lv_iload_n hx hb (pc := 208) dX8_spread_208 rfl (lv_at hl 2 rfl) ?_
                  obtain ⟨M_marks_81, eM_marks_81, hf⟩ := ol_some hf
                  refine x_iast C h (pc := 209) (ws' := [((a 0), oM a M_edits M_typed M_readRows M_readColumns M_top M_bottom M_left M_right M_panes), ((a 1), aI cI 151 M_now), ((a 5), aI cI 49 M_queue), (xm, aI cI 49 M_marks_81)]) 3 0 rfl rfl (Nat.le_of_ble_eq_true rfl) g_78 eM_marks_81 rfl dX8_spread_209 (fun H locs h => ?_)
                  refine lv_aload_n hx hb (pc := 210) dX8_spread_210 rfl (lv_at hl 0 rfl) ?_
                  refine x_get C h (pc := 211) xf_X8_22 0 rfl (v := .ref (a 5)) rfl dX8_spread_211 ?_
                  refine lv_iload hx hb (pc := 214) dX8_spread_214 (lv_at hl 3 rfl) ?_
                  refine lv_iload hx hb (pc := 216) dX8_spread_216 (lv_at hl 8 rfl) ?_
                  obtain ⟨g_82, hf⟩ := og_some hf
                  obtain ⟨M_queue_83, eM_queue_83, hf⟩ := ol_some hf
                  refine x_iast C h (pc := 218) (ws' := [((a 0), oM a M_edits M_typed M_readRows M_readColumns M_top M_bottom M_left M_right M_panes), ((a 1), aI cI 151 M_now), ((a 5), aI cI 49 M_queue_83), (xm, aI cI 49 M_marks_81)]) 2 0 rfl rfl (Nat.le_of_ble_eq_true rfl) g_82 eM_queue_83 rfl dX8_spread_218 (fun H locs h => ?_)
                  obtain ⟨l4_84, el4_84, hf⟩ := ol_some hf
                  refine x_iinc C (pc := 219) (k := 3) (lw' := [(4, iv l4_84), (0, .ref (a 0)), (1, .ref xm), (3, iv l3), (5, iv l5), (6, iv l6), (7, iv l7), (8, iv l8_55), (9, iv r_58)]) dX8_spread_219 hl rfl el4_84 (Nat.le_of_ble_eq_true rfl) rfl (fun ls hl => ?_)
                  obtain ⟨l7_85, el7_85, hf⟩ := ol_some hf
                  refine x_iinc C (pc := 222) (k := 6) (lw' := [(7, iv l7_85), (4, iv l4_84), (0, .ref (a 0)), (1, .ref xm), (3, iv l3), (5, iv l5), (6, iv l6), (8, iv l8_55), (9, iv r_58)]) dX8_spread_222 hl rfl el7_85 (Nat.le_of_ble_eq_true rfl) rfl (fun ls hl => ?_)
                  refine lv_goto hx hb (pc := 225) (tgt := 36) dX8_spread_225 rfl ?_
                  have e9 := Option.some.inj hf
                  subst e9
                  exact Jr_86 _ _ _ (lv_sub hl [2, 3, 4, 1, 5, 6, 0] rfl) h
            clear hf
            have hf := hrr_74
            refine lv_aload_n hx hb (pc := 176) dX8_spread_176 rfl (lv_at hl 1 rfl) ?_
            refine lv_iload hx hb (pc := 177) dX8_spread_177 (lv_at hl 7 rfl) ?_
            refine x_iconst C (pc := 179) dX8_spread_179 ?_
            refine x_icmpge C (pc := 180) (tgt := 188) g_52 ⟨by decide, by decide⟩ dX8_spread_180 rfl (fun hc => ?_) (fun hc => ?_)
            · have hf := oi_t hf hc
              refine lv_iload hx hb (pc := 188) dX8_spread_188 (lv_at hl 9 rfl) ?_
              have e9 := Option.some.inj hf
              subst e9
              exact Jr_74 _ _ _ (lv_sub hl [1, 2, 3, 4, 5, 6, 7, 8, 9] rfl) h
            · have hf := oi_f hf hc
              refine lv_iload hx hb (pc := 183) dX8_spread_183 (lv_at hl 6 rfl) ?_
              refine lv_goto hx hb (pc := 185) (tgt := 190) dX8_spread_185 rfl ?_
              have e9 := Option.some.inj hf
              subst e9
              exact Jr_74 _ _ _ (lv_sub hl [1, 2, 3, 4, 5, 6, 7, 8, 9] rfl) h
        clear hf
        have hf := hrr_71
        refine lv_istore hx hb (pc := 73) (lv' := [(9, iv r_58), (0, .ref (a 0)), (1, .ref xm), (3, iv l3), (4, iv l4), (5, iv l5), (6, iv l6), (7, iv l7), (8, iv l8_55)]) dX8_spread_73 hl (Nat.le_of_ble_eq_true rfl) rfl (fun ls hl => ?_)
        refine lv_iload hx hb (pc := 75) dX8_spread_75 (lv_at hl 7 rfl) ?_
        refine x_ifne C (pc := 77) (tgt := 100) g_52 dX8_spread_77 rfl (fun hc => ?_) (fun hc => ?_)
        · have hf := oi_f hf hc
          refine lv_iload hx hb (pc := 100) dX8_spread_100 (lv_at hl 7 rfl) ?_
          refine x_iconst C (pc := 102) dX8_spread_102 ?_
          refine x_icmpne C (pc := 103) (tgt := 126) g_52 ⟨by decide, by decide⟩ dX8_spread_103 rfl (fun hc => ?_) (fun hc => ?_)
          · have hf := oi_f hf hc
            refine lv_iload hx hb (pc := 126) dX8_spread_126 (lv_at hl 7 rfl) ?_
            refine x_iconst C (pc := 128) dX8_spread_128 ?_
            refine x_icmpne C (pc := 129) (tgt := 152) g_52 ⟨by decide, by decide⟩ dX8_spread_129 rfl (fun hc => ?_) (fun hc => ?_)
            · have hf := oi_f hf hc
              refine lv_iload hx hb (pc := 152) dX8_spread_152 (lv_at hl 6 rfl) ?_
              refine x_bipush C (pc := 154) dX8_spread_154 (by decide) ?_
              obtain ⟨g_59, hf⟩ := og_some hf
              refine x_idiv C (pc := 156) g_59 ⟨by decide, by decide⟩ dX8_spread_156 ?_
              refine lv_aload_n hx hb (pc := 157) dX8_spread_157 rfl (lv_at hl 1 rfl) ?_
              refine x_get C h (pc := 158) xf_X8_125 0 rfl (v := iv M_top) rfl dX8_spread_158 ?_
              obtain ⟨g_60, hf⟩ := og_some hf
              obtain ⟨g_61, hf⟩ := og_some hf
              refine x_icmple C (pc := 161) (tgt := 168) g_60 g_61 dX8_spread_161 rfl (fun hc => ?_) (fun hc => ?_)
              · have hf := oi_t hf hc
                refine x_iconst C (pc := 168) dX8_spread_168 ?_
                have e9 := Option.some.inj hf
                subst e9
                exact Jr_71 _ _ _ (lv_sub hl [1, 2, 3, 4, 5, 6, 7, 8, 0] rfl) h
              · have hf := oi_f hf hc
                refine x_iconst C (pc := 164) dX8_spread_164 ?_
                refine lv_goto hx hb (pc := 165) (tgt := 169) dX8_spread_165 rfl ?_
                have e9 := Option.some.inj hf
                subst e9
                exact Jr_71 _ _ _ (lv_sub hl [1, 2, 3, 4, 5, 6, 7, 8, 0] rfl) h
            · have hf := oi_t hf hc
              refine lv_iload hx hb (pc := 132) dX8_spread_132 (lv_at hl 6 rfl) ?_
              refine x_bipush C (pc := 134) dX8_spread_134 (by decide) ?_
              obtain ⟨g_62, hf⟩ := og_some hf
              refine x_irem C (pc := 136) g_62 ⟨by decide, by decide⟩ dX8_spread_136 ?_
              refine lv_aload_n hx hb (pc := 137) dX8_spread_137 rfl (lv_at hl 1 rfl) ?_
              refine x_get C h (pc := 138) xf_X8_122 0 rfl (v := iv M_left) rfl dX8_spread_138 ?_
              obtain ⟨g_63, hf⟩ := og_some hf
              obtain ⟨g_64, hf⟩ := og_some hf
              refine x_icmple C (pc := 141) (tgt := 148) g_63 g_64 dX8_spread_141 rfl (fun hc => ?_) (fun hc => ?_)
              · have hf := oi_t hf hc
                refine x_iconst C (pc := 148) dX8_spread_148 ?_
                refine lv_goto hx hb (pc := 149) (tgt := 169) dX8_spread_149 rfl ?_
                have e9 := Option.some.inj hf
                subst e9
                exact Jr_71 _ _ _ (lv_sub hl [1, 2, 3, 4, 5, 6, 7, 8, 0] rfl) h
              · have hf := oi_f hf hc
                refine x_iconst C (pc := 144) dX8_spread_144 ?_
                refine lv_goto hx hb (pc := 145) (tgt := 169) dX8_spread_145 rfl ?_
                have e9 := Option.some.inj hf
                subst e9
                exact Jr_71 _ _ _ (lv_sub hl [1, 2, 3, 4, 5, 6, 7, 8, 0] rfl) h
          · have hf := oi_t hf hc
            refine lv_iload hx hb (pc := 106) dX8_spread_106 (lv_at hl 6 rfl) ?_
            refine x_bipush C (pc := 108) dX8_spread_108 (by decide) ?_
            obtain ⟨g_65, hf⟩ := og_some hf
            refine x_idiv C (pc := 110) g_65 ⟨by decide, by decide⟩ dX8_spread_110 ?_
            refine lv_aload_n hx hb (pc := 111) dX8_spread_111 rfl (lv_at hl 1 rfl) ?_
            refine x_get C h (pc := 112) xf_X8_119 0 rfl (v := iv M_bottom) rfl dX8_spread_112 ?_
            obtain ⟨g_66, hf⟩ := og_some hf
            obtain ⟨g_67, hf⟩ := og_some hf
            refine x_icmpge C (pc := 115) (tgt := 122) g_66 g_67 dX8_spread_115 rfl (fun hc => ?_) (fun hc => ?_)
            · have hf := oi_t hf hc
              refine x_iconst C (pc := 122) dX8_spread_122 ?_
              refine lv_goto hx hb (pc := 123) (tgt := 169) dX8_spread_123 rfl ?_
              have e9 := Option.some.inj hf
              subst e9
              exact Jr_71 _ _ _ (lv_sub hl [1, 2, 3, 4, 5, 6, 7, 8, 0] rfl) h
            · have hf := oi_f hf hc
              refine x_iconst C (pc := 118) dX8_spread_118 ?_
              refine lv_goto hx hb (pc := 119) (tgt := 169) dX8_spread_119 rfl ?_
              have e9 := Option.some.inj hf
              subst e9
              exact Jr_71 _ _ _ (lv_sub hl [1, 2, 3, 4, 5, 6, 7, 8, 0] rfl) h
        · have hf := oi_t hf hc
          refine lv_iload hx hb (pc := 80) dX8_spread_80 (lv_at hl 6 rfl) ?_
          refine x_bipush C (pc := 82) dX8_spread_82 (by decide) ?_
          obtain ⟨g_68, hf⟩ := og_some hf
          refine x_irem C (pc := 84) g_68 ⟨by decide, by decide⟩ dX8_spread_84 ?_
          refine lv_aload_n hx hb (pc := 85) dX8_spread_85 rfl (lv_at hl 1 rfl) ?_
          refine x_get C h (pc := 86) xf_X8_116 0 rfl (v := iv M_right) rfl dX8_spread_86 ?_
          obtain ⟨g_69, hf⟩ := og_some hf
          obtain ⟨g_70, hf⟩ := og_some hf
          refine x_icmpge C (pc := 89) (tgt := 96) g_69 g_70 dX8_spread_89 rfl (fun hc => ?_) (fun hc => ?_)
          · have hf := oi_t hf hc
            refine x_iconst C (pc := 96) dX8_spread_96 ?_
            refine lv_goto hx hb (pc := 97) (tgt := 169) dX8_spread_97 rfl ?_
            have e9 := Option.some.inj hf
            subst e9
            exact Jr_71 _ _ _ (lv_sub hl [1, 2, 3, 4, 5, 6, 7, 8, 0] rfl) h
          · have hf := oi_f hf hc
            refine x_iconst C (pc := 92) dX8_spread_92 ?_
            refine lv_goto hx hb (pc := 93) (tgt := 169) dX8_spread_93 rfl ?_
            have e9 := Option.some.inj hf
            subst e9
            exact Jr_71 _ _ _ (lv_sub hl [1, 2, 3, 4, 5, 6, 7, 8, 0] rfl) h
      clear hf
      have hf := hrr_58
      refine x_topi el8_55 ?_
      refine lv_istore hx hb (pc := 46) (lv' := [(8, iv l8_55), (0, .ref (a 0)), (1, .ref xm), (3, iv l3), (4, iv l4), (5, iv l5), (6, iv l6), (7, iv l7)]) dX8_spread_46 hl (Nat.le_of_ble_eq_true rfl) rfl (fun ls hl => ?_)
      refine lv_iload hx hb (pc := 48) dX8_spread_48 (lv_at hl 7 rfl) ?_
      refine x_iconst C (pc := 50) dX8_spread_50 ?_
      refine x_icmpge C (pc := 51) (tgt := 65) g_52 ⟨by decide, by decide⟩ dX8_spread_51 rfl (fun hc => ?_) (fun hc => ?_)
      · have hf := oi_t hf hc
        refine lv_iload hx hb (pc := 65) dX8_spread_65 (lv_at hl 6 rfl) ?_
        refine lv_iload hx hb (pc := 67) dX8_spread_67 (lv_at hl 0 rfl) ?_
        obtain ⟨q_56, hq_56, hf⟩ := ob_some hf
        refine x_callSi C h (pc := 69) hl (c_mo_step l D cI cJ cZ cO a l8_55 N q_56 hq_56) xs_X8_step lk_X8_106 ⟨(Nat.le_of_ble_eq_true rfl), (Nat.le_of_ble_eq_true rfl)⟩ rfl [] [0, 1, 2, 3] (nw := 4) (wr := [((a 0), oM a M_edits M_typed M_readRows M_readColumns M_top M_bottom M_left M_right M_panes), ((a 1), aI cI 151 M_now), ((a 5), aI cI 49 M_queue), (xm, aI cI 49 M_marks)]) (as := [(a 0), (a 1), (a 5), xm]) (ws' := [((a 0), oM a M_edits M_typed M_readRows M_readColumns M_top M_bottom M_left M_right M_panes), ((a 1), aI cI 151 M_now), ((a 5), aI cI 49 M_queue), (xm, aI cI 49 M_marks)]) rfl rfl rfl rfl rfl rfl rfl rfl rfl rfl (Nat.le_of_ble_eq_true rfl) dX8_spread_69 (fun H locs h => ?_)
        refine x_isub C (pc := 72) dX8_spread_72 ?_
        have e9 := Option.some.inj hf
        subst e9
        exact Jr_58 _ _ _ (lv_sub hl [1, 2, 3, 4, 5, 6, 7, 0] rfl) h
      · have hf := oi_f hf hc
        refine lv_iload hx hb (pc := 54) dX8_spread_54 (lv_at hl 6 rfl) ?_
        refine lv_iload hx hb (pc := 56) dX8_spread_56 (lv_at hl 0 rfl) ?_
        obtain ⟨q_57, hq_57, hf⟩ := ob_some hf
        refine x_callSi C h (pc := 58) hl (c_mo_step l D cI cJ cZ cO a l8_55 N q_57 hq_57) xs_X8_step lk_X8_106 ⟨(Nat.le_of_ble_eq_true rfl), (Nat.le_of_ble_eq_true rfl)⟩ rfl [] [0, 1, 2, 3] (nw := 4) (wr := [((a 0), oM a M_edits M_typed M_readRows M_readColumns M_top M_bottom M_left M_right M_panes), ((a 1), aI cI 151 M_now), ((a 5), aI cI 49 M_queue), (xm, aI cI 49 M_marks)]) (as := [(a 0), (a 1), (a 5), xm]) (ws' := [((a 0), oM a M_edits M_typed M_readRows M_readColumns M_top M_bottom M_left M_right M_panes), ((a 1), aI cI 151 M_now), ((a 5), aI cI 49 M_queue), (xm, aI cI 49 M_marks)]) rfl rfl rfl rfl rfl rfl rfl rfl rfl rfl (Nat.le_of_ble_eq_true rfl) dX8_spread_58 (fun H locs h => ?_)
        refine x_iadd C (pc := 61) dX8_spread_61 ?_
        refine lv_goto hx hb (pc := 62) (tgt := 73) dX8_spread_62 rfl ?_
        have e9 := Option.some.inj hf
        subst e9
        exact Jr_58 _ _ _ (lv_sub hl [1, 2, 3, 4, 5, 6, 7, 0] rfl) h
set_option maxHeartbeats 4000000 in
set_option maxRecDepth 100000 in
theorem w_mo_spread_17 {p : Program} {l : Launch} {e : Env} {s : State} {m : MethodId} {args : Array Value} {below : List Frame} {meth : Method} {c : Code} {Q : State → Prop} {D : va_G} {cI cJ cZ cO : ClassId} {A : Nat → Prop} {H0 : Heap} {w0 : Cond} (C : XC p s m args c cX8_spread 11 RX8 w0 D (xT cI cJ cZ cO)) (a : Nat → Nat) (xm : Nat) (M_edits : Int) (M_typed : Int) (M_readRows : Int) (M_readColumns : Int) (M_top : Int) (M_bottom : Int) (M_left : Int) (M_right : Int) (M_panes : Int) (M_now : Int → Int) (Res : Int × (Int → Int) × (Int → Int)) (hret : XRI p l e rm_mo_spread s m args below meth c cX8_spread D A H0 Q Res.1 [((a 0), oM a M_edits M_typed M_readRows M_readColumns M_top M_bottom M_left M_right M_panes), ((a 1), aI cI 151 M_now), ((a 5), aI cI 49 Res.2.1), (xm, aI cI 49 Res.2.2)]) (N : Nat) (l3 : Int) : ∀ (n : Nat) (l4 : Int) (l5 : Int) (M_queue : Int → Int) (M_marks : Int → Int) (ls : Array Slot) (H : Heap) (locs : List Loc), lv_has ls 11 [(0, .ref (a 0)), (1, .ref xm), (3, iv l3), (4, iv l4), (5, iv l5)] → XH D A H0 [((a 0), oM a M_edits M_typed M_readRows M_readColumns M_top M_bottom M_left M_right M_panes), ((a 1), aI cI 151 M_now), ((a 5), aI cI 49 M_queue), (xm, aI cI 49 M_marks)] H locs → f_mo_spread_17 N l3 M_top M_bottom M_left M_right M_now n l4 l5 M_queue M_marks = some Res → W p l e rm_mo_spread s m args below meth c H locs 0 0 Q (F0 m 17 ls []) := by
  have hx := C.1.1
  have hb := C.1.2.1
  intro n
  induction n with
  | zero => intro l4 l5 M_queue M_marks ls H locs hl h hf; cases hf
  | succ n ih =>
    intro l4 l5 M_queue M_marks ls H locs hl h hf
    rw [f_mo_spread_17.eq_2] at hf
    refine lv_iload hx hb (pc := 17) dX8_spread_17 (lv_at hl 4 rfl) ?_
    refine lv_iload hx hb (pc := 19) dX8_spread_19 (lv_at hl 3 rfl) ?_
    obtain ⟨g_48, hf⟩ := og_some hf
    obtain ⟨g_49, hf⟩ := og_some hf
    refine x_icmpge C (pc := 21) (tgt := 234) g_48 g_49 dX8_spread_21 rfl (fun hc => ?_) (fun hc => ?_)
    · have hf := oi_t hf hc
      refine lv_iload hx hb (pc := 234) dX8_spread_234 (lv_at hl 3 rfl) ?_
      have e9 := Option.some.inj hf
      subst e9
      exact hret _ _ _ _ dX8_spread_236 h
    · have hf := oi_f hf hc
      refine lv_aload_n hx hb (pc := 24) dX8_spread_24 rfl (lv_at hl 0 rfl) ?_
      refine x_get C h (pc := 25) xf_X8_22 0 rfl (v := .ref (a 5)) rfl dX8_spread_25 ?_
      refine lv_iload hx hb (pc := 28) dX8_spread_28 (lv_at hl 4 rfl) ?_
      obtain ⟨g_50, hf⟩ := og_some hf
      refine x_iald C h (pc := 30) 2 0 rfl rfl (Nat.le_of_ble_eq_true rfl) g_50 dX8_spread_30 ?_
      obtain ⟨l6_51, el6_51, hf⟩ := ol_some hf
      refine x_topi el6_51 ?_
      refine lv_istore hx hb (pc := 31) (lv' := [(6, iv l6_51), (0, .ref (a 0)), (1, .ref xm), (3, iv l3), (4, iv l4), (5, iv l5)]) dX8_spread_31 hl (Nat.le_of_ble_eq_true rfl) rfl (fun ls hl => ?_)
      refine x_iconst C (pc := 33) dX8_spread_33 ?_
      refine lv_istore hx hb (pc := 34) (lv' := [(7, iv 0), (6, iv l6_51), (0, .ref (a 0)), (1, .ref xm), (3, iv l3), (4, iv l4), (5, iv l5)]) dX8_spread_34 hl (Nat.le_of_ble_eq_true rfl) rfl (fun ls hl => ?_)
      exact w_mo_spread_36 C a xm M_edits M_typed M_readRows M_readColumns M_top M_bottom M_left M_right M_panes M_now Res hret N l3 l5 l6_51 (f_mo_spread_17 N l3 M_top M_bottom M_left M_right M_now n) ih N l4 0 M_queue M_marks _ _ _ (lv_sub hl [2, 3, 4, 5, 6, 1, 0] rfl) h hf
set_option maxHeartbeats 4000000 in
set_option maxRecDepth 100000 in
theorem c_mo_spread (l : Launch) (D : va_G) (cI cJ cZ cO : ClassId) (a : Nat → Nat) (xm : Nat) (M_edits : Int) (M_typed : Int) (M_readRows : Int) (M_readColumns : Int) (M_top : Int) (M_bottom : Int) (M_left : Int) (M_right : Int) (M_panes : Int) (M_now : Int → Int) (M_queue : Int → Int) (M_marks : Int → Int) (l2 : Int) (l3 : Int) (N : Nat) (Res : Int × (Int → Int) × (Int → Int)) (hf : f_mo_spread N l2 l3 M_top M_bottom M_left M_right M_now M_queue M_marks = some Res) : CoI l D (xT cI cJ cZ cO) yX8_spread cX8_spread 11 (some .int) rm_mo_spread [.ref (a 0), .ref xm, iv l2, iv l3] [((a 0), oM a M_edits M_typed M_readRows M_readColumns M_top M_bottom M_left M_right M_panes), ((a 1), aI cI 151 M_now), ((a 5), aI cI 49 M_queue), (xm, aI cI 49 M_marks)] Res.1 [((a 0), oM a M_edits M_typed M_readRows M_readColumns M_top M_bottom M_left M_right M_panes), ((a 1), aI cI 151 M_now), ((a 5), aI cI 49 Res.2.1), (xm, aI cI 49 Res.2.2)] := by
  refine co_i (by decide) ⟨rfl, rfl⟩ (Nat.le_of_ble_eq_true rfl) ?_
  intro p e s m args below meth c A Q ls C hret hl h
  have hx := C.1.1
  have hb := C.1.2.1
  have hl : lv_has ls 11 [(0, .ref (a 0)), (1, .ref xm), (2, iv l2), (3, iv l3)] := hl
  unfold f_mo_spread at hf
  refine lv_aload_n hx hb (pc := 0) dX8_spread_0 rfl (lv_at hl 1 rfl) ?_
  refine lv_iload_n hx hb (pc := 1) dX8_spread_1 rfl (lv_at hl 2 rfl) ?_
  refine lv_iload_n hx hb (pc := 2) dX8_spread_2 rfl (lv_at hl 3 rfl) ?_
  obtain ⟨g_45, hf⟩ := og_some hf
  obtain ⟨M_marks_46, eM_marks_46, hf⟩ := ol_some hf
  refine x_iast C h (pc := 3) (ws' := [((a 0), oM a M_edits M_typed M_readRows M_readColumns M_top M_bottom M_left M_right M_panes), ((a 1), aI cI 151 M_now), ((a 5), aI cI 49 M_queue), (xm, aI cI 49 M_marks_46)]) 3 0 rfl rfl (Nat.le_of_ble_eq_true rfl) g_45 eM_marks_46 rfl dX8_spread_3 (fun H locs h => ?_)
  refine lv_aload_n hx hb (pc := 4) dX8_spread_4 rfl (lv_at hl 0 rfl) ?_
  refine x_get C h (pc := 5) xf_X8_22 0 rfl (v := .ref (a 5)) rfl dX8_spread_5 ?_
  refine x_iconst C (pc := 8) dX8_spread_8 ?_
  refine lv_iload_n hx hb (pc := 9) dX8_spread_9 rfl (lv_at hl 2 rfl) ?_
  obtain ⟨M_queue_47, eM_queue_47, hf⟩ := ol_some hf
  refine x_iast C h (pc := 10) (ws' := [((a 0), oM a M_edits M_typed M_readRows M_readColumns M_top M_bottom M_left M_right M_panes), ((a 1), aI cI 151 M_now), ((a 5), aI cI 49 M_queue_47), (xm, aI cI 49 M_marks_46)]) 2 0 rfl rfl (Nat.le_of_ble_eq_true rfl) ⟨by decide, by decide⟩ eM_queue_47 rfl dX8_spread_10 (fun H locs h => ?_)
  refine x_iconst C (pc := 11) dX8_spread_11 ?_
  refine lv_istore hx hb (pc := 12) (lv' := [(4, iv 1), (0, .ref (a 0)), (1, .ref xm), (2, iv l2), (3, iv l3)]) dX8_spread_12 hl (Nat.le_of_ble_eq_true rfl) rfl (fun ls hl => ?_)
  refine x_iconst C (pc := 14) dX8_spread_14 ?_
  refine lv_istore hx hb (pc := 15) (lv' := [(5, iv 0), (4, iv 1), (0, .ref (a 0)), (1, .ref xm), (2, iv l2), (3, iv l3)]) dX8_spread_15 hl (Nat.le_of_ble_eq_true rfl) rfl (fun ls hl => ?_)
  exact w_mo_spread_17 C a xm M_edits M_typed M_readRows M_readColumns M_top M_bottom M_left M_right M_panes M_now Res hret N l3 N 1 0 M_queue_47 M_marks_46 _ _ _ (lv_sub hl [2, 3, 5, 1, 0] rfl) h hf
abbrev rm_mo_wholeDrawing : Room := { frames := 0, cells := 0, slots := 0, locals := 0 }
set_option maxHeartbeats 4000000 in
set_option maxRecDepth 100000 in
theorem c_mo_wholeDrawing (l : Launch) (D : va_G) (cI cJ cZ cO : ClassId) (a : Nat → Nat) (M_edits : Int) (M_typed : Int) (M_readRows : Int) (M_readColumns : Int) (M_top : Int) (M_bottom : Int) (M_left : Int) (M_right : Int) (M_panes : Int) (M_now : Int → Int) (N : Nat) (Res : Int × Int × Int × Int) (hf : f_mo_wholeDrawing N M_top M_bottom M_left M_right M_now = some Res) : CoV l D (xT cI cJ cZ cO) yX8_wholeDrawing cX8_wholeDrawing 1 none rm_mo_wholeDrawing [.ref (a 0)] [((a 0), oM a M_edits M_typed M_readRows M_readColumns M_top M_bottom M_left M_right M_panes), ((a 1), aI cI 151 M_now)] [((a 0), oM a M_edits M_typed M_readRows M_readColumns Res.1 Res.2.1 Res.2.2.1 Res.2.2.2 M_panes), ((a 1), aI cI 151 M_now)] := by
  refine co_v (by decide) ⟨rfl, rfl⟩ (Nat.le_of_ble_eq_true rfl) ?_
  intro p e s m args below meth c A Q ls C hret hl h
  have hx := C.1.1
  have hb := C.1.2.1
  have hl : lv_has ls 1 [(0, .ref (a 0))] := hl
  unfold f_mo_wholeDrawing at hf
  refine lv_aload_n hx hb (pc := 0) dX8_wholeDrawing_0 rfl (lv_at hl 0 rfl) ?_
  refine x_iconst C (pc := 1) dX8_wholeDrawing_1 ?_
  refine x_puti C h (pc := 2) (ws' := [((a 0), oM a M_edits M_typed M_readRows M_readColumns 0 M_bottom M_left M_right M_panes), ((a 1), aI cI 151 M_now)]) xf_X8_125 xp_X8 rfl 0 rfl rfl (Nat.le_of_ble_eq_true rfl) rfl dX8_wholeDrawing_2 (fun H locs h => ?_)
  refine lv_aload_n hx hb (pc := 5) dX8_wholeDrawing_5 rfl (lv_at hl 0 rfl) ?_
  refine lv_aload_n hx hb (pc := 6) dX8_wholeDrawing_6 rfl (lv_at hl 0 rfl) ?_
  refine x_get C h (pc := 7) xf_X8_7 0 rfl (v := .ref (a 1)) rfl dX8_wholeDrawing_7 ?_
  refine x_iconst C (pc := 10) dX8_wholeDrawing_10 ?_
  refine x_iald C h (pc := 11) 1 0 rfl rfl (Nat.le_of_ble_eq_true rfl) ⟨by decide, by decide⟩ dX8_wholeDrawing_11 ?_
  refine x_iconst C (pc := 12) dX8_wholeDrawing_12 ?_
  refine x_isub C (pc := 13) dX8_wholeDrawing_13 ?_
  obtain ⟨M_bottom_1, eM_bottom_1, hf⟩ := ol_some hf
  refine x_topi eM_bottom_1 ?_
  refine x_puti C h (pc := 14) (ws' := [((a 0), oM a M_edits M_typed M_readRows M_readColumns 0 M_bottom_1 M_left M_right M_panes), ((a 1), aI cI 151 M_now)]) xf_X8_119 xp_X8 rfl 0 rfl rfl (Nat.le_of_ble_eq_true rfl) rfl dX8_wholeDrawing_14 (fun H locs h => ?_)
  refine lv_aload_n hx hb (pc := 17) dX8_wholeDrawing_17 rfl (lv_at hl 0 rfl) ?_
  refine x_iconst C (pc := 18) dX8_wholeDrawing_18 ?_
  refine x_puti C h (pc := 19) (ws' := [((a 0), oM a M_edits M_typed M_readRows M_readColumns 0 M_bottom_1 0 M_right M_panes), ((a 1), aI cI 151 M_now)]) xf_X8_122 xp_X8 rfl 0 rfl rfl (Nat.le_of_ble_eq_true rfl) rfl dX8_wholeDrawing_19 (fun H locs h => ?_)
  refine lv_aload_n hx hb (pc := 22) dX8_wholeDrawing_22 rfl (lv_at hl 0 rfl) ?_
  refine lv_aload_n hx hb (pc := 23) dX8_wholeDrawing_23 rfl (lv_at hl 0 rfl) ?_
  refine x_get C h (pc := 24) xf_X8_7 0 rfl (v := .ref (a 1)) rfl dX8_wholeDrawing_24 ?_
  refine x_iconst C (pc := 27) dX8_wholeDrawing_27 ?_
  refine x_iald C h (pc := 28) 1 0 rfl rfl (Nat.le_of_ble_eq_true rfl) ⟨by decide, by decide⟩ dX8_wholeDrawing_28 ?_
  refine x_iconst C (pc := 29) dX8_wholeDrawing_29 ?_
  refine x_isub C (pc := 30) dX8_wholeDrawing_30 ?_
  obtain ⟨M_right_2, eM_right_2, hf⟩ := ol_some hf
  refine x_topi eM_right_2 ?_
  refine x_puti C h (pc := 31) (ws' := [((a 0), oM a M_edits M_typed M_readRows M_readColumns 0 M_bottom_1 0 M_right_2 M_panes), ((a 1), aI cI 151 M_now)]) xf_X8_116 xp_X8 rfl 0 rfl rfl (Nat.le_of_ble_eq_true rfl) rfl dX8_wholeDrawing_31 (fun H locs h => ?_)
  have e9 := Option.some.inj hf
  subst e9
  exact hret _ _ _ _ dX8_wholeDrawing_34 h
abbrev rm_mo_findPanes : Room := { frames := 3, cells := 0, slots := 0, locals := 74 }
set_option maxHeartbeats 4000000 in
set_option maxRecDepth 100000 in
theorem w_mo_findPanes_32 {p : Program} {l : Launch} {e : Env} {s : State} {m : MethodId} {args : Array Value} {below : List Frame} {meth : Method} {c : Code} {Q : State → Prop} {D : va_G} {cI cJ cZ cO : ClassId} {A : Nat → Prop} {H0 : Heap} {w0 : Cond} (C : XC p s m args c cX8_findPanes 2 RX8 w0 D (xT cI cJ cZ cO)) (a : Nat → Nat) (M_edits : Int) (M_typed : Int) (M_readRows : Int) (M_readColumns : Int) (M_now : Int → Int) (Res : Int × Int × Int × Int × Int × (Int → Int) × (Int → Int) × (Int → Int)) (hret : XRV p l e rm_mo_findPanes s m args below meth c cX8_findPanes D A H0 Q [((a 0), oM a M_edits M_typed M_readRows M_readColumns Res.1 Res.2.1 Res.2.2.1 Res.2.2.2.1 Res.2.2.2.2.1), ((a 1), aI cI 151 M_now), ((a 5), aI cI 49 Res.2.2.2.2.2.1), ((a 6), aI cI 49 Res.2.2.2.2.2.2.1), ((a 8), aI cI 49 Res.2.2.2.2.2.2.2)]) (N : Nat) (M_top : Int) (M_bottom : Int) (M_left : Int) (M_right : Int) : ∀ (n : Nat) (l1 : Int) (M_panes : Int) (M_queue : Int → Int) (M_pane : Int → Int) (M_size : Int → Int) (ls : Array Slot) (H : Heap) (locs : List Loc), lv_has ls 2 [(0, .ref (a 0)), (1, iv l1)] → XH D A H0 [((a 0), oM a M_edits M_typed M_readRows M_readColumns M_top M_bottom M_left M_right M_panes), ((a 1), aI cI 151 M_now), ((a 5), aI cI 49 M_queue), ((a 6), aI cI 49 M_pane), ((a 8), aI cI 49 M_size)] H locs → f_mo_findPanes_32 N M_top M_bottom M_left M_right M_now n l1 M_panes M_queue M_pane M_size = some Res → W p l e rm_mo_findPanes s m args below meth c H locs 0 0 Q (F0 m 32 ls []) := by
  have hx := C.1.1
  have hb := C.1.2.1
  intro n
  induction n with
  | zero => intro l1 M_panes M_queue M_pane M_size ls H locs hl h hf; cases hf
  | succ n ih =>
    intro l1 M_panes M_queue M_pane M_size ls H locs hl h hf
    rw [f_mo_findPanes_32.eq_2] at hf
    refine lv_iload_n hx hb (pc := 32) dX8_findPanes_32 rfl (lv_at hl 1 rfl) ?_
    refine x_bipush C (pc := 33) dX8_findPanes_33 (by decide) ?_
    obtain ⟨g_6, hf⟩ := og_some hf
    refine x_icmpge C (pc := 35) (tgt := 100) g_6 ⟨by decide, by decide⟩ dX8_findPanes_35 rfl (fun hc => ?_) (fun hc => ?_)
    · have hf := oi_t hf hc
      have e9 := Option.some.inj hf
      subst e9
      exact hret _ _ _ _ dX8_findPanes_100 h
    · have hf := oi_f hf hc
      refine lv_aload_n hx hb (pc := 38) dX8_findPanes_38 rfl (lv_at hl 0 rfl) ?_
      refine lv_iload_n hx hb (pc := 39) dX8_findPanes_39 rfl (lv_at hl 1 rfl) ?_
      refine x_bipush C (pc := 40) dX8_findPanes_40 (by decide) ?_
      obtain ⟨g_7, hf⟩ := og_some hf
      refine x_idiv C (pc := 42) g_7 ⟨by decide, by decide⟩ dX8_findPanes_42 ?_
      refine lv_iload_n hx hb (pc := 43) dX8_findPanes_43 rfl (lv_at hl 1 rfl) ?_
      refine x_bipush C (pc := 44) dX8_findPanes_44 (by decide) ?_
      refine x_irem C (pc := 46) g_7 ⟨by decide, by decide⟩ dX8_findPanes_46 ?_
      obtain ⟨q_8, hq_8, hf⟩ := ob_some hf
      refine x_callVi C h (pc := 47) hl (c_mo_isCell l D cI cJ cZ cO a M_edits M_typed M_readRows M_readColumns M_top M_bottom M_left M_right M_panes M_now (l1 / 7) (l1 % 7) N q_8 hq_8) xv_X8_isCell lk_X8_95 ⟨(Nat.le_of_ble_eq_true rfl), (Nat.le_of_ble_eq_true rfl)⟩ rfl [0, 1] [2, 3, 4] (nw := 5) (wr := [((a 5), aI cI 49 M_queue), ((a 6), aI cI 49 M_pane), ((a 8), aI cI 49 M_size)]) (as := [(a 0), (a 1), (a 5), (a 6), (a 8)]) (ws' := [((a 0), oM a M_edits M_typed M_readRows M_readColumns M_top M_bottom M_left M_right M_panes), ((a 1), aI cI 151 M_now), ((a 5), aI cI 49 M_queue), ((a 6), aI cI 49 M_pane), ((a 8), aI cI 49 M_size)]) rfl rfl rfl rfl rfl rfl rfl rfl rfl 0 rfl rfl rfl rfl (Nat.le_of_ble_eq_true rfl) dX8_findPanes_47 (fun H locs h => ?_)
      obtain ⟨g_9, hf⟩ := og_some hf
      obtain ⟨r_19, hrr_19, hf⟩ := ob_some hf
      have Jr_19 : ∀ (ls : Array Slot) (H : Heap) (locs : List Loc), lv_has ls 2 [(0, .ref (a 0)), (1, iv r_19.1)] → XH D A H0 [((a 0), oM a M_edits M_typed M_readRows M_readColumns M_top M_bottom M_left M_right r_19.2.1), ((a 1), aI cI 151 M_now), ((a 5), aI cI 49 r_19.2.2.1), ((a 6), aI cI 49 r_19.2.2.2.1), ((a 8), aI cI 49 r_19.2.2.2.2)] H locs → W p l e rm_mo_findPanes s m args below meth c H locs 0 0 Q (F0 m 32 ls []) := by
        intro ls H locs hl h
        exact ih r_19.1 r_19.2.1 r_19.2.2.1 r_19.2.2.2.1 r_19.2.2.2.2 _ _ _ (lv_sub hl [0, 1] rfl) h hf
      clear hf
      have hf := hrr_19
      refine x_ifeq C (pc := 50) (tgt := 94) g_9 dX8_findPanes_50 rfl (fun hc => ?_) (fun hc => ?_)
      · have hf := oi_t hf hc
        obtain ⟨l1_10, el1_10, hf⟩ := ol_some hf
        refine x_iinc C (pc := 94) (k := 1) (lw' := [(1, iv l1_10), (0, .ref (a 0))]) dX8_findPanes_94 hl rfl el1_10 (Nat.le_of_ble_eq_true rfl) rfl (fun ls hl => ?_)
        refine lv_goto hx hb (pc := 97) (tgt := 32) dX8_findPanes_97 rfl ?_
        have e9 := Option.some.inj hf
        subst e9
        exact Jr_19 _ _ _ (lv_sub hl [1, 0] rfl) h
      · have hf := oi_f hf hc
        refine lv_aload_n hx hb (pc := 53) dX8_findPanes_53 rfl (lv_at hl 0 rfl) ?_
        refine x_get C h (pc := 54) xf_X8_25 0 rfl (v := .ref (a 6)) rfl dX8_findPanes_54 ?_
        refine lv_iload_n hx hb (pc := 57) dX8_findPanes_57 rfl (lv_at hl 1 rfl) ?_
        obtain ⟨g_11, hf⟩ := og_some hf
        refine x_iald C h (pc := 58) 3 0 rfl rfl (Nat.le_of_ble_eq_true rfl) g_11 dX8_findPanes_58 ?_
        obtain ⟨g_12, hf⟩ := og_some hf
        refine x_ifge C (pc := 59) (tgt := 94) g_12 dX8_findPanes_59 rfl (fun hc => ?_) (fun hc => ?_)
        · have hf := oi_t hf hc
          obtain ⟨l1_13, el1_13, hf⟩ := ol_some hf
          refine x_iinc C (pc := 94) (k := 1) (lw' := [(1, iv l1_13), (0, .ref (a 0))]) dX8_findPanes_94 hl rfl el1_13 (Nat.le_of_ble_eq_true rfl) rfl (fun ls hl => ?_)
          refine lv_goto hx hb (pc := 97) (tgt := 32) dX8_findPanes_97 rfl ?_
          have e9 := Option.some.inj hf
          subst e9
          exact Jr_19 _ _ _ (lv_sub hl [1, 0] rfl) h
        · have hf := oi_f hf hc
          refine lv_aload_n hx hb (pc := 62) dX8_findPanes_62 rfl (lv_at hl 0 rfl) ?_
          refine x_get C h (pc := 63) xf_X8_31 0 rfl (v := .ref (a 8)) rfl dX8_findPanes_63 ?_
          refine lv_aload_n hx hb (pc := 66) dX8_findPanes_66 rfl (lv_at hl 0 rfl) ?_
          refine x_get C h (pc := 67) xf_X8_92 0 rfl (v := iv M_panes) rfl dX8_findPanes_67 ?_
          refine lv_aload_n hx hb (pc := 70) dX8_findPanes_70 rfl (lv_at hl 0 rfl) ?_
          refine lv_aload_n hx hb (pc := 71) dX8_findPanes_71 rfl (lv_at hl 0 rfl) ?_
          refine x_get C h (pc := 72) xf_X8_25 0 rfl (v := .ref (a 6)) rfl dX8_findPanes_72 ?_
          refine lv_iload_n hx hb (pc := 75) dX8_findPanes_75 rfl (lv_at hl 1 rfl) ?_
          refine lv_aload_n hx hb (pc := 76) dX8_findPanes_76 rfl (lv_at hl 0 rfl) ?_
          refine x_get C h (pc := 77) xf_X8_92 0 rfl (v := iv M_panes) rfl dX8_findPanes_77 ?_
          obtain ⟨q_14, hq_14, hf⟩ := ob_some hf
          refine x_callVi C h (pc := 80) hl (c_mo_spread l D cI cJ cZ cO a (a 6) M_edits M_typed M_readRows M_readColumns M_top M_bottom M_left M_right M_panes M_now M_queue M_pane l1 M_panes N q_14 hq_14) xv_X8_spread lk_X8_134 ⟨(Nat.le_of_ble_eq_true rfl), (Nat.le_of_ble_eq_true rfl)⟩ rfl [0, 1, 2, 3] [4] (nw := 5) (wr := [((a 8), aI cI 49 M_size)]) (as := [(a 0), (a 1), (a 5), (a 6), (a 8)]) (ws' := [((a 0), oM a M_edits M_typed M_readRows M_readColumns M_top M_bottom M_left M_right M_panes), ((a 1), aI cI 151 M_now), ((a 5), aI cI 49 q_14.2.1), ((a 6), aI cI 49 q_14.2.2), ((a 8), aI cI 49 M_size)]) rfl rfl rfl rfl rfl rfl rfl rfl rfl 0 rfl rfl rfl rfl (Nat.le_of_ble_eq_true rfl) dX8_findPanes_80 (fun H locs h => ?_)
          obtain ⟨g_15, hf⟩ := og_some hf
          obtain ⟨M_size_16, eM_size_16, hf⟩ := ol_some hf
          refine x_iast C h (pc := 83) (ws' := [((a 0), oM a M_edits M_typed M_readRows M_readColumns M_top M_bottom M_left M_right M_panes), ((a 1), aI cI 151 M_now), ((a 5), aI cI 49 q_14.2.1), ((a 6), aI cI 49 q_14.2.2), ((a 8), aI cI 49 M_size_16)]) 4 0 rfl rfl (Nat.le_of_ble_eq_true rfl) g_15 eM_size_16 rfl dX8_findPanes_83 (fun H locs h => ?_)
          refine lv_aload_n hx hb (pc := 84) dX8_findPanes_84 rfl (lv_at hl 0 rfl) ?_
          refine lv_dup hx hb (pc := 85) dX8_findPanes_85 rfl ?_
          refine x_get C h (pc := 86) xf_X8_92 0 rfl (v := iv M_panes) rfl dX8_findPanes_86 ?_
          refine x_iconst C (pc := 89) dX8_findPanes_89 ?_
          refine x_iadd C (pc := 90) dX8_findPanes_90 ?_
          obtain ⟨M_panes_17, eM_panes_17, hf⟩ := ol_some hf
          refine x_topi eM_panes_17 ?_
          refine x_puti C h (pc := 91) (ws' := [((a 0), oM a M_edits M_typed M_readRows M_readColumns M_top M_bottom M_left M_right M_panes_17), ((a 1), aI cI 151 M_now), ((a 5), aI cI 49 q_14.2.1), ((a 6), aI cI 49 q_14.2.2), ((a 8), aI cI 49 M_size_16)]) xf_X8_92 xp_X8 rfl 0 rfl rfl (Nat.le_of_ble_eq_true rfl) rfl dX8_findPanes_91 (fun H locs h => ?_)
          obtain ⟨l1_18, el1_18, hf⟩ := ol_some hf
          refine x_iinc C (pc := 94) (k := 1) (lw' := [(1, iv l1_18), (0, .ref (a 0))]) dX8_findPanes_94 hl rfl el1_18 (Nat.le_of_ble_eq_true rfl) rfl (fun ls hl => ?_)
          refine lv_goto hx hb (pc := 97) (tgt := 32) dX8_findPanes_97 rfl ?_
          have e9 := Option.some.inj hf
          subst e9
          exact Jr_19 _ _ _ (lv_sub hl [1, 0] rfl) h
set_option maxHeartbeats 4000000 in
set_option maxRecDepth 100000 in
theorem w_mo_findPanes_11 {p : Program} {l : Launch} {e : Env} {s : State} {m : MethodId} {args : Array Value} {below : List Frame} {meth : Method} {c : Code} {Q : State → Prop} {D : va_G} {cI cJ cZ cO : ClassId} {A : Nat → Prop} {H0 : Heap} {w0 : Cond} (C : XC p s m args c cX8_findPanes 2 RX8 w0 D (xT cI cJ cZ cO)) (a : Nat → Nat) (M_edits : Int) (M_typed : Int) (M_readRows : Int) (M_readColumns : Int) (M_now : Int → Int) (Res : Int × Int × Int × Int × Int × (Int → Int) × (Int → Int) × (Int → Int)) (hret : XRV p l e rm_mo_findPanes s m args below meth c cX8_findPanes D A H0 Q [((a 0), oM a M_edits M_typed M_readRows M_readColumns Res.1 Res.2.1 Res.2.2.1 Res.2.2.2.1 Res.2.2.2.2.1), ((a 1), aI cI 151 M_now), ((a 5), aI cI 49 Res.2.2.2.2.2.1), ((a 6), aI cI 49 Res.2.2.2.2.2.2.1), ((a 8), aI cI 49 Res.2.2.2.2.2.2.2)]) (N : Nat) (M_top : Int) (M_bottom : Int) (M_left : Int) (M_right : Int) (M_panes : Int) (M_queue : Int → Int) (M_size : Int → Int) : ∀ (n : Nat) (l1 : Int) (M_pane : Int → Int) (ls : Array Slot) (H : Heap) (locs : List Loc), lv_has ls 2 [(0, .ref (a 0)), (1, iv l1)] → XH D A H0 [((a 0), oM a M_edits M_typed M_readRows M_readColumns M_top M_bottom M_left M_right M_panes), ((a 1), aI cI 151 M_now), ((a 5), aI cI 49 M_queue), ((a 6), aI cI 49 M_pane), ((a 8), aI cI 49 M_size)] H locs → f_mo_findPanes_11 N M_top M_bottom M_left M_right M_panes M_queue M_size M_now n l1 M_pane = some Res → W p l e rm_mo_findPanes s m args below meth c H locs 0 0 Q (F0 m 11 ls []) := by
  have hx := C.1.1
  have hb := C.1.2.1
  intro n
  induction n with
  | zero => intro l1 M_pane ls H locs hl h hf; cases hf
  | succ n ih =>
    intro l1 M_pane ls H locs hl h hf
    rw [f_mo_findPanes_11.eq_2] at hf
    refine lv_iload_n hx hb (pc := 11) dX8_findPanes_11 rfl (lv_at hl 1 rfl) ?_
    refine x_bipush C (pc := 12) dX8_findPanes_12 (by decide) ?_
    obtain ⟨g_2, hf⟩ := og_some hf
    refine x_icmpge C (pc := 14) (tgt := 30) g_2 ⟨by decide, by decide⟩ dX8_findPanes_14 rfl (fun hc => ?_) (fun hc => ?_)
    · have hf := oi_t hf hc
      refine x_iconst C (pc := 30) dX8_findPanes_30 ?_
      refine lv_istore_n hx hb (pc := 31) (lv' := [(1, iv 0), (0, .ref (a 0))]) dX8_findPanes_31 rfl hl (Nat.le_of_ble_eq_true rfl) rfl (fun ls hl => ?_)
      exact w_mo_findPanes_32 C a M_edits M_typed M_readRows M_readColumns M_now Res hret N M_top M_bottom M_left M_right N 0 M_panes M_queue M_pane M_size _ _ _ (lv_sub hl [1, 0] rfl) h hf
    · have hf := oi_f hf hc
      refine lv_aload_n hx hb (pc := 17) dX8_findPanes_17 rfl (lv_at hl 0 rfl) ?_
      refine x_get C h (pc := 18) xf_X8_25 0 rfl (v := .ref (a 6)) rfl dX8_findPanes_18 ?_
      refine lv_iload_n hx hb (pc := 21) dX8_findPanes_21 rfl (lv_at hl 1 rfl) ?_
      refine x_iconst C (pc := 22) dX8_findPanes_22 ?_
      obtain ⟨g_3, hf⟩ := og_some hf
      obtain ⟨M_pane_4, eM_pane_4, hf⟩ := ol_some hf
      refine x_iast C h (pc := 23) (ws' := [((a 0), oM a M_edits M_typed M_readRows M_readColumns M_top M_bottom M_left M_right M_panes), ((a 1), aI cI 151 M_now), ((a 5), aI cI 49 M_queue), ((a 6), aI cI 49 M_pane_4), ((a 8), aI cI 49 M_size)]) 3 0 rfl rfl (Nat.le_of_ble_eq_true rfl) g_3 eM_pane_4 rfl dX8_findPanes_23 (fun H locs h => ?_)
      obtain ⟨l1_5, el1_5, hf⟩ := ol_some hf
      refine x_iinc C (pc := 24) (k := 1) (lw' := [(1, iv l1_5), (0, .ref (a 0))]) dX8_findPanes_24 hl rfl el1_5 (Nat.le_of_ble_eq_true rfl) rfl (fun ls hl => ?_)
      refine lv_goto hx hb (pc := 27) (tgt := 11) dX8_findPanes_27 rfl ?_
      exact ih l1_5 M_pane_4 _ _ _ (lv_sub hl [1, 0] rfl) h hf
set_option maxHeartbeats 4000000 in
set_option maxRecDepth 100000 in
theorem c_mo_findPanes (l : Launch) (D : va_G) (cI cJ cZ cO : ClassId) (a : Nat → Nat) (M_edits : Int) (M_typed : Int) (M_readRows : Int) (M_readColumns : Int) (M_top : Int) (M_bottom : Int) (M_left : Int) (M_right : Int) (M_panes : Int) (M_now : Int → Int) (M_queue : Int → Int) (M_pane : Int → Int) (M_size : Int → Int) (N : Nat) (Res : Int × Int × Int × Int × Int × (Int → Int) × (Int → Int) × (Int → Int)) (hf : f_mo_findPanes N M_top M_bottom M_left M_right M_panes M_now M_queue M_pane M_size = some Res) : CoV l D (xT cI cJ cZ cO) yX8_findPanes cX8_findPanes 2 none rm_mo_findPanes [.ref (a 0)] [((a 0), oM a M_edits M_typed M_readRows M_readColumns M_top M_bottom M_left M_right M_panes), ((a 1), aI cI 151 M_now), ((a 5), aI cI 49 M_queue), ((a 6), aI cI 49 M_pane), ((a 8), aI cI 49 M_size)] [((a 0), oM a M_edits M_typed M_readRows M_readColumns Res.1 Res.2.1 Res.2.2.1 Res.2.2.2.1 Res.2.2.2.2.1), ((a 1), aI cI 151 M_now), ((a 5), aI cI 49 Res.2.2.2.2.2.1), ((a 6), aI cI 49 Res.2.2.2.2.2.2.1), ((a 8), aI cI 49 Res.2.2.2.2.2.2.2)] := by
  refine co_v (by decide) ⟨rfl, rfl⟩ (Nat.le_of_ble_eq_true rfl) ?_
  intro p e s m args below meth c A Q ls C hret hl h
  have hx := C.1.1
  have hb := C.1.2.1
  have hl : lv_has ls 2 [(0, .ref (a 0))] := hl
  unfold f_mo_findPanes at hf
  refine lv_aload_n hx hb (pc := 0) dX8_findPanes_0 rfl (lv_at hl 0 rfl) ?_
  obtain ⟨q_1, hq_1, hf⟩ := ob_some hf
  refine x_callVv C h (pc := 1) hl (c_mo_wholeDrawing l D cI cJ cZ cO a M_edits M_typed M_readRows M_readColumns M_top M_bottom M_left M_right M_panes M_now N q_1 hq_1) xv_X8_wholeDrawing lk_X8_131 ⟨(Nat.le_of_ble_eq_true rfl), (Nat.le_of_ble_eq_true rfl)⟩ rfl [0, 1] [2, 3, 4] (nw := 5) (wr := [((a 5), aI cI 49 M_queue), ((a 6), aI cI 49 M_pane), ((a 8), aI cI 49 M_size)]) (as := [(a 0), (a 1), (a 5), (a 6), (a 8)]) (ws' := [((a 0), oM a M_edits M_typed M_readRows M_readColumns q_1.1 q_1.2.1 q_1.2.2.1 q_1.2.2.2 M_panes), ((a 1), aI cI 151 M_now), ((a 5), aI cI 49 M_queue), ((a 6), aI cI 49 M_pane), ((a 8), aI cI 49 M_size)]) rfl rfl rfl rfl rfl rfl rfl rfl rfl 0 rfl rfl rfl rfl (Nat.le_of_ble_eq_true rfl) dX8_findPanes_1 (fun H locs h => ?_)
  refine lv_aload_n hx hb (pc := 4) dX8_findPanes_4 rfl (lv_at hl 0 rfl) ?_
  refine x_iconst C (pc := 5) dX8_findPanes_5 ?_
  refine x_puti C h (pc := 6) (ws' := [((a 0), oM a M_edits M_typed M_readRows M_readColumns q_1.1 q_1.2.1 q_1.2.2.1 q_1.2.2.2 0), ((a 1), aI cI 151 M_now), ((a 5), aI cI 49 M_queue), ((a 6), aI cI 49 M_pane), ((a 8), aI cI 49 M_size)]) xf_X8_92 xp_X8 rfl 0 rfl rfl (Nat.le_of_ble_eq_true rfl) rfl dX8_findPanes_6 (fun H locs h => ?_)
  refine x_iconst C (pc := 9) dX8_findPanes_9 ?_
  refine lv_istore_n hx hb (pc := 10) (lv' := [(1, iv 0), (0, .ref (a 0))]) dX8_findPanes_10 rfl hl (Nat.le_of_ble_eq_true rfl) rfl (fun ls hl => ?_)
  exact w_mo_findPanes_11 C a M_edits M_typed M_readRows M_readColumns M_now Res hret N q_1.1 q_1.2.1 q_1.2.2.1 q_1.2.2.2 0 M_queue M_size N 0 M_pane _ _ _ (lv_sub hl [1, 0] rfl) h hf
abbrev rm_mo_loadDrawing : Room := { frames := 4, cells := 0, slots := 0, locals := 95 }
set_option maxHeartbeats 4000000 in
set_option maxRecDepth 100000 in
theorem w_mo_loadDrawing_41 {p : Program} {l : Launch} {e : Env} {s : State} {m : MethodId} {args : Array Value} {below : List Frame} {meth : Method} {c : Code} {Q : State → Prop} {D : va_G} {cI cJ cZ cO : ClassId} {A : Nat → Prop} {H0 : Heap} {w0 : Cond} (C : XC p s m args c cX8_loadDrawing 4 RX8 w0 D (xT cI cJ cZ cO)) (a : Nat → Nat) (M_text : Int → Int) (Res : Int × Int × Int × Int × Int × Int × Int × Int × Int × Int × (Int → Int) × (Int → Int) × (Int → Int) × (Int → Int) × (Int → Int) × (Int → Int)) (hret : XRI p l e rm_mo_loadDrawing s m args below meth c cX8_loadDrawing D A H0 Q Res.1 [((a 0), oM a Res.2.1 Res.2.2.1 Res.2.2.2.1 Res.2.2.2.2.1 Res.2.2.2.2.2.1 Res.2.2.2.2.2.2.1 Res.2.2.2.2.2.2.2.1 Res.2.2.2.2.2.2.2.2.1 Res.2.2.2.2.2.2.2.2.2.1), ((a 1), aI cI 151 Res.2.2.2.2.2.2.2.2.2.2.1), ((a 2), aI cI 1208 Res.2.2.2.2.2.2.2.2.2.2.2.1), ((a 3), aI cI 80 M_text), ((a 4), aI cI 49 Res.2.2.2.2.2.2.2.2.2.2.2.2.1), ((a 5), aI cI 49 Res.2.2.2.2.2.2.2.2.2.2.2.2.2.1), ((a 6), aI cI 49 Res.2.2.2.2.2.2.2.2.2.2.2.2.2.2.1), ((a 8), aI cI 49 Res.2.2.2.2.2.2.2.2.2.2.2.2.2.2.2)]) (N : Nat) (M_edits : Int) (M_typed : Int) (M_readRows : Int) (M_readColumns : Int) (M_top : Int) (M_bottom : Int) (M_left : Int) (M_right : Int) (M_panes : Int) (M_past : Int → Int) (M_read : Int → Int) (M_queue : Int → Int) (M_pane : Int → Int) (M_size : Int → Int) : ∀ (n : Nat) (l2 : Int) (M_now : Int → Int) (ls : Array Slot) (H : Heap) (locs : List Loc), lv_has ls 4 [(0, .ref (a 0)), (2, iv l2)] → XH D A H0 [((a 0), oM a M_edits M_typed M_readRows M_readColumns M_top M_bottom M_left M_right M_panes), ((a 1), aI cI 151 M_now), ((a 2), aI cI 1208 M_past), ((a 3), aI cI 80 M_text), ((a 4), aI cI 49 M_read), ((a 5), aI cI 49 M_queue), ((a 6), aI cI 49 M_pane), ((a 8), aI cI 49 M_size)] H locs → f_mo_loadDrawing_41 N M_edits M_typed M_readRows M_readColumns M_top M_bottom M_left M_right M_panes M_past M_read M_queue M_pane M_size n l2 M_now = some Res → W p l e rm_mo_loadDrawing s m args below meth c H locs 0 0 Q (F0 m 41 ls []) := by
  have hx := C.1.1
  have hb := C.1.2.1
  intro n
  induction n with
  | zero => intro l2 M_now ls H locs hl h hf; cases hf
  | succ n ih =>
    intro l2 M_now ls H locs hl h hf
    rw [f_mo_loadDrawing_41.eq_2] at hf
    refine lv_iload_n hx hb (pc := 41) dX8_loadDrawing_41 rfl (lv_at hl 1 rfl) ?_
    refine x_bipush C (pc := 42) dX8_loadDrawing_42 (by decide) ?_
    obtain ⟨g_29, hf⟩ := og_some hf
    refine x_icmpge C (pc := 44) (tgt := 123) g_29 ⟨by decide, by decide⟩ dX8_loadDrawing_44 rfl (fun hc => ?_) (fun hc => ?_)
    · have hf := oi_t hf hc
      refine lv_aload_n hx hb (pc := 123) dX8_loadDrawing_123 rfl (lv_at hl 0 rfl) ?_
      refine x_iconst C (pc := 124) dX8_loadDrawing_124 ?_
      refine x_puti C h (pc := 125) (ws' := [((a 0), oM a M_edits 0 M_readRows M_readColumns M_top M_bottom M_left M_right M_panes), ((a 1), aI cI 151 M_now), ((a 2), aI cI 1208 M_past), ((a 3), aI cI 80 M_text), ((a 4), aI cI 49 M_read), ((a 5), aI cI 49 M_queue), ((a 6), aI cI 49 M_pane), ((a 8), aI cI 49 M_size)]) xf_X8_76 xp_X8 rfl 0 rfl rfl (Nat.le_of_ble_eq_true rfl) rfl dX8_loadDrawing_125 (fun H locs h => ?_)
      refine lv_aload_n hx hb (pc := 128) dX8_loadDrawing_128 rfl (lv_at hl 0 rfl) ?_
      obtain ⟨q_30, hq_30, hf⟩ := ob_some hf
      refine x_callVv C h (pc := 129) hl (c_mo_findPanes l D cI cJ cZ cO a M_edits 0 M_readRows M_readColumns M_top M_bottom M_left M_right M_panes M_now M_queue M_pane M_size N q_30 hq_30) xv_X8_findPanes lk_X8_89 ⟨(Nat.le_of_ble_eq_true rfl), (Nat.le_of_ble_eq_true rfl)⟩ rfl [0, 1, 5, 6, 7] [2, 3, 4] (nw := 8) (wr := [((a 2), aI cI 1208 M_past), ((a 3), aI cI 80 M_text), ((a 4), aI cI 49 M_read)]) (as := [(a 0), (a 1), (a 2), (a 3), (a 4), (a 5), (a 6), (a 8)]) (ws' := [((a 0), oM a M_edits 0 M_readRows M_readColumns q_30.1 q_30.2.1 q_30.2.2.1 q_30.2.2.2.1 q_30.2.2.2.2.1), ((a 1), aI cI 151 M_now), ((a 2), aI cI 1208 M_past), ((a 3), aI cI 80 M_text), ((a 4), aI cI 49 M_read), ((a 5), aI cI 49 q_30.2.2.2.2.2.1), ((a 6), aI cI 49 q_30.2.2.2.2.2.2.1), ((a 8), aI cI 49 q_30.2.2.2.2.2.2.2)]) rfl rfl rfl rfl rfl rfl rfl rfl rfl 0 rfl rfl rfl rfl (Nat.le_of_ble_eq_true rfl) dX8_loadDrawing_129 (fun H locs h => ?_)
      refine lv_aload_n hx hb (pc := 132) dX8_loadDrawing_132 rfl (lv_at hl 0 rfl) ?_
      refine x_get C h (pc := 133) xf_X8_92 0 rfl (v := iv q_30.2.2.2.2.1) rfl dX8_loadDrawing_133 ?_
      have e9 := Option.some.inj hf
      subst e9
      exact hret _ _ _ _ dX8_loadDrawing_136 h
    · have hf := oi_f hf hc
      refine lv_iload_n hx hb (pc := 47) dX8_loadDrawing_47 rfl (lv_at hl 1 rfl) ?_
      refine x_bipush C (pc := 48) dX8_loadDrawing_48 (by decide) ?_
      obtain ⟨g_31, hf⟩ := og_some hf
      refine x_idiv C (pc := 50) g_31 ⟨by decide, by decide⟩ dX8_loadDrawing_50 ?_
      refine lv_aload_n hx hb (pc := 51) dX8_loadDrawing_51 rfl (lv_at hl 0 rfl) ?_
      refine x_get C h (pc := 52) xf_X8_79 0 rfl (v := iv M_readRows) rfl dX8_loadDrawing_52 ?_
      obtain ⟨g_32, hf⟩ := og_some hf
      obtain ⟨g_33, hf⟩ := og_some hf
      obtain ⟨r_36, hrr_36, hf⟩ := ob_some hf
      have Jr_36 : ∀ (ls : Array Slot) (H : Heap) (locs : List Loc), lv_has ls 4 [(0, .ref (a 0)), (2, iv l2)] → XH D A H0 [((a 0), oM a M_edits M_typed M_readRows M_readColumns M_top M_bottom M_left M_right M_panes), ((a 1), aI cI 151 M_now), ((a 2), aI cI 1208 M_past), ((a 3), aI cI 80 M_text), ((a 4), aI cI 49 M_read), ((a 5), aI cI 49 M_queue), ((a 6), aI cI 49 M_pane), ((a 8), aI cI 49 M_size)] H locs → W p l e rm_mo_loadDrawing s m args below meth c H locs 0 0 Q (F0 m 74 ls [iv r_36]) := by
        intro ls H locs hl h
        refine lv_istore_n hx hb (pc := 74) (lv' := [(3, iv r_36), (0, .ref (a 0)), (2, iv l2)]) dX8_loadDrawing_74 rfl hl (Nat.le_of_ble_eq_true rfl) rfl (fun ls hl => ?_)
        refine lv_aload_n hx hb (pc := 75) dX8_loadDrawing_75 rfl (lv_at hl 1 rfl) ?_
        refine x_get C h (pc := 76) xf_X8_7 0 rfl (v := .ref (a 1)) rfl dX8_loadDrawing_76 ?_
        refine x_iconst C (pc := 79) dX8_loadDrawing_79 ?_
        refine lv_iload_n hx hb (pc := 80) dX8_loadDrawing_80 rfl (lv_at hl 2 rfl) ?_
        refine x_iadd C (pc := 81) dX8_loadDrawing_81 ?_
        refine lv_iload_n hx hb (pc := 82) dX8_loadDrawing_82 rfl (lv_at hl 0 rfl) ?_
        obtain ⟨g_37, hf⟩ := og_some hf
        obtain ⟨r_39, hrr_39, hf⟩ := ob_some hf
        have Jr_39 : ∀ (ls : Array Slot) (H : Heap) (locs : List Loc), lv_has ls 4 [(0, .ref (a 0)), (2, iv l2)] → XH D A H0 [((a 0), oM a M_edits M_typed M_readRows M_readColumns M_top M_bottom M_left M_right M_panes), ((a 1), aI cI 151 M_now), ((a 2), aI cI 1208 M_past), ((a 3), aI cI 80 M_text), ((a 4), aI cI 49 M_read), ((a 5), aI cI 49 M_queue), ((a 6), aI cI 49 M_pane), ((a 8), aI cI 49 M_size)] H locs → W p l e rm_mo_loadDrawing s m args below meth c H locs 0 0 Q (F0 m 96 ls [iv r_39, iv (4 + l2), .ref (a 1)]) := by
          intro ls H locs hl h
          obtain ⟨g_40, hf⟩ := og_some hf
          obtain ⟨M_now_41, eM_now_41, hf⟩ := ol_some hf
          refine x_iast C h (pc := 96) (ws' := [((a 0), oM a M_edits M_typed M_readRows M_readColumns M_top M_bottom M_left M_right M_panes), ((a 1), aI cI 151 M_now_41), ((a 2), aI cI 1208 M_past), ((a 3), aI cI 80 M_text), ((a 4), aI cI 49 M_read), ((a 5), aI cI 49 M_queue), ((a 6), aI cI 49 M_pane), ((a 8), aI cI 49 M_size)]) 1 0 rfl rfl (Nat.le_of_ble_eq_true rfl) g_40 eM_now_41 rfl dX8_loadDrawing_96 (fun H locs h => ?_)
          refine lv_aload_n hx hb (pc := 97) dX8_loadDrawing_97 rfl (lv_at hl 0 rfl) ?_
          refine x_get C h (pc := 98) xf_X8_7 0 rfl (v := .ref (a 1)) rfl dX8_loadDrawing_98 ?_
          refine x_bipush C (pc := 101) dX8_loadDrawing_101 (by decide) ?_
          refine lv_iload_n hx hb (pc := 103) dX8_loadDrawing_103 rfl (lv_at hl 1 rfl) ?_
          refine x_iadd C (pc := 104) dX8_loadDrawing_104 ?_
          refine x_iconst C (pc := 105) dX8_loadDrawing_105 ?_
          obtain ⟨g_42, hf⟩ := og_some hf
          obtain ⟨M_now_43, eM_now_43, hf⟩ := ol_some hf
          refine x_iast C h (pc := 106) (ws' := [((a 0), oM a M_edits M_typed M_readRows M_readColumns M_top M_bottom M_left M_right M_panes), ((a 1), aI cI 151 M_now_43), ((a 2), aI cI 1208 M_past), ((a 3), aI cI 80 M_text), ((a 4), aI cI 49 M_read), ((a 5), aI cI 49 M_queue), ((a 6), aI cI 49 M_pane), ((a 8), aI cI 49 M_size)]) 1 0 rfl rfl (Nat.le_of_ble_eq_true rfl) g_42 eM_now_43 rfl dX8_loadDrawing_106 (fun H locs h => ?_)
          refine lv_aload_n hx hb (pc := 107) dX8_loadDrawing_107 rfl (lv_at hl 0 rfl) ?_
          refine x_get C h (pc := 108) xf_X8_7 0 rfl (v := .ref (a 1)) rfl dX8_loadDrawing_108 ?_
          refine x_bipush C (pc := 111) dX8_loadDrawing_111 (by decide) ?_
          refine lv_iload_n hx hb (pc := 113) dX8_loadDrawing_113 rfl (lv_at hl 1 rfl) ?_
          refine x_iadd C (pc := 114) dX8_loadDrawing_114 ?_
          refine x_iconst C (pc := 115) dX8_loadDrawing_115 ?_
          obtain ⟨g_44, hf⟩ := og_some hf
          obtain ⟨M_now_45, eM_now_45, hf⟩ := ol_some hf
          refine x_iast C h (pc := 116) (ws' := [((a 0), oM a M_edits M_typed M_readRows M_readColumns M_top M_bottom M_left M_right M_panes), ((a 1), aI cI 151 M_now_45), ((a 2), aI cI 1208 M_past), ((a 3), aI cI 80 M_text), ((a 4), aI cI 49 M_read), ((a 5), aI cI 49 M_queue), ((a 6), aI cI 49 M_pane), ((a 8), aI cI 49 M_size)]) 1 0 rfl rfl (Nat.le_of_ble_eq_true rfl) g_44 eM_now_45 rfl dX8_loadDrawing_116 (fun H locs h => ?_)
          obtain ⟨l2_46, el2_46, hf⟩ := ol_some hf
          refine x_iinc C (pc := 117) (k := 1) (lw' := [(2, iv l2_46), (0, .ref (a 0))]) dX8_loadDrawing_117 hl rfl el2_46 (Nat.le_of_ble_eq_true rfl) rfl (fun ls hl => ?_)
          refine lv_goto hx hb (pc := 120) (tgt := 41) dX8_loadDrawing_120 rfl ?_
          exact ih l2_46 M_now_45 _ _ _ (lv_sub hl [1, 0] rfl) h hf
        clear hf
        have hf := hrr_39
        refine x_ifeq C (pc := 83) (tgt := 95) g_37 dX8_loadDrawing_83 rfl (fun hc => ?_) (fun hc => ?_)
        · have hf := oi_t hf hc
          refine x_iconst C (pc := 95) dX8_loadDrawing_95 ?_
          have e9 := Option.some.inj hf
          subst e9
          exact Jr_39 _ _ _ (lv_sub hl [1, 2] rfl) h
        · have hf := oi_f hf hc
          refine lv_aload_n hx hb (pc := 86) dX8_loadDrawing_86 rfl (lv_at hl 1 rfl) ?_
          refine x_get C h (pc := 87) xf_X8_19 0 rfl (v := .ref (a 4)) rfl dX8_loadDrawing_87 ?_
          refine lv_iload_n hx hb (pc := 90) dX8_loadDrawing_90 rfl (lv_at hl 2 rfl) ?_
          obtain ⟨g_38, hf⟩ := og_some hf
          refine x_iald C h (pc := 91) 4 0 rfl rfl (Nat.le_of_ble_eq_true rfl) g_38 dX8_loadDrawing_91 ?_
          refine lv_goto hx hb (pc := 92) (tgt := 96) dX8_loadDrawing_92 rfl ?_
          have e9 := Option.some.inj hf
          subst e9
          exact Jr_39 _ _ _ (lv_sub hl [1, 2] rfl) h
      clear hf
      have hf := hrr_36
      refine x_icmpge C (pc := 55) (tgt := 73) g_32 g_33 dX8_loadDrawing_55 rfl (fun hc => ?_) (fun hc => ?_)
      · have hf := oi_t hf hc
        refine x_iconst C (pc := 73) dX8_loadDrawing_73 ?_
        have e9 := Option.some.inj hf
        subst e9
        exact Jr_36 _ _ _ (lv_sub hl [0, 1] rfl) h
      · have hf := oi_f hf hc
        refine lv_iload_n hx hb (pc := 58) dX8_loadDrawing_58 rfl (lv_at hl 1 rfl) ?_
        refine x_bipush C (pc := 59) dX8_loadDrawing_59 (by decide) ?_
        refine x_irem C (pc := 61) g_31 ⟨by decide, by decide⟩ dX8_loadDrawing_61 ?_
        refine lv_aload_n hx hb (pc := 62) dX8_loadDrawing_62 rfl (lv_at hl 0 rfl) ?_
        refine x_get C h (pc := 63) xf_X8_82 0 rfl (v := iv M_readColumns) rfl dX8_loadDrawing_63 ?_
        obtain ⟨g_34, hf⟩ := og_some hf
        obtain ⟨g_35, hf⟩ := og_some hf
        refine x_icmpge C (pc := 66) (tgt := 73) g_34 g_35 dX8_loadDrawing_66 rfl (fun hc => ?_) (fun hc => ?_)
        · have hf := oi_t hf hc
          refine x_iconst C (pc := 73) dX8_loadDrawing_73 ?_
          have e9 := Option.some.inj hf
          subst e9
          exact Jr_36 _ _ _ (lv_sub hl [0, 1] rfl) h
        · have hf := oi_f hf hc
          refine x_iconst C (pc := 69) dX8_loadDrawing_69 ?_
          refine lv_goto hx hb (pc := 70) (tgt := 74) dX8_loadDrawing_70 rfl ?_
          have e9 := Option.some.inj hf
          subst e9
          exact Jr_36 _ _ _ (lv_sub hl [0, 1] rfl) h
set_option maxHeartbeats 4000000 in
set_option maxRecDepth 100000 in
theorem c_mo_loadDrawing (l : Launch) (D : va_G) (cI cJ cZ cO : ClassId) (a : Nat → Nat) (M_edits : Int) (M_typed : Int) (M_readRows : Int) (M_readColumns : Int) (M_top : Int) (M_bottom : Int) (M_left : Int) (M_right : Int) (M_panes : Int) (M_now : Int → Int) (M_past : Int → Int) (M_text : Int → Int) (M_read : Int → Int) (M_queue : Int → Int) (M_pane : Int → Int) (M_size : Int → Int) (N : Nat) (Res : Int × Int × Int × Int × Int × Int × Int × Int × Int × Int × (Int → Int) × (Int → Int) × (Int → Int) × (Int → Int) × (Int → Int) × (Int → Int)) (hf : f_mo_loadDrawing N M_edits M_typed M_readRows M_readColumns M_top M_bottom M_left M_right M_panes M_now M_past M_text M_read M_queue M_pane M_size = some Res) : CoI l D (xT cI cJ cZ cO) yX8_loadDrawing cX8_loadDrawing 4 (some .int) rm_mo_loadDrawing [.ref (a 0)] [((a 0), oM a M_edits M_typed M_readRows M_readColumns M_top M_bottom M_left M_right M_panes), ((a 1), aI cI 151 M_now), ((a 2), aI cI 1208 M_past), ((a 3), aI cI 80 M_text), ((a 4), aI cI 49 M_read), ((a 5), aI cI 49 M_queue), ((a 6), aI cI 49 M_pane), ((a 8), aI cI 49 M_size)] Res.1 [((a 0), oM a Res.2.1 Res.2.2.1 Res.2.2.2.1 Res.2.2.2.2.1 Res.2.2.2.2.2.1 Res.2.2.2.2.2.2.1 Res.2.2.2.2.2.2.2.1 Res.2.2.2.2.2.2.2.2.1 Res.2.2.2.2.2.2.2.2.2.1), ((a 1), aI cI 151 Res.2.2.2.2.2.2.2.2.2.2.1), ((a 2), aI cI 1208 Res.2.2.2.2.2.2.2.2.2.2.2.1), ((a 3), aI cI 80 M_text), ((a 4), aI cI 49 Res.2.2.2.2.2.2.2.2.2.2.2.2.1), ((a 5), aI cI 49 Res.2.2.2.2.2.2.2.2.2.2.2.2.2.1), ((a 6), aI cI 49 Res.2.2.2.2.2.2.2.2.2.2.2.2.2.2.1), ((a 8), aI cI 49 Res.2.2.2.2.2.2.2.2.2.2.2.2.2.2.2)] := by
  refine co_i (by decide) ⟨rfl, rfl⟩ (Nat.le_of_ble_eq_true rfl) ?_
  intro p e s m args below meth c A Q ls C hret hl h
  have hx := C.1.1
  have hb := C.1.2.1
  have hl : lv_has ls 4 [(0, .ref (a 0))] := hl
  unfold f_mo_loadDrawing at hf
  refine lv_aload_n hx hb (pc := 0) dX8_loadDrawing_0 rfl (lv_at hl 0 rfl) ?_
  obtain ⟨q_24, hq_24, hf⟩ := ob_some hf
  refine x_callVi C h (pc := 1) hl (c_mo_reads l D cI cJ cZ cO a M_edits M_typed M_readRows M_readColumns M_top M_bottom M_left M_right M_panes M_text M_read N q_24 hq_24) xv_X8_reads lk_X8_85 ⟨(Nat.le_of_ble_eq_true rfl), (Nat.le_of_ble_eq_true rfl)⟩ rfl [0, 3, 4] [1, 2, 5, 6, 7] (nw := 8) (wr := [((a 1), aI cI 151 M_now), ((a 2), aI cI 1208 M_past), ((a 5), aI cI 49 M_queue), ((a 6), aI cI 49 M_pane), ((a 8), aI cI 49 M_size)]) (as := [(a 0), (a 1), (a 2), (a 3), (a 4), (a 5), (a 6), (a 8)]) (ws' := [((a 0), oM a M_edits M_typed q_24.2.1 q_24.2.2.1 M_top M_bottom M_left M_right M_panes), ((a 1), aI cI 151 M_now), ((a 2), aI cI 1208 M_past), ((a 3), aI cI 80 M_text), ((a 4), aI cI 49 q_24.2.2.2), ((a 5), aI cI 49 M_queue), ((a 6), aI cI 49 M_pane), ((a 8), aI cI 49 M_size)]) rfl rfl rfl rfl rfl rfl rfl rfl rfl 0 rfl rfl rfl rfl (Nat.le_of_ble_eq_true rfl) dX8_loadDrawing_1 (fun H locs h => ?_)
  refine lv_istore_n hx hb (pc := 4) (lv' := [(1, iv q_24.1), (0, .ref (a 0))]) dX8_loadDrawing_4 rfl hl (Nat.le_of_ble_eq_true rfl) rfl (fun ls hl => ?_)
  refine lv_iload_n hx hb (pc := 5) dX8_loadDrawing_5 rfl (lv_at hl 0 rfl) ?_
  refine x_iconst C (pc := 6) dX8_loadDrawing_6 ?_
  obtain ⟨g_25, hf⟩ := og_some hf
  refine x_icmpeq C (pc := 7) (tgt := 15) g_25 ⟨by decide, by decide⟩ dX8_loadDrawing_7 rfl (fun hc => ?_) (fun hc => ?_)
  · have hf := oi_t hf hc
    refine lv_aload_n hx hb (pc := 15) dX8_loadDrawing_15 rfl (lv_at hl 1 rfl) ?_
    obtain ⟨q_26, hq_26, hf⟩ := ob_some hf
    refine x_callVv C h (pc := 16) hl (c_mo_save l D cI cJ cZ cO a M_edits M_typed q_24.2.1 q_24.2.2.1 M_top M_bottom M_left M_right M_panes M_now M_past N q_26 hq_26) xv_X8_save lk_X8_73 ⟨(Nat.le_of_ble_eq_true rfl), (Nat.le_of_ble_eq_true rfl)⟩ rfl [0, 1, 2] [3, 4, 5, 6, 7] (nw := 8) (wr := [((a 3), aI cI 80 M_text), ((a 4), aI cI 49 q_24.2.2.2), ((a 5), aI cI 49 M_queue), ((a 6), aI cI 49 M_pane), ((a 8), aI cI 49 M_size)]) (as := [(a 0), (a 1), (a 2), (a 3), (a 4), (a 5), (a 6), (a 8)]) (ws' := [((a 0), oM a q_26.1 M_typed q_24.2.1 q_24.2.2.1 M_top M_bottom M_left M_right M_panes), ((a 1), aI cI 151 M_now), ((a 2), aI cI 1208 q_26.2), ((a 3), aI cI 80 M_text), ((a 4), aI cI 49 q_24.2.2.2), ((a 5), aI cI 49 M_queue), ((a 6), aI cI 49 M_pane), ((a 8), aI cI 49 M_size)]) rfl rfl rfl rfl rfl rfl rfl rfl rfl 0 rfl rfl rfl rfl (Nat.le_of_ble_eq_true rfl) dX8_loadDrawing_16 (fun H locs h => ?_)
    refine lv_aload_n hx hb (pc := 19) dX8_loadDrawing_19 rfl (lv_at hl 1 rfl) ?_
    refine x_get C h (pc := 20) xf_X8_7 0 rfl (v := .ref (a 1)) rfl dX8_loadDrawing_20 ?_
    refine x_iconst C (pc := 23) dX8_loadDrawing_23 ?_
    refine lv_aload_n hx hb (pc := 24) dX8_loadDrawing_24 rfl (lv_at hl 1 rfl) ?_
    refine x_get C h (pc := 25) xf_X8_79 0 rfl (v := iv q_24.2.1) rfl dX8_loadDrawing_25 ?_
    obtain ⟨M_now_27, eM_now_27, hf⟩ := ol_some hf
    refine x_iast C h (pc := 28) (ws' := [((a 0), oM a q_26.1 M_typed q_24.2.1 q_24.2.2.1 M_top M_bottom M_left M_right M_panes), ((a 1), aI cI 151 M_now_27), ((a 2), aI cI 1208 q_26.2), ((a 3), aI cI 80 M_text), ((a 4), aI cI 49 q_24.2.2.2), ((a 5), aI cI 49 M_queue), ((a 6), aI cI 49 M_pane), ((a 8), aI cI 49 M_size)]) 1 0 rfl rfl (Nat.le_of_ble_eq_true rfl) ⟨by decide, by decide⟩ eM_now_27 rfl dX8_loadDrawing_28 (fun H locs h => ?_)
    refine lv_aload_n hx hb (pc := 29) dX8_loadDrawing_29 rfl (lv_at hl 1 rfl) ?_
    refine x_get C h (pc := 30) xf_X8_7 0 rfl (v := .ref (a 1)) rfl dX8_loadDrawing_30 ?_
    refine x_iconst C (pc := 33) dX8_loadDrawing_33 ?_
    refine lv_aload_n hx hb (pc := 34) dX8_loadDrawing_34 rfl (lv_at hl 1 rfl) ?_
    refine x_get C h (pc := 35) xf_X8_82 0 rfl (v := iv q_24.2.2.1) rfl dX8_loadDrawing_35 ?_
    obtain ⟨M_now_28, eM_now_28, hf⟩ := ol_some hf
    refine x_iast C h (pc := 38) (ws' := [((a 0), oM a q_26.1 M_typed q_24.2.1 q_24.2.2.1 M_top M_bottom M_left M_right M_panes), ((a 1), aI cI 151 M_now_28), ((a 2), aI cI 1208 q_26.2), ((a 3), aI cI 80 M_text), ((a 4), aI cI 49 q_24.2.2.2), ((a 5), aI cI 49 M_queue), ((a 6), aI cI 49 M_pane), ((a 8), aI cI 49 M_size)]) 1 0 rfl rfl (Nat.le_of_ble_eq_true rfl) ⟨by decide, by decide⟩ eM_now_28 rfl dX8_loadDrawing_38 (fun H locs h => ?_)
    refine x_iconst C (pc := 39) dX8_loadDrawing_39 ?_
    refine lv_istore_n hx hb (pc := 40) (lv' := [(2, iv 0), (1, iv q_24.1), (0, .ref (a 0))]) dX8_loadDrawing_40 rfl hl (Nat.le_of_ble_eq_true rfl) rfl (fun ls hl => ?_)
    exact w_mo_loadDrawing_41 C a M_text Res hret N q_26.1 M_typed q_24.2.1 q_24.2.2.1 M_top M_bottom M_left M_right M_panes q_26.2 q_24.2.2.2 M_queue M_pane M_size N 0 M_now_28 _ _ _ (lv_sub hl [2, 0] rfl) h hf
  · have hf := oi_f hf hc
    refine x_bipush C (pc := 10) dX8_loadDrawing_10 (by decide) ?_
    refine lv_iload_n hx hb (pc := 12) dX8_loadDrawing_12 rfl (lv_at hl 0 rfl) ?_
    refine x_isub C (pc := 13) dX8_loadDrawing_13 ?_
    have e9 := Option.some.inj hf
    subst e9
    exact hret _ _ _ _ dX8_loadDrawing_14 h
abbrev rm_mo_setColour : Room := { frames := 2, cells := 0, slots := 0, locals := 44 }
set_option maxHeartbeats 4000000 in
set_option maxRecDepth 100000 in
theorem c_mo_setColour (l : Launch) (D : va_G) (cI cJ cZ cO : ClassId) (a : Nat → Nat) (M_edits : Int) (M_typed : Int) (M_readRows : Int) (M_readColumns : Int) (M_top : Int) (M_bottom : Int) (M_left : Int) (M_right : Int) (M_panes : Int) (M_now : Int → Int) (M_past : Int → Int) (l1 : Int) (l2 : Int) (l3 : Int) (N : Nat) (Res : Int × Int × (Int → Int) × (Int → Int)) (hf : f_mo_setColour N l1 l2 l3 M_edits M_now M_past = some Res) : CoI l D (xT cI cJ cZ cO) yX8_setColour cX8_setColour 5 (some .int) rm_mo_setColour [.ref (a 0), iv l1, iv l2, iv l3] [((a 0), oM a M_edits M_typed M_readRows M_readColumns M_top M_bottom M_left M_right M_panes), ((a 1), aI cI 151 M_now), ((a 2), aI cI 1208 M_past)] Res.1 [((a 0), oM a Res.2.1 M_typed M_readRows M_readColumns M_top M_bottom M_left M_right M_panes), ((a 1), aI cI 151 Res.2.2.1), ((a 2), aI cI 1208 Res.2.2.2)] := by
  refine co_i (by decide) ⟨rfl, rfl⟩ (Nat.le_of_ble_eq_true rfl) ?_
  intro p e s m args below meth c A Q ls C hret hl h
  have hx := C.1.1
  have hb := C.1.2.1
  have hl : lv_has ls 5 [(0, .ref (a 0)), (1, iv l1), (2, iv l2), (3, iv l3)] := hl
  unfold f_mo_setColour at hf
  refine lv_aload_n hx hb (pc := 0) dX8_setColour_0 rfl (lv_at hl 0 rfl) ?_
  refine lv_iload_n hx hb (pc := 1) dX8_setColour_1 rfl (lv_at hl 1 rfl) ?_
  refine lv_iload_n hx hb (pc := 2) dX8_setColour_2 rfl (lv_at hl 2 rfl) ?_
  obtain ⟨q_1, hq_1, hf⟩ := ob_some hf
  refine x_callVi C h (pc := 3) hl (c_mo_isCell l D cI cJ cZ cO a M_edits M_typed M_readRows M_readColumns M_top M_bottom M_left M_right M_panes M_now l1 l2 N q_1 hq_1) xv_X8_isCell lk_X8_95 ⟨(Nat.le_of_ble_eq_true rfl), (Nat.le_of_ble_eq_true rfl)⟩ rfl [0, 1] [2] (nw := 3) (wr := [((a 2), aI cI 1208 M_past)]) (as := [(a 0), (a 1), (a 2)]) (ws' := [((a 0), oM a M_edits M_typed M_readRows M_readColumns M_top M_bottom M_left M_right M_panes), ((a 1), aI cI 151 M_now), ((a 2), aI cI 1208 M_past)]) rfl rfl rfl rfl rfl rfl rfl rfl rfl 0 rfl rfl rfl rfl (Nat.le_of_ble_eq_true rfl) dX8_setColour_3 (fun H locs h => ?_)
  obtain ⟨g_2, hf⟩ := og_some hf
  refine x_ifeq C (pc := 6) (tgt := 18) g_2 dX8_setColour_6 rfl (fun hc => ?_) (fun hc => ?_)
  · have hf := oi_t hf hc
    refine x_iconst C (pc := 18) dX8_setColour_18 ?_
    have e9 := Option.some.inj hf
    subst e9
    exact hret _ _ _ _ dX8_setColour_19 h
  · have hf := oi_f hf hc
    refine lv_iload_n hx hb (pc := 9) dX8_setColour_9 rfl (lv_at hl 3 rfl) ?_
    refine x_iconst C (pc := 10) dX8_setColour_10 ?_
    refine x_iconst C (pc := 11) dX8_setColour_11 ?_
    obtain ⟨q_3, hq_3, hf⟩ := ob_some hf
    refine x_callSi C h (pc := 12) hl (c_mo_in l D cI cJ cZ cO a l3 0 5 N q_3 hq_3) xs_X8_in lk_X8_65 ⟨(Nat.le_of_ble_eq_true rfl), (Nat.le_of_ble_eq_true rfl)⟩ rfl [] [0, 1, 2] (nw := 3) (wr := [((a 0), oM a M_edits M_typed M_readRows M_readColumns M_top M_bottom M_left M_right M_panes), ((a 1), aI cI 151 M_now), ((a 2), aI cI 1208 M_past)]) (as := [(a 0), (a 1), (a 2)]) (ws' := [((a 0), oM a M_edits M_typed M_readRows M_readColumns M_top M_bottom M_left M_right M_panes), ((a 1), aI cI 151 M_now), ((a 2), aI cI 1208 M_past)]) rfl rfl rfl rfl rfl rfl rfl rfl rfl rfl (Nat.le_of_ble_eq_true rfl) dX8_setColour_12 (fun H locs h => ?_)
    obtain ⟨g_4, hf⟩ := og_some hf
    refine x_ifne C (pc := 15) (tgt := 20) g_4 dX8_setColour_15 rfl (fun hc => ?_) (fun hc => ?_)
    · have hf := oi_f hf hc
      refine x_iconst C (pc := 20) dX8_setColour_20 ?_
      refine x_bipush C (pc := 21) dX8_setColour_21 (by decide) ?_
      refine lv_iload_n hx hb (pc := 23) dX8_setColour_23 rfl (lv_at hl 1 rfl) ?_
      refine x_imul C (pc := 24) dX8_setColour_24 ?_
      refine x_iadd C (pc := 25) dX8_setColour_25 ?_
      refine lv_iload_n hx hb (pc := 26) dX8_setColour_26 rfl (lv_at hl 2 rfl) ?_
      refine x_iadd C (pc := 27) dX8_setColour_27 ?_
      obtain ⟨l4_5, el4_5, hf⟩ := ol_some hf
      refine x_topi el4_5 ?_
      refine lv_istore hx hb (pc := 28) (lv' := [(4, iv l4_5), (0, .ref (a 0)), (1, iv l1), (2, iv l2), (3, iv l3)]) dX8_setColour_28 hl (Nat.le_of_ble_eq_true rfl) rfl (fun ls hl => ?_)
      refine lv_aload_n hx hb (pc := 30) dX8_setColour_30 rfl (lv_at hl 1 rfl) ?_
      refine x_get C h (pc := 31) xf_X8_7 0 rfl (v := .ref (a 1)) rfl dX8_setColour_31 ?_
      refine lv_iload hx hb (pc := 34) dX8_setColour_34 (lv_at hl 0 rfl) ?_
      obtain ⟨g_6, hf⟩ := og_some hf
      refine x_iald C h (pc := 36) 1 0 rfl rfl (Nat.le_of_ble_eq_true rfl) g_6 dX8_setColour_36 ?_
      refine lv_iload_n hx hb (pc := 37) dX8_setColour_37 rfl (lv_at hl 4 rfl) ?_
      obtain ⟨g_7, hf⟩ := og_some hf
      obtain ⟨g_8, hf⟩ := og_some hf
      refine x_icmpne C (pc := 38) (tgt := 46) g_7 g_8 dX8_setColour_38 rfl (fun hc => ?_) (fun hc => ?_)
      · have hf := oi_f hf hc
        refine lv_aload_n hx hb (pc := 46) dX8_setColour_46 rfl (lv_at hl 1 rfl) ?_
        refine lv_iload hx hb (pc := 47) dX8_setColour_47 (lv_at hl 0 rfl) ?_
        refine lv_iload_n hx hb (pc := 49) dX8_setColour_49 rfl (lv_at hl 4 rfl) ?_
        obtain ⟨q_9, hq_9, hf⟩ := ob_some hf
        refine x_callVi C h (pc := 50) hl (c_mo_changed l D cI cJ cZ cO a M_edits M_typed M_readRows M_readColumns M_top M_bottom M_left M_right M_panes M_now M_past l4_5 l3 N q_9 hq_9) xv_X8_changed lk_X8_99 ⟨(Nat.le_of_ble_eq_true rfl), (Nat.le_of_ble_eq_true rfl)⟩ rfl [0, 1, 2] [] (nw := 3) (wr := []) (as := [(a 0), (a 1), (a 2)]) (ws' := [((a 0), oM a q_9.2.1 M_typed M_readRows M_readColumns M_top M_bottom M_left M_right M_panes), ((a 1), aI cI 151 q_9.2.2.1), ((a 2), aI cI 1208 q_9.2.2.2)]) rfl rfl rfl rfl rfl rfl rfl rfl rfl 0 rfl rfl rfl rfl (Nat.le_of_ble_eq_true rfl) dX8_setColour_50 (fun H locs h => ?_)
        have e9 := Option.some.inj hf
        subst e9
        exact hret _ _ _ _ dX8_setColour_53 h
      · have hf := oi_t hf hc
        refine x_bipush C (pc := 41) dX8_setColour_41 (by decide) ?_
        refine lv_goto hx hb (pc := 43) (tgt := 53) dX8_setColour_43 rfl ?_
        have e9 := Option.some.inj hf
        subst e9
        exact hret _ _ _ _ dX8_setColour_53 h
    · have hf := oi_t hf hc
      refine x_iconst C (pc := 18) dX8_setColour_18 ?_
      have e9 := Option.some.inj hf
      subst e9
      exact hret _ _ _ _ dX8_setColour_19 h
abbrev rm_mo_rows : Room := { frames := 0, cells := 0, slots := 0, locals := 0 }
set_option maxHeartbeats 4000000 in
set_option maxRecDepth 100000 in
theorem c_mo_rows (l : Launch) (D : va_G) (cI cJ cZ cO : ClassId) (a : Nat → Nat) (M_edits : Int) (M_typed : Int) (M_readRows : Int) (M_readColumns : Int) (M_top : Int) (M_bottom : Int) (M_left : Int) (M_right : Int) (M_panes : Int) (M_now : Int → Int) (N : Nat) (Res : Int) (hf : f_mo_rows N M_now = some Res) : CoI l D (xT cI cJ cZ cO) yX8_rows cX8_rows 1 (some .int) rm_mo_rows [.ref (a 0)] [((a 0), oM a M_edits M_typed M_readRows M_readColumns M_top M_bottom M_left M_right M_panes), ((a 1), aI cI 151 M_now)] Res [((a 0), oM a M_edits M_typed M_readRows M_readColumns M_top M_bottom M_left M_right M_panes), ((a 1), aI cI 151 M_now)] := by
  refine co_i (by decide) ⟨rfl, rfl⟩ (Nat.le_of_ble_eq_true rfl) ?_
  intro p e s m args below meth c A Q ls C hret hl h
  have hx := C.1.1
  have hb := C.1.2.1
  have hl : lv_has ls 1 [(0, .ref (a 0))] := hl
  unfold f_mo_rows at hf
  refine lv_aload_n hx hb (pc := 0) dX8_rows_0 rfl (lv_at hl 0 rfl) ?_
  refine x_get C h (pc := 1) xf_X8_7 0 rfl (v := .ref (a 1)) rfl dX8_rows_1 ?_
  refine x_iconst C (pc := 4) dX8_rows_4 ?_
  refine x_iald C h (pc := 5) 1 0 rfl rfl (Nat.le_of_ble_eq_true rfl) ⟨by decide, by decide⟩ dX8_rows_5 ?_
  have e9 := Option.some.inj hf
  subst e9
  exact hret _ _ _ _ dX8_rows_6 h
abbrev rm_mo_columns : Room := { frames := 0, cells := 0, slots := 0, locals := 0 }
set_option maxHeartbeats 4000000 in
set_option maxRecDepth 100000 in
theorem c_mo_columns (l : Launch) (D : va_G) (cI cJ cZ cO : ClassId) (a : Nat → Nat) (M_edits : Int) (M_typed : Int) (M_readRows : Int) (M_readColumns : Int) (M_top : Int) (M_bottom : Int) (M_left : Int) (M_right : Int) (M_panes : Int) (M_now : Int → Int) (N : Nat) (Res : Int) (hf : f_mo_columns N M_now = some Res) : CoI l D (xT cI cJ cZ cO) yX8_columns cX8_columns 1 (some .int) rm_mo_columns [.ref (a 0)] [((a 0), oM a M_edits M_typed M_readRows M_readColumns M_top M_bottom M_left M_right M_panes), ((a 1), aI cI 151 M_now)] Res [((a 0), oM a M_edits M_typed M_readRows M_readColumns M_top M_bottom M_left M_right M_panes), ((a 1), aI cI 151 M_now)] := by
  refine co_i (by decide) ⟨rfl, rfl⟩ (Nat.le_of_ble_eq_true rfl) ?_
  intro p e s m args below meth c A Q ls C hret hl h
  have hx := C.1.1
  have hb := C.1.2.1
  have hl : lv_has ls 1 [(0, .ref (a 0))] := hl
  unfold f_mo_columns at hf
  refine lv_aload_n hx hb (pc := 0) dX8_columns_0 rfl (lv_at hl 0 rfl) ?_
  refine x_get C h (pc := 1) xf_X8_7 0 rfl (v := .ref (a 1)) rfl dX8_columns_1 ?_
  refine x_iconst C (pc := 4) dX8_columns_4 ?_
  refine x_iald C h (pc := 5) 1 0 rfl rfl (Nat.le_of_ble_eq_true rfl) ⟨by decide, by decide⟩ dX8_columns_5 ?_
  have e9 := Option.some.inj hf
  subst e9
  exact hret _ _ _ _ dX8_columns_6 h
abbrev rm_mo_colourAt : Room := { frames := 2, cells := 0, slots := 0, locals := 44 }
set_option maxHeartbeats 4000000 in
set_option maxRecDepth 100000 in
theorem c_mo_colourAt (l : Launch) (D : va_G) (cI cJ cZ cO : ClassId) (a : Nat → Nat) (M_edits : Int) (M_typed : Int) (M_readRows : Int) (M_readColumns : Int) (M_top : Int) (M_bottom : Int) (M_left : Int) (M_right : Int) (M_panes : Int) (M_now : Int → Int) (l1 : Int) (l2 : Int) (N : Nat) (Res : Int) (hf : f_mo_colourAt N l1 l2 M_now = some Res) : CoI l D (xT cI cJ cZ cO) yX8_colourAt cX8_colourAt 3 (some .int) rm_mo_colourAt [.ref (a 0), iv l1, iv l2] [((a 0), oM a M_edits M_typed M_readRows M_readColumns M_top M_bottom M_left M_right M_panes), ((a 1), aI cI 151 M_now)] Res [((a 0), oM a M_edits M_typed M_readRows M_readColumns M_top M_bottom M_left M_right M_panes), ((a 1), aI cI 151 M_now)] := by
  refine co_i (by decide) ⟨rfl, rfl⟩ (Nat.le_of_ble_eq_true rfl) ?_
  intro p e s m args below meth c A Q ls C hret hl h
  have hx := C.1.1
  have hb := C.1.2.1
  have hl : lv_has ls 3 [(0, .ref (a 0)), (1, iv l1), (2, iv l2)] := hl
  unfold f_mo_colourAt at hf
  refine lv_aload_n hx hb (pc := 0) dX8_colourAt_0 rfl (lv_at hl 0 rfl) ?_
  refine lv_iload_n hx hb (pc := 1) dX8_colourAt_1 rfl (lv_at hl 1 rfl) ?_
  refine lv_iload_n hx hb (pc := 2) dX8_colourAt_2 rfl (lv_at hl 2 rfl) ?_
  obtain ⟨q_1, hq_1, hf⟩ := ob_some hf
  refine x_callVi C h (pc := 3) hl (c_mo_isCell l D cI cJ cZ cO a M_edits M_typed M_readRows M_readColumns M_top M_bottom M_left M_right M_panes M_now l1 l2 N q_1 hq_1) xv_X8_isCell lk_X8_95 ⟨(Nat.le_of_ble_eq_true rfl), (Nat.le_of_ble_eq_true rfl)⟩ rfl [0, 1] [] (nw := 2) (wr := []) (as := [(a 0), (a 1)]) (ws' := [((a 0), oM a M_edits M_typed M_readRows M_readColumns M_top M_bottom M_left M_right M_panes), ((a 1), aI cI 151 M_now)]) rfl rfl rfl rfl rfl rfl rfl rfl rfl 0 rfl rfl rfl rfl (Nat.le_of_ble_eq_true rfl) dX8_colourAt_3 (fun H locs h => ?_)
  obtain ⟨g_2, hf⟩ := og_some hf
  refine x_ifeq C (pc := 6) (tgt := 25) g_2 dX8_colourAt_6 rfl (fun hc => ?_) (fun hc => ?_)
  · have hf := oi_t hf hc
    refine x_iconst C (pc := 25) dX8_colourAt_25 ?_
    have e9 := Option.some.inj hf
    subst e9
    exact hret _ _ _ _ dX8_colourAt_26 h
  · have hf := oi_f hf hc
    refine lv_aload_n hx hb (pc := 9) dX8_colourAt_9 rfl (lv_at hl 0 rfl) ?_
    refine x_get C h (pc := 10) xf_X8_7 0 rfl (v := .ref (a 1)) rfl dX8_colourAt_10 ?_
    refine x_iconst C (pc := 13) dX8_colourAt_13 ?_
    refine x_bipush C (pc := 14) dX8_colourAt_14 (by decide) ?_
    refine lv_iload_n hx hb (pc := 16) dX8_colourAt_16 rfl (lv_at hl 1 rfl) ?_
    refine x_imul C (pc := 17) dX8_colourAt_17 ?_
    refine x_iadd C (pc := 18) dX8_colourAt_18 ?_
    refine lv_iload_n hx hb (pc := 19) dX8_colourAt_19 rfl (lv_at hl 2 rfl) ?_
    refine x_iadd C (pc := 20) dX8_colourAt_20 ?_
    obtain ⟨g_3, hf⟩ := og_some hf
    refine x_iald C h (pc := 21) 1 0 rfl rfl (Nat.le_of_ble_eq_true rfl) g_3 dX8_colourAt_21 ?_
    refine lv_goto hx hb (pc := 22) (tgt := 26) dX8_colourAt_22 rfl ?_
    have e9 := Option.some.inj hf
    subst e9
    exact hret _ _ _ _ dX8_colourAt_26 h
