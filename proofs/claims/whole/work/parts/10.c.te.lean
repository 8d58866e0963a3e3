abbrev rm_te_append : Room := { frames := 0, cells := 0, slots := 0, locals := 0 }
set_option maxHeartbeats 4000000 in
set_option maxRecDepth 100000 in
theorem c_te_append (l : Launch) (D : va_G) (cI cJ cZ cO : ClassId) (b : Nat → Nat) (T_len : Int) (T_ch : Int → Int) (l1 : Int) (N : Nat) (Res : Int × Int × (Int → Int)) (hf : f_te_append N l1 T_len T_ch = some Res) : CoI l D (xT cI cJ cZ cO) yX6_append cX6_append 2 (some .boolean) rm_te_append [.ref (b 1), iv l1] [((b 1), oT b T_len), ((b 2), aI cI 80 T_ch)] Res.1 [((b 1), oT b Res.2.1), ((b 2), aI cI 80 Res.2.2)] := by
  refine co_z (by decide) ⟨rfl, rfl⟩ (Nat.le_of_ble_eq_true rfl) ?_
  intro p e s m args below meth c A Q ls C hret hl h
  have hx := C.1.1
  have hb := C.1.2.1
  have hl : lv_has ls 2 [(0, .ref (b 1)), (1, iv l1)] := hl
  unfold f_te_append at hf
  refine lv_aload_n hx hb (pc := 0) dX6_append_0 rfl (lv_at hl 0 rfl) ?_
  refine x_get C h (pc := 1) xf_X6_15 0 rfl (v := iv T_len) rfl dX6_append_1 ?_
  refine x_bipush C (pc := 4) dX6_append_4 (by decide) ?_
  obtain ⟨g_1, hf⟩ := og_some hf
  refine x_icmplt C (pc := 6) (tgt := 11) g_1 ⟨by decide, by decide⟩ dX6_append_6 rfl (fun hc => ?_) (fun hc => ?_)
  · have hf := oi_t hf hc
    refine lv_aload_n hx hb (pc := 11) dX6_append_11 rfl (lv_at hl 0 rfl) ?_
    refine x_get C h (pc := 12) xf_X6_11 0 rfl (v := .ref (b 2)) rfl dX6_append_12 ?_
    refine lv_aload_n hx hb (pc := 15) dX6_append_15 rfl (lv_at hl 0 rfl) ?_
    refine x_get C h (pc := 16) xf_X6_15 0 rfl (v := iv T_len) rfl dX6_append_16 ?_
    refine lv_iload_n hx hb (pc := 19) dX6_append_19 rfl (lv_at hl 1 rfl) ?_
    obtain ⟨g_2, hf⟩ := og_some hf
    obtain ⟨T_ch_3, eT_ch_3, hf⟩ := ol_some hf
    refine x_iast C h (pc := 20) (ws' := [((b 1), oT b T_len), ((b 2), aI cI 80 T_ch_3)]) 1 0 rfl rfl (Nat.le_of_ble_eq_true rfl) g_2 eT_ch_3 rfl dX6_append_20 (fun H locs h => ?_)
    refine lv_aload_n hx hb (pc := 21) dX6_append_21 rfl (lv_at hl 0 rfl) ?_
    refine lv_dup hx hb (pc := 22) dX6_append_22 rfl ?_
    refine x_get C h (pc := 23) xf_X6_15 0 rfl (v := iv T_len) rfl dX6_append_23 ?_
    refine x_iconst C (pc := 26) dX6_append_26 ?_
    refine x_iadd C (pc := 27) dX6_append_27 ?_
    obtain ⟨T_len_4, eT_len_4, hf⟩ := ol_some hf
    refine x_topi eT_len_4 ?_
    refine x_puti C h (pc := 28) (ws' := [((b 1), oT b T_len_4), ((b 2), aI cI 80 T_ch_3)]) xf_X6_15 xp_X6 rfl 0 rfl rfl (Nat.le_of_ble_eq_true rfl) rfl dX6_append_28 (fun H locs h => ?_)
    refine x_iconst C (pc := 31) dX6_append_31 ?_
    have e9 := Option.some.inj hf
    subst e9
    exact hret _ _ _ _ (Or.inr rfl) dX6_append_32 h
  · have hf := oi_f hf hc
    refine x_iconst C (pc := 9) dX6_append_9 ?_
    have e9 := Option.some.inj hf
    subst e9
    exact hret _ _ _ _ (Or.inl rfl) dX6_append_10 h
abbrev rm_te_isDigit : Room := { frames := 0, cells := 0, slots := 0, locals := 0 }
set_option maxHeartbeats 4000000 in
set_option maxRecDepth 100000 in
theorem c_te_isDigit (l : Launch) (D : va_G) (cI cJ cZ cO : ClassId) (b : Nat → Nat) (l0 : Int) (N : Nat) (Res : Int) (hf : f_te_isDigit N l0 = some Res) : CoI l D (xT cI cJ cZ cO) yX6_isDigit cX6_isDigit 1 (some .boolean) rm_te_isDigit [iv l0] [] Res [] := by
  refine co_z (by decide) ⟨rfl, rfl⟩ (Nat.le_of_ble_eq_true rfl) ?_
  intro p e s m args below meth c A Q ls C hret hl h
  have hx := C.1.1
  have hb := C.1.2.1
  have hl : lv_has ls 1 [(0, iv l0)] := hl
  unfold f_te_isDigit at hf
  refine lv_iload_n hx hb (pc := 0) dX6_isDigit_0 rfl (lv_at hl 0 rfl) ?_
  refine x_bipush C (pc := 1) dX6_isDigit_1 (by decide) ?_
  obtain ⟨g_1, hf⟩ := og_some hf
  refine x_icmplt C (pc := 3) (tgt := 16) g_1 ⟨by decide, by decide⟩ dX6_isDigit_3 rfl (fun hc => ?_) (fun hc => ?_)
  · have hf := oi_t hf hc
    refine x_iconst C (pc := 16) dX6_isDigit_16 ?_
    have e9 := Option.some.inj hf
    subst e9
    exact hret _ _ _ _ (Or.inl rfl) dX6_isDigit_17 h
  · have hf := oi_f hf hc
    refine lv_iload_n hx hb (pc := 6) dX6_isDigit_6 rfl (lv_at hl 0 rfl) ?_
    refine x_bipush C (pc := 7) dX6_isDigit_7 (by decide) ?_
    refine x_icmpgt C (pc := 9) (tgt := 16) g_1 ⟨by decide, by decide⟩ dX6_isDigit_9 rfl (fun hc => ?_) (fun hc => ?_)
    · have hf := oi_t hf hc
      refine x_iconst C (pc := 16) dX6_isDigit_16 ?_
      have e9 := Option.some.inj hf
      subst e9
      exact hret _ _ _ _ (Or.inl rfl) dX6_isDigit_17 h
    · have hf := oi_f hf hc
      refine x_iconst C (pc := 12) dX6_isDigit_12 ?_
      refine lv_goto hx hb (pc := 13) (tgt := 17) dX6_isDigit_13 rfl ?_
      have e9 := Option.some.inj hf
      subst e9
      exact hret _ _ _ _ (Or.inr rfl) dX6_isDigit_17 h
abbrev rm_te_errorOffset : Room := { frames := 1, cells := 0, slots := 0, locals := 20 }
set_option maxHeartbeats 4000000 in
set_option maxRecDepth 100000 in
theorem w_te_errorOffset_119 {p : Program} {l : Launch} {e : Env} {s : State} {m : MethodId} {args : Array Value} {below : List Frame} {meth : Method} {c : Code} {Q : State → Prop} {D : va_G} {cI cJ cZ cO : ClassId} {A : Nat → Prop} {H0 : Heap} {w0 : Cond} (C : XC p s m args c cX6_errorOffset 7 RX6 w0 D (xT cI cJ cZ cO)) (b : Nat → Nat) (T_len : Int) (T_ch : Int → Int) (Res : Int) (hret : XRI p l e rm_te_errorOffset s m args below meth c cX6_errorOffset D A H0 Q Res [((b 1), oT b T_len), ((b 2), aI cI 80 T_ch)]) (N : Nat) : ∀ (ls : Array Slot) (H : Heap) (locs : List Loc), lv_has ls 7 [(0, .ref (b 1))] → XH D A H0 [((b 1), oT b T_len), ((b 2), aI cI 80 T_ch)] H locs → f_te_errorOffset_119 N T_len = some Res → W p l e rm_te_errorOffset s m args below meth c H locs 0 0 Q (F0 m 119 ls []) := by
  have hx := C.1.1
  have hb := C.1.2.1
  intro  ls H locs hl h hf
  unfold f_te_errorOffset_119 at hf
  refine lv_aload_n hx hb (pc := 119) dX6_errorOffset_119 rfl (lv_at hl 0 rfl) ?_
  refine x_get C h (pc := 120) xf_X6_15 0 rfl (v := iv T_len) rfl dX6_errorOffset_120 ?_
  refine lv_goto hx hb (pc := 123) (tgt := 127) dX6_errorOffset_123 rfl ?_
  have e9 := Option.some.inj hf
  subst e9
  exact hret _ _ _ _ dX6_errorOffset_127 h
set_option maxHeartbeats 4000000 in
set_option maxRecDepth 100000 in
theorem w_te_errorOffset_50 {p : Program} {l : Launch} {e : Env} {s : State} {m : MethodId} {args : Array Value} {below : List Frame} {meth : Method} {c : Code} {Q : State → Prop} {D : va_G} {cI cJ cZ cO : ClassId} {A : Nat → Prop} {H0 : Heap} {w0 : Cond} (C : XC p s m args c cX6_errorOffset 7 RX6 w0 D (xT cI cJ cZ cO)) (b : Nat → Nat) (T_len : Int) (T_ch : Int → Int) (Res : Int) (hret : XRI p l e rm_te_errorOffset s m args below meth c cX6_errorOffset D A H0 Q Res [((b 1), oT b T_len), ((b 2), aI cI 80 T_ch)]) (N : Nat) (k9 : Int → Int → Int → Int → Option (Int)) (hk9 : ∀ (l1' : Int) (l2' : Int) (l3' : Int) (l4' : Int) (ls : Array Slot) (H : Heap) (locs : List Loc), lv_has ls 7 [(0, .ref (b 1)), (1, iv l1'), (2, iv l2'), (3, iv l3'), (4, iv l4')] → XH D A H0 [((b 1), oT b T_len), ((b 2), aI cI 80 T_ch)] H locs → k9 l1' l2' l3' l4' = some Res → W p l e rm_te_errorOffset s m args below meth c H locs 0 0 Q (F0 m 9 ls [])) : ∀ (l1 : Int) (l3 : Int) (l4 : Int) (ls : Array Slot) (H : Heap) (locs : List Loc), lv_has ls 7 [(0, .ref (b 1)), (1, iv l1), (3, iv l3), (4, iv l4)] → XH D A H0 [((b 1), oT b T_len), ((b 2), aI cI 80 T_ch)] H locs → f_te_errorOffset_50 N T_len T_ch k9 l1 l3 l4 = some Res → W p l e rm_te_errorOffset s m args below meth c H locs 0 0 Q (F0 m 50 ls []) := by
  have hx := C.1.1
  have hb := C.1.2.1
  intro l1 l3 l4 ls H locs hl h hf
  unfold f_te_errorOffset_50 at hf
  refine lv_iload_n hx hb (pc := 50) dX6_errorOffset_50 rfl (lv_at hl 2 rfl) ?_
  refine lv_istore_n hx hb (pc := 51) (lv' := [(2, iv l3), (0, .ref (b 1)), (1, iv l1), (3, iv l3), (4, iv l4)]) dX6_errorOffset_51 rfl hl (Nat.le_of_ble_eq_true rfl) rfl (fun ls hl => ?_)
  refine x_iconst C (pc := 52) dX6_errorOffset_52 ?_
  refine lv_istore_n hx hb (pc := 53) (lv' := [(3, iv 0), (2, iv l3), (0, .ref (b 1)), (1, iv l1), (4, iv l4)]) dX6_errorOffset_53 rfl hl (Nat.le_of_ble_eq_true rfl) rfl (fun ls hl => ?_)
  obtain ⟨l1_42, el1_42, hf⟩ := ol_some hf
  refine x_iinc C (pc := 54) (k := 3) (lw' := [(1, iv l1_42), (3, iv 0), (2, iv l3), (0, .ref (b 1)), (4, iv l4)]) dX6_errorOffset_54 hl rfl el1_42 (Nat.le_of_ble_eq_true rfl) rfl (fun ls hl => ?_)
  refine lv_goto hx hb (pc := 57) (tgt := 105) dX6_errorOffset_57 rfl ?_
  obtain ⟨l4_43, el4_43, hf⟩ := ol_some hf
  refine x_iinc C (pc := 105) (k := 4) (lw' := [(4, iv l4_43), (1, iv l1_42), (3, iv 0), (2, iv l3), (0, .ref (b 1))]) dX6_errorOffset_105 hl rfl el4_43 (Nat.le_of_ble_eq_true rfl) rfl (fun ls hl => ?_)
  refine lv_goto hx hb (pc := 108) (tgt := 9) dX6_errorOffset_108 rfl ?_
  exact hk9 l1_42 l3 0 l4_43 _ _ _ (lv_sub hl [4, 1, 3, 2, 0] rfl) h hf
set_option maxHeartbeats 4000000 in
set_option maxRecDepth 100000 in
theorem w_te_errorOffset_9 {p : Program} {l : Launch} {e : Env} {s : State} {m : MethodId} {args : Array Value} {below : List Frame} {meth : Method} {c : Code} {Q : State → Prop} {D : va_G} {cI cJ cZ cO : ClassId} {A : Nat → Prop} {H0 : Heap} {w0 : Cond} (C : XC p s m args c cX6_errorOffset 7 RX6 w0 D (xT cI cJ cZ cO)) (b : Nat → Nat) (T_len : Int) (T_ch : Int → Int) (Res : Int) (hret : XRI p l e rm_te_errorOffset s m args below meth c cX6_errorOffset D A H0 Q Res [((b 1), oT b T_len), ((b 2), aI cI 80 T_ch)]) (N : Nat) : ∀ (n : Nat) (l1 : Int) (l2 : Int) (l3 : Int) (l4 : Int) (ls : Array Slot) (H : Heap) (locs : List Loc), lv_has ls 7 [(0, .ref (b 1)), (1, iv l1), (2, iv l2), (3, iv l3), (4, iv l4)] → XH D A H0 [((b 1), oT b T_len), ((b 2), aI cI 80 T_ch)] H locs → f_te_errorOffset_9 N T_len T_ch n l1 l2 l3 l4 = some Res → W p l e rm_te_errorOffset s m args below meth c H locs 0 0 Q (F0 m 9 ls []) := by
  have hx := C.1.1
  have hb := C.1.2.1
  intro n
  induction n with
  | zero => intro l1 l2 l3 l4 ls H locs hl h hf; cases hf
  | succ n ih =>
    intro l1 l2 l3 l4 ls H locs hl h hf
    rw [f_te_errorOffset_9.eq_2] at hf
    refine lv_iload hx hb (pc := 9) dX6_errorOffset_9 (lv_at hl 4 rfl) ?_
    refine lv_aload_n hx hb (pc := 11) dX6_errorOffset_11 rfl (lv_at hl 0 rfl) ?_
    refine x_get C h (pc := 12) xf_X6_15 0 rfl (v := iv T_len) rfl dX6_errorOffset_12 ?_
    obtain ⟨g_23, hf⟩ := og_some hf
    obtain ⟨g_24, hf⟩ := og_some hf
    refine x_icmpge C (pc := 15) (tgt := 111) g_23 g_24 dX6_errorOffset_15 rfl (fun hc => ?_) (fun hc => ?_)
    · have hf := oi_t hf hc
      refine lv_iload_n hx hb (pc := 111) dX6_errorOffset_111 rfl (lv_at hl 1 rfl) ?_
      obtain ⟨g_25, hf⟩ := og_some hf
      refine x_ifeq C (pc := 112) (tgt := 119) g_25 dX6_errorOffset_112 rfl (fun hc => ?_) (fun hc => ?_)
      · have hf := oi_t hf hc
        exact w_te_errorOffset_119 C b T_len T_ch Res hret N _ _ _ (lv_sub hl [0] rfl) h hf
      · have hf := oi_f hf hc
        refine lv_iload_n hx hb (pc := 115) dX6_errorOffset_115 rfl (lv_at hl 3 rfl) ?_
        obtain ⟨g_26, hf⟩ := og_some hf
        refine x_ifle C (pc := 116) (tgt := 126) g_26 dX6_errorOffset_116 rfl (fun hc => ?_) (fun hc => ?_)
        · have hf := oi_t hf hc
          refine x_iconst C (pc := 126) dX6_errorOffset_126 ?_
          have e9 := Option.some.inj hf
          subst e9
          exact hret _ _ _ _ dX6_errorOffset_127 h
        · have hf := oi_f hf hc
          exact w_te_errorOffset_119 C b T_len T_ch Res hret N _ _ _ (lv_sub hl [0] rfl) h hf
    · have hf := oi_f hf hc
      refine lv_aload_n hx hb (pc := 18) dX6_errorOffset_18 rfl (lv_at hl 0 rfl) ?_
      refine x_get C h (pc := 19) xf_X6_11 0 rfl (v := .ref (b 2)) rfl dX6_errorOffset_19 ?_
      refine lv_iload hx hb (pc := 22) dX6_errorOffset_22 (lv_at hl 4 rfl) ?_
      obtain ⟨g_27, hf⟩ := og_some hf
      refine x_iald C h (pc := 24) 1 0 rfl rfl (Nat.le_of_ble_eq_true rfl) g_27 dX6_errorOffset_24 ?_
      obtain ⟨l5_28, el5_28, hf⟩ := ol_some hf
      refine x_topi el5_28 ?_
      refine lv_istore hx hb (pc := 25) (lv' := [(5, iv l5_28), (0, .ref (b 1)), (1, iv l1), (2, iv l2), (3, iv l3), (4, iv l4)]) dX6_errorOffset_25 hl (Nat.le_of_ble_eq_true rfl) rfl (fun ls hl => ?_)
      refine lv_iload hx hb (pc := 27) dX6_errorOffset_27 (lv_at hl 0 rfl) ?_
      refine x_bipush C (pc := 29) dX6_errorOffset_29 (by decide) ?_
      obtain ⟨g_29, hf⟩ := og_some hf
      refine x_icmpne C (pc := 31) (tgt := 60) g_29 ⟨by decide, by decide⟩ dX6_errorOffset_31 rfl (fun hc => ?_) (fun hc => ?_)
      · have hf := oi_f hf hc
        refine lv_iload hx hb (pc := 60) dX6_errorOffset_60 (lv_at hl 0 rfl) ?_
        refine x_bipush C (pc := 62) dX6_errorOffset_62 (by decide) ?_
        refine x_icmpeq C (pc := 64) (tgt := 105) g_29 ⟨by decide, by decide⟩ dX6_errorOffset_64 rfl (fun hc => ?_) (fun hc => ?_)
        · have hf := oi_t hf hc
          obtain ⟨l4_30, el4_30, hf⟩ := ol_some hf
          refine x_iinc C (pc := 105) (k := 5) (lw' := [(4, iv l4_30), (5, iv l5_28), (0, .ref (b 1)), (1, iv l1), (2, iv l2), (3, iv l3)]) dX6_errorOffset_105 hl rfl el4_30 (Nat.le_of_ble_eq_true rfl) rfl (fun ls hl => ?_)
          refine lv_goto hx hb (pc := 108) (tgt := 9) dX6_errorOffset_108 rfl ?_
          exact ih l1 l2 l3 l4_30 _ _ _ (lv_sub hl [2, 3, 4, 5, 0] rfl) h hf
        · have hf := oi_f hf hc
          refine lv_iload_n hx hb (pc := 67) dX6_errorOffset_67 rfl (lv_at hl 2 rfl) ?_
          obtain ⟨g_31, hf⟩ := og_some hf
          obtain ⟨r_35, hrr_35, hf⟩ := ob_some hf
          have Jr_35 : ∀ (ls : Array Slot) (H : Heap) (locs : List Loc), lv_has ls 7 [(0, .ref (b 1)), (1, iv l1), (2, iv l2), (3, iv l3), (4, iv l4), (5, iv l5_28)] → XH D A H0 [((b 1), oT b T_len), ((b 2), aI cI 80 T_ch)] H locs → W p l e rm_te_errorOffset s m args below meth c H locs 0 0 Q (F0 m 77 ls [iv r_35]) := by
            intro ls H locs hl h
            refine lv_istore hx hb (pc := 77) (lv' := [(6, iv r_35), (0, .ref (b 1)), (1, iv l1), (2, iv l2), (3, iv l3), (4, iv l4), (5, iv l5_28)]) dX6_errorOffset_77 hl (Nat.le_of_ble_eq_true rfl) rfl (fun ls hl => ?_)
            refine lv_iload hx hb (pc := 79) dX6_errorOffset_79 (lv_at hl 6 rfl) ?_
            obtain ⟨q_36, hq_36, hf⟩ := ob_some hf
            refine x_callSi C h (pc := 81) hl (c_te_isDigit l D cI cJ cZ cO b l5_28 N q_36 hq_36) xs_X6_isDigit lk_X6_21 ⟨(Nat.le_of_ble_eq_true rfl), (Nat.le_of_ble_eq_true rfl)⟩ rfl [] [0, 1] (nw := 2) (wr := [((b 1), oT b T_len), ((b 2), aI cI 80 T_ch)]) (as := [(b 1), (b 2)]) (ws' := [((b 1), oT b T_len), ((b 2), aI cI 80 T_ch)]) rfl rfl rfl rfl rfl rfl rfl rfl rfl rfl (Nat.le_of_ble_eq_true rfl) dX6_errorOffset_81 (fun H locs h => ?_)
            obtain ⟨g_37, hf⟩ := og_some hf
            refine x_ifeq C (pc := 84) (tgt := 99) g_37 dX6_errorOffset_84 rfl (fun hc => ?_) (fun hc => ?_)
            · have hf := oi_t hf hc
              refine lv_iload hx hb (pc := 99) dX6_errorOffset_99 (lv_at hl 5 rfl) ?_
              have e9 := Option.some.inj hf
              subst e9
              exact hret _ _ _ _ dX6_errorOffset_101 h
            · have hf := oi_f hf hc
              refine lv_iload_n hx hb (pc := 87) dX6_errorOffset_87 rfl (lv_at hl 2 rfl) ?_
              refine x_bipush C (pc := 88) dX6_errorOffset_88 (by decide) ?_
              refine x_icmpeq C (pc := 90) (tgt := 99) g_31 ⟨by decide, by decide⟩ dX6_errorOffset_90 rfl (fun hc => ?_) (fun hc => ?_)
              · have hf := oi_t hf hc
                refine lv_iload hx hb (pc := 99) dX6_errorOffset_99 (lv_at hl 5 rfl) ?_
                have e9 := Option.some.inj hf
                subst e9
                exact hret _ _ _ _ dX6_errorOffset_101 h
              · have hf := oi_f hf hc
                refine lv_iload_n hx hb (pc := 93) dX6_errorOffset_93 rfl (lv_at hl 4 rfl) ?_
                refine lv_iload hx hb (pc := 94) dX6_errorOffset_94 (lv_at hl 0 rfl) ?_
                obtain ⟨g_38, hf⟩ := og_some hf
                obtain ⟨g_39, hf⟩ := og_some hf
                refine x_icmpne C (pc := 96) (tgt := 102) g_38 g_39 dX6_errorOffset_96 rfl (fun hc => ?_) (fun hc => ?_)
                · have hf := oi_f hf hc
                  obtain ⟨l3_40, el3_40, hf⟩ := ol_some hf
                  refine x_iinc C (pc := 102) (k := 4) (lw' := [(3, iv l3_40), (6, iv r_35), (0, .ref (b 1)), (1, iv l1), (2, iv l2), (4, iv l4), (5, iv l5_28)]) dX6_errorOffset_102 hl rfl el3_40 (Nat.le_of_ble_eq_true rfl) rfl (fun ls hl => ?_)
                  obtain ⟨l4_41, el4_41, hf⟩ := ol_some hf
                  refine x_iinc C (pc := 105) (k := 5) (lw' := [(4, iv l4_41), (3, iv l3_40), (6, iv r_35), (0, .ref (b 1)), (1, iv l1), (2, iv l2), (5, iv l5_28)]) dX6_errorOffset_105 hl rfl el4_41 (Nat.le_of_ble_eq_true rfl) rfl (fun ls hl => ?_)
                  refine lv_goto hx hb (pc := 108) (tgt := 9) dX6_errorOffset_108 rfl ?_
                  exact ih l1 l2 l3_40 l4_41 _ _ _ (lv_sub hl [3, 4, 5, 1, 0] rfl) h hf
                · have hf := oi_t hf hc
                  refine lv_iload hx hb (pc := 99) dX6_errorOffset_99 (lv_at hl 5 rfl) ?_
                  have e9 := Option.some.inj hf
                  subst e9
                  exact hret _ _ _ _ dX6_errorOffset_101 h
          clear hf
          have hf := hrr_35
          refine x_ifne C (pc := 68) (tgt := 76) g_31 dX6_errorOffset_68 rfl (fun hc => ?_) (fun hc => ?_)
          · have hf := oi_f hf hc
            refine lv_iload_n hx hb (pc := 76) dX6_errorOffset_76 rfl (lv_at hl 3 rfl) ?_
            have e9 := Option.some.inj hf
            subst e9
            exact Jr_35 _ _ _ (lv_sub hl [1, 2, 3, 4, 5, 0] rfl) h
          · have hf := oi_t hf hc
            refine x_bipush C (pc := 71) dX6_errorOffset_71 (by decide) ?_
            refine lv_goto hx hb (pc := 73) (tgt := 77) dX6_errorOffset_73 rfl ?_
            have e9 := Option.some.inj hf
            subst e9
            exact Jr_35 _ _ _ (lv_sub hl [1, 2, 3, 4, 5, 0] rfl) h
      · have hf := oi_t hf hc
        refine lv_iload_n hx hb (pc := 34) dX6_errorOffset_34 rfl (lv_at hl 4 rfl) ?_
        obtain ⟨g_32, hf⟩ := og_some hf
        refine x_ifeq C (pc := 35) (tgt := 47) g_32 dX6_errorOffset_35 rfl (fun hc => ?_) (fun hc => ?_)
        · have hf := oi_t hf hc
          refine lv_iload hx hb (pc := 47) dX6_errorOffset_47 (lv_at hl 5 rfl) ?_
          have e9 := Option.some.inj hf
          subst e9
          exact hret _ _ _ _ dX6_errorOffset_49 h
        · have hf := oi_f hf hc
          refine lv_iload_n hx hb (pc := 38) dX6_errorOffset_38 rfl (lv_at hl 2 rfl) ?_
          obtain ⟨g_33, hf⟩ := og_some hf
          refine x_ifle C (pc := 39) (tgt := 50) g_33 dX6_errorOffset_39 rfl (fun hc => ?_) (fun hc => ?_)
          · have hf := oi_t hf hc
            exact w_te_errorOffset_50 C b T_len T_ch Res hret N (f_te_errorOffset_9 N T_len T_ch n) ih l1 l3 l4 _ _ _ (lv_sub hl [1, 2, 4, 5] rfl) h hf
          · have hf := oi_f hf hc
            refine lv_iload_n hx hb (pc := 42) dX6_errorOffset_42 rfl (lv_at hl 4 rfl) ?_
            refine lv_iload_n hx hb (pc := 43) dX6_errorOffset_43 rfl (lv_at hl 3 rfl) ?_
            obtain ⟨g_34, hf⟩ := og_some hf
            refine x_icmpeq C (pc := 44) (tgt := 50) g_32 g_34 dX6_errorOffset_44 rfl (fun hc => ?_) (fun hc => ?_)
            · have hf := oi_t hf hc
              exact w_te_errorOffset_50 C b T_len T_ch Res hret N (f_te_errorOffset_9 N T_len T_ch n) ih l1 l3 l4 _ _ _ (lv_sub hl [1, 2, 4, 5] rfl) h hf
            · have hf := oi_f hf hc
              refine lv_iload hx hb (pc := 47) dX6_errorOffset_47 (lv_at hl 5 rfl) ?_
              have e9 := Option.some.inj hf
              subst e9
              exact hret _ _ _ _ dX6_errorOffset_49 h
set_option maxHeartbeats 4000000 in
set_option maxRecDepth 100000 in
theorem c_te_errorOffset (l : Launch) (D : va_G) (cI cJ cZ cO : ClassId) (b : Nat → Nat) (T_len : Int) (T_ch : Int → Int) (N : Nat) (Res : Int) (hf : f_te_errorOffset N T_len T_ch = some Res) : CoI l D (xT cI cJ cZ cO) yX6_errorOffset cX6_errorOffset 7 (some .int) rm_te_errorOffset [.ref (b 1)] [((b 1), oT b T_len), ((b 2), aI cI 80 T_ch)] Res [((b 1), oT b T_len), ((b 2), aI cI 80 T_ch)] := by
  refine co_i (by decide) ⟨rfl, rfl⟩ (Nat.le_of_ble_eq_true rfl) ?_
  intro p e s m args below meth c A Q ls C hret hl h
  have hx := C.1.1
  have hb := C.1.2.1
  have hl : lv_has ls 7 [(0, .ref (b 1))] := hl
  unfold f_te_errorOffset at hf
  refine x_iconst C (pc := 0) dX6_errorOffset_0 ?_
  refine lv_istore_n hx hb (pc := 1) (lv' := [(1, iv 0), (0, .ref (b 1))]) dX6_errorOffset_1 rfl hl (Nat.le_of_ble_eq_true rfl) rfl (fun ls hl => ?_)
  refine x_iconst C (pc := 2) dX6_errorOffset_2 ?_
  refine lv_istore_n hx hb (pc := 3) (lv' := [(2, iv 0), (1, iv 0), (0, .ref (b 1))]) dX6_errorOffset_3 rfl hl (Nat.le_of_ble_eq_true rfl) rfl (fun ls hl => ?_)
  refine x_iconst C (pc := 4) dX6_errorOffset_4 ?_
  refine lv_istore_n hx hb (pc := 5) (lv' := [(3, iv 0), (2, iv 0), (1, iv 0), (0, .ref (b 1))]) dX6_errorOffset_5 rfl hl (Nat.le_of_ble_eq_true rfl) rfl (fun ls hl => ?_)
  refine x_iconst C (pc := 6) dX6_errorOffset_6 ?_
  refine lv_istore hx hb (pc := 7) (lv' := [(4, iv 0), (3, iv 0), (2, iv 0), (1, iv 0), (0, .ref (b 1))]) dX6_errorOffset_7 hl (Nat.le_of_ble_eq_true rfl) rfl (fun ls hl => ?_)
  exact w_te_errorOffset_9 C b T_len T_ch Res hret N N 0 0 0 0 _ _ _ (lv_sub hl [4, 3, 2, 1, 0] rfl) h hf
abbrev rm_te_copyTo : Room := { frames := 1, cells := 0, slots := 0, locals := 21 }
set_option maxHeartbeats 4000000 in
set_option maxRecDepth 100000 in
theorem w_te_copyTo_7 {p : Program} {l : Launch} {e : Env} {s : State} {m : MethodId} {args : Array Value} {below : List Frame} {meth : Method} {c : Code} {Q : State → Prop} {D : va_G} {cI cJ cZ cO : ClassId} {A : Nat → Prop} {H0 : Heap} {w0 : Cond} (C : XC p s m args c cX6_copyTo 6 RX6 w0 D (xT cI cJ cZ cO)) (b : Nat → Nat) (T_len : Int) (T_ch : Int → Int) (D_cr : BitVec 64) (D_cb : BitVec 64) (D_cl : Int) (D_kl : Int) (Res : Int × Int × (Int → Int)) (hret : XRV p l e rm_te_copyTo s m args below meth c cX6_copyTo D A H0 Q [((b 1), oT b T_len), ((b 2), aI cI 80 T_ch), ((b 3), oD (b 4) Res.1 Res.2.1 D_cr D_cb D_cl D_kl), ((b 4), aI cI 56 Res.2.2)]) (N : Nat) (D_rows : Int) : ∀ (n : Nat) (l2 : Int) (l3 : Int) (l4 : Int) (D_cols : Int) (D_col : Int → Int) (ls : Array Slot) (H : Heap) (locs : List Loc), lv_has ls 6 [(0, .ref (b 1)), (1, .ref (b 3)), (2, iv l2), (3, iv l3), (4, iv l4)] → XH D A H0 [((b 1), oT b T_len), ((b 2), aI cI 80 T_ch), ((b 3), oD (b 4) D_rows D_cols D_cr D_cb D_cl D_kl), ((b 4), aI cI 56 D_col)] H locs → f_te_copyTo_7 N D_rows T_len T_ch n l2 l3 l4 D_cols D_col = some Res → W p l e rm_te_copyTo s m args below meth c H locs 0 0 Q (F0 m 7 ls []) := by
  have hx := C.1.1
  have hb := C.1.2.1
  intro n
  induction n with
  | zero => intro l2 l3 l4 D_cols D_col ls H locs hl h hf; cases hf
  | succ n ih =>
    intro l2 l3 l4 D_cols D_col ls H locs hl h hf
    rw [f_te_copyTo_7.eq_2] at hf
    refine lv_iload hx hb (pc := 7) dX6_copyTo_7 (lv_at hl 4 rfl) ?_
    refine lv_aload_n hx hb (pc := 9) dX6_copyTo_9 rfl (lv_at hl 0 rfl) ?_
    refine x_get C h (pc := 10) xf_X6_15 0 rfl (v := iv T_len) rfl dX6_copyTo_10 ?_
    obtain ⟨g_1, hf⟩ := og_some hf
    obtain ⟨g_2, hf⟩ := og_some hf
    refine x_icmpge C (pc := 13) (tgt := 89) g_1 g_2 dX6_copyTo_13 rfl (fun hc => ?_) (fun hc => ?_)
    · have hf := oi_t hf hc
      refine lv_aload_n hx hb (pc := 89) dX6_copyTo_89 rfl (lv_at hl 1 rfl) ?_
      refine lv_iload_n hx hb (pc := 90) dX6_copyTo_90 rfl (lv_at hl 2 rfl) ?_
      refine x_puti C h (pc := 91) (ws' := [((b 1), oT b T_len), ((b 2), aI cI 80 T_ch), ((b 3), oD (b 4) l2 D_cols D_cr D_cb D_cl D_kl), ((b 4), aI cI 56 D_col)]) xf_X6_37 xp_X2 rfl 2 rfl rfl (Nat.le_of_ble_eq_true rfl) rfl dX6_copyTo_91 (fun H locs h => ?_)
      have e9 := Option.some.inj hf
      subst e9
      exact hret _ _ _ _ dX6_copyTo_94 h
    · have hf := oi_f hf hc
      refine lv_aload_n hx hb (pc := 16) dX6_copyTo_16 rfl (lv_at hl 0 rfl) ?_
      refine x_get C h (pc := 17) xf_X6_11 0 rfl (v := .ref (b 2)) rfl dX6_copyTo_17 ?_
      refine lv_iload hx hb (pc := 20) dX6_copyTo_20 (lv_at hl 4 rfl) ?_
      obtain ⟨g_3, hf⟩ := og_some hf
      refine x_iald C h (pc := 22) 1 0 rfl rfl (Nat.le_of_ble_eq_true rfl) g_3 dX6_copyTo_22 ?_
      obtain ⟨l5_4, el5_4, hf⟩ := ol_some hf
      refine x_topi el5_4 ?_
      refine lv_istore hx hb (pc := 23) (lv' := [(5, iv l5_4), (0, .ref (b 1)), (1, .ref (b 3)), (2, iv l2), (3, iv l3), (4, iv l4)]) dX6_copyTo_23 hl (Nat.le_of_ble_eq_true rfl) rfl (fun ls hl => ?_)
      refine lv_iload hx hb (pc := 25) dX6_copyTo_25 (lv_at hl 0 rfl) ?_
      refine x_bipush C (pc := 27) dX6_copyTo_27 (by decide) ?_
      obtain ⟨g_5, hf⟩ := og_some hf
      obtain ⟨r_20, hrr_20, hf⟩ := ob_some hf
      have Jr_20 : ∀ (ls : Array Slot) (H : Heap) (locs : List Loc), lv_has ls 6 [(0, .ref (b 1)), (1, .ref (b 3)), (2, iv r_20.1), (3, iv r_20.2.1), (4, iv r_20.2.2.1)] → XH D A H0 [((b 1), oT b T_len), ((b 2), aI cI 80 T_ch), ((b 3), oD (b 4) D_rows r_20.2.2.2.1 D_cr D_cb D_cl D_kl), ((b 4), aI cI 56 r_20.2.2.2.2)] H locs → W p l e rm_te_copyTo s m args below meth c H locs 0 0 Q (F0 m 7 ls []) := by
        intro ls H locs hl h
        exact ih r_20.1 r_20.2.1 r_20.2.2.1 r_20.2.2.2.1 r_20.2.2.2.2 _ _ _ (lv_sub hl [0, 1, 2, 3, 4] rfl) h hf
      clear hf
      have hf := hrr_20
      refine x_icmpne C (pc := 29) (tgt := 45) g_5 ⟨by decide, by decide⟩ dX6_copyTo_29 rfl (fun hc => ?_) (fun hc => ?_)
      · have hf := oi_f hf hc
        refine lv_iload hx hb (pc := 45) dX6_copyTo_45 (lv_at hl 0 rfl) ?_
        obtain ⟨q_6, hq_6, hf⟩ := ob_some hf
        refine x_callSi C h (pc := 47) hl (c_te_isDigit l D cI cJ cZ cO b l5_4 N q_6 hq_6) xs_X6_isDigit lk_X6_21 ⟨(Nat.le_of_ble_eq_true rfl), (Nat.le_of_ble_eq_true rfl)⟩ rfl [] [0, 1, 2, 3] (nw := 4) (wr := [((b 1), oT b T_len), ((b 2), aI cI 80 T_ch), ((b 3), oD (b 4) D_rows D_cols D_cr D_cb D_cl D_kl), ((b 4), aI cI 56 D_col)]) (as := [(b 1), (b 2), (b 3), (b 4)]) (ws' := [((b 1), oT b T_len), ((b 2), aI cI 80 T_ch), ((b 3), oD (b 4) D_rows D_cols D_cr D_cb D_cl D_kl), ((b 4), aI cI 56 D_col)]) rfl rfl rfl rfl rfl rfl rfl rfl rfl rfl (Nat.le_of_ble_eq_true rfl) dX6_copyTo_47 (fun H locs h => ?_)
        obtain ⟨g_7, hf⟩ := og_some hf
        refine x_ifeq C (pc := 50) (tgt := 83) g_7 dX6_copyTo_50 rfl (fun hc => ?_) (fun hc => ?_)
        · have hf := oi_t hf hc
          obtain ⟨l4_8, el4_8, hf⟩ := ol_some hf
          refine x_iinc C (pc := 83) (k := 5) (lw' := [(4, iv l4_8), (5, iv l5_4), (0, .ref (b 1)), (1, .ref (b 3)), (2, iv l2), (3, iv l3)]) dX6_copyTo_83 hl rfl el4_8 (Nat.le_of_ble_eq_true rfl) rfl (fun ls hl => ?_)
          refine lv_goto hx hb (pc := 86) (tgt := 7) dX6_copyTo_86 rfl ?_
          have e9 := Option.some.inj hf
          subst e9
          exact Jr_20 _ _ _ (lv_sub hl [2, 3, 4, 5, 0] rfl) h
        · have hf := oi_f hf hc
          refine lv_iload_n hx hb (pc := 53) dX6_copyTo_53 rfl (lv_at hl 3 rfl) ?_
          refine x_bipush C (pc := 54) dX6_copyTo_54 (by decide) ?_
          obtain ⟨g_9, hf⟩ := og_some hf
          refine x_icmpge C (pc := 56) (tgt := 83) g_9 ⟨by decide, by decide⟩ dX6_copyTo_56 rfl (fun hc => ?_) (fun hc => ?_)
          · have hf := oi_t hf hc
            obtain ⟨l4_10, el4_10, hf⟩ := ol_some hf
            refine x_iinc C (pc := 83) (k := 5) (lw' := [(4, iv l4_10), (5, iv l5_4), (0, .ref (b 1)), (1, .ref (b 3)), (2, iv l2), (3, iv l3)]) dX6_copyTo_83 hl rfl el4_10 (Nat.le_of_ble_eq_true rfl) rfl (fun ls hl => ?_)
            refine lv_goto hx hb (pc := 86) (tgt := 7) dX6_copyTo_86 rfl ?_
            have e9 := Option.some.inj hf
            subst e9
            exact Jr_20 _ _ _ (lv_sub hl [2, 3, 4, 5, 0] rfl) h
          · have hf := oi_f hf hc
            refine lv_iload_n hx hb (pc := 59) dX6_copyTo_59 rfl (lv_at hl 4 rfl) ?_
            refine x_bipush C (pc := 60) dX6_copyTo_60 (by decide) ?_
            obtain ⟨g_11, hf⟩ := og_some hf
            refine x_icmpge C (pc := 62) (tgt := 83) g_11 ⟨by decide, by decide⟩ dX6_copyTo_62 rfl (fun hc => ?_) (fun hc => ?_)
            · have hf := oi_t hf hc
              obtain ⟨l4_12, el4_12, hf⟩ := ol_some hf
              refine x_iinc C (pc := 83) (k := 5) (lw' := [(4, iv l4_12), (5, iv l5_4), (0, .ref (b 1)), (1, .ref (b 3)), (2, iv l2), (3, iv l3)]) dX6_copyTo_83 hl rfl el4_12 (Nat.le_of_ble_eq_true rfl) rfl (fun ls hl => ?_)
              refine lv_goto hx hb (pc := 86) (tgt := 7) dX6_copyTo_86 rfl ?_
              have e9 := Option.some.inj hf
              subst e9
              exact Jr_20 _ _ _ (lv_sub hl [2, 3, 4, 5, 0] rfl) h
            · have hf := oi_f hf hc
              refine lv_aload_n hx hb (pc := 65) dX6_copyTo_65 rfl (lv_at hl 2 rfl) ?_
              refine x_get C h (pc := 66) xf_X6_30 2 rfl (v := .ref (b 4)) rfl dX6_copyTo_66 ?_
              refine lv_iload_n hx hb (pc := 69) dX6_copyTo_69 rfl (lv_at hl 3 rfl) ?_
              refine lv_iload_n hx hb (pc := 70) dX6_copyTo_70 rfl (lv_at hl 4 rfl) ?_
              obtain ⟨q_13, hq_13, hf⟩ := ob_some hf
              refine x_callSi C h (pc := 71) hl (c_ce_number l D cI cJ cZ cO l2 l3 N q_13 hq_13) xs_X0_number lk_X6_33 ⟨(Nat.le_of_ble_eq_true rfl), (Nat.le_of_ble_eq_true rfl)⟩ rfl [] [0, 1, 2, 3] (nw := 4) (wr := [((b 1), oT b T_len), ((b 2), aI cI 80 T_ch), ((b 3), oD (b 4) D_rows D_cols D_cr D_cb D_cl D_kl), ((b 4), aI cI 56 D_col)]) (as := [(b 1), (b 2), (b 3), (b 4)]) (ws' := [((b 1), oT b T_len), ((b 2), aI cI 80 T_ch), ((b 3), oD (b 4) D_rows D_cols D_cr D_cb D_cl D_kl), ((b 4), aI cI 56 D_col)]) rfl rfl rfl rfl rfl rfl rfl rfl rfl rfl (Nat.le_of_ble_eq_true rfl) dX6_copyTo_71 (fun H locs h => ?_)
              refine lv_iload hx hb (pc := 74) dX6_copyTo_74 (lv_at hl 0 rfl) ?_
              refine x_bipush C (pc := 76) dX6_copyTo_76 (by decide) ?_
              refine x_isub C (pc := 78) dX6_copyTo_78 ?_
              obtain ⟨g_14, hf⟩ := og_some hf
              obtain ⟨D_col_15, eD_col_15, hf⟩ := ol_some hf
              refine x_iast C h (pc := 79) (ws' := [((b 1), oT b T_len), ((b 2), aI cI 80 T_ch), ((b 3), oD (b 4) D_rows D_cols D_cr D_cb D_cl D_kl), ((b 4), aI cI 56 D_col_15)]) 3 0 rfl rfl (Nat.le_of_ble_eq_true rfl) g_14 eD_col_15 rfl dX6_copyTo_79 (fun H locs h => ?_)
              obtain ⟨l3_16, el3_16, hf⟩ := ol_some hf
              refine x_iinc C (pc := 80) (k := 4) (lw' := [(3, iv l3_16), (5, iv l5_4), (0, .ref (b 1)), (1, .ref (b 3)), (2, iv l2), (4, iv l4)]) dX6_copyTo_80 hl rfl el3_16 (Nat.le_of_ble_eq_true rfl) rfl (fun ls hl => ?_)
              obtain ⟨l4_17, el4_17, hf⟩ := ol_some hf
              refine x_iinc C (pc := 83) (k := 5) (lw' := [(4, iv l4_17), (3, iv l3_16), (5, iv l5_4), (0, .ref (b 1)), (1, .ref (b 3)), (2, iv l2)]) dX6_copyTo_83 hl rfl el4_17 (Nat.le_of_ble_eq_true rfl) rfl (fun ls hl => ?_)
              refine lv_goto hx hb (pc := 86) (tgt := 7) dX6_copyTo_86 rfl ?_
              have e9 := Option.some.inj hf
              subst e9
              exact Jr_20 _ _ _ (lv_sub hl [3, 4, 5, 1, 0] rfl) h
      · have hf := oi_t hf hc
        refine lv_aload_n hx hb (pc := 32) dX6_copyTo_32 rfl (lv_at hl 2 rfl) ?_
        refine lv_iload_n hx hb (pc := 33) dX6_copyTo_33 rfl (lv_at hl 4 rfl) ?_
        refine x_puti C h (pc := 34) (ws' := [((b 1), oT b T_len), ((b 2), aI cI 80 T_ch), ((b 3), oD (b 4) D_rows l3 D_cr D_cb D_cl D_kl), ((b 4), aI cI 56 D_col)]) xf_X6_25 xp_X2 rfl 2 rfl rfl (Nat.le_of_ble_eq_true rfl) rfl dX6_copyTo_34 (fun H locs h => ?_)
        refine x_iconst C (pc := 37) dX6_copyTo_37 ?_
        refine lv_istore_n hx hb (pc := 38) (lv' := [(3, iv 0), (5, iv l5_4), (0, .ref (b 1)), (1, .ref (b 3)), (2, iv l2), (4, iv l4)]) dX6_copyTo_38 rfl hl (Nat.le_of_ble_eq_true rfl) rfl (fun ls hl => ?_)
        obtain ⟨l2_18, el2_18, hf⟩ := ol_some hf
        refine x_iinc C (pc := 39) (k := 4) (lw' := [(2, iv l2_18), (3, iv 0), (5, iv l5_4), (0, .ref (b 1)), (1, .ref (b 3)), (4, iv l4)]) dX6_copyTo_39 hl rfl el2_18 (Nat.le_of_ble_eq_true rfl) rfl (fun ls hl => ?_)
        refine lv_goto hx hb (pc := 42) (tgt := 83) dX6_copyTo_42 rfl ?_
        obtain ⟨l4_19, el4_19, hf⟩ := ol_some hf
        refine x_iinc C (pc := 83) (k := 5) (lw' := [(4, iv l4_19), (2, iv l2_18), (3, iv 0), (5, iv l5_4), (0, .ref (b 1)), (1, .ref (b 3))]) dX6_copyTo_83 hl rfl el4_19 (Nat.le_of_ble_eq_true rfl) rfl (fun ls hl => ?_)
        refine lv_goto hx hb (pc := 86) (tgt := 7) dX6_copyTo_86 rfl ?_
        have e9 := Option.some.inj hf
        subst e9
        exact Jr_20 _ _ _ (lv_sub hl [4, 5, 1, 2, 0] rfl) h
set_option maxHeartbeats 4000000 in
set_option maxRecDepth 100000 in
theorem c_te_copyTo (l : Launch) (D : va_G) (cI cJ cZ cO : ClassId) (b : Nat → Nat) (T_len : Int) (T_ch : Int → Int) (D_rows : Int) (D_cols : Int) (D_cr : BitVec 64) (D_cb : BitVec 64) (D_cl : Int) (D_kl : Int) (D_col : Int → Int) (N : Nat) (Res : Int × Int × (Int → Int)) (hf : f_te_copyTo N T_len T_ch D_rows D_cols D_col = some Res) : CoV l D (xT cI cJ cZ cO) yX6_copyTo cX6_copyTo 6 none rm_te_copyTo [.ref (b 1), .ref (b 3)] [((b 1), oT b T_len), ((b 2), aI cI 80 T_ch), ((b 3), oD (b 4) D_rows D_cols D_cr D_cb D_cl D_kl), ((b 4), aI cI 56 D_col)] [((b 1), oT b T_len), ((b 2), aI cI 80 T_ch), ((b 3), oD (b 4) Res.1 Res.2.1 D_cr D_cb D_cl D_kl), ((b 4), aI cI 56 Res.2.2)] := by
  refine co_v (by decide) ⟨rfl, rfl⟩ (Nat.le_of_ble_eq_true rfl) ?_
  intro p e s m args below meth c A Q ls C hret hl h
  have hx := C.1.1
  have hb := C.1.2.1
  have hl : lv_has ls 6 [(0, .ref (b 1)), (1, .ref (b 3))] := hl
  unfold f_te_copyTo at hf
  refine x_iconst C (pc := 0) dX6_copyTo_0 ?_
  refine lv_istore_n hx hb (pc := 1) (lv' := [(2, iv 0), (0, .ref (b 1)), (1, .ref (b 3))]) dX6_copyTo_1 rfl hl (Nat.le_of_ble_eq_true rfl) rfl (fun ls hl => ?_)
  refine x_iconst C (pc := 2) dX6_copyTo_2 ?_
  refine lv_istore_n hx hb (pc := 3) (lv' := [(3, iv 0), (2, iv 0), (0, .ref (b 1)), (1, .ref (b 3))]) dX6_copyTo_3 rfl hl (Nat.le_of_ble_eq_true rfl) rfl (fun ls hl => ?_)
  refine x_iconst C (pc := 4) dX6_copyTo_4 ?_
  refine lv_istore hx hb (pc := 5) (lv' := [(4, iv 0), (3, iv 0), (2, iv 0), (0, .ref (b 1)), (1, .ref (b 3))]) dX6_copyTo_5 hl (Nat.le_of_ble_eq_true rfl) rfl (fun ls hl => ?_)
  exact w_te_copyTo_7 C b T_len T_ch D_cr D_cb D_cl D_kl Res hret N D_rows N 0 0 0 D_cols D_col _ _ _ (lv_sub hl [3, 4, 2, 1, 0] rfl) h hf
