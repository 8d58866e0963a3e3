abbrev rm_pa_hasPane : Room := { frames := 0, cells := 0, slots := 0, locals := 0 }
set_option maxHeartbeats 4000000 in
set_option maxRecDepth 100000 in
theorem c_pa_hasPane (l : Launch) (D : va_G) (cI cJ cZ cO : ClassId) (b : Nat → Nat) (P_all : BitVec 64) (P_jr : BitVec 64) (P_jb : BitVec 64) (P_count : Int) (l1 : Int) (N : Nat) (Res : Int) (hf : f_pa_hasPane N l1 P_count = some Res) : CoI l D (xT cI cJ cZ cO) yX4_hasPane cX4_hasPane 2 (some .boolean) rm_pa_hasPane [.ref (b 7), iv l1] [((b 7), oP b P_all P_jr P_jb P_count)] Res [((b 7), oP b P_all P_jr P_jb P_count)] := by
  refine co_z (by decide) ⟨rfl, rfl⟩ (Nat.le_of_ble_eq_true rfl) ?_
  intro p e s m args below meth c A Q ls C hret hl h
  have hx := C.1.1
  have hb := C.1.2.1
  have hl : lv_has ls 2 [(0, .ref (b 7)), (1, iv l1)] := hl
  unfold f_pa_hasPane at hf
  refine lv_iload_n hx hb (pc := 0) dX4_hasPane_0 rfl (lv_at hl 1 rfl) ?_
  obtain ⟨g_1, hf⟩ := og_some hf
  refine x_iflt C (pc := 1) (tgt := 16) g_1 dX4_hasPane_1 rfl (fun hc => ?_) (fun hc => ?_)
  · have hf := oi_t hf hc
    refine x_iconst C (pc := 16) dX4_hasPane_16 ?_
    have e9 := Option.some.inj hf
    subst e9
    exact hret _ _ _ _ (Or.inl rfl) dX4_hasPane_17 h
  · have hf := oi_f hf hc
    refine lv_iload_n hx hb (pc := 4) dX4_hasPane_4 rfl (lv_at hl 1 rfl) ?_
    refine lv_aload_n hx hb (pc := 5) dX4_hasPane_5 rfl (lv_at hl 0 rfl) ?_
    refine x_get C h (pc := 6) xf_X4_19 0 rfl (v := iv P_count) rfl dX4_hasPane_6 ?_
    obtain ⟨g_2, hf⟩ := og_some hf
    refine x_icmpge C (pc := 9) (tgt := 16) g_1 g_2 dX4_hasPane_9 rfl (fun hc => ?_) (fun hc => ?_)
    · have hf := oi_t hf hc
      refine x_iconst C (pc := 16) dX4_hasPane_16 ?_
      have e9 := Option.some.inj hf
      subst e9
      exact hret _ _ _ _ (Or.inl rfl) dX4_hasPane_17 h
    · have hf := oi_f hf hc
      refine x_iconst C (pc := 12) dX4_hasPane_12 ?_
      refine lv_goto hx hb (pc := 13) (tgt := 17) dX4_hasPane_13 rfl ?_
      have e9 := Option.some.inj hf
      subst e9
      exact hret _ _ _ _ (Or.inr rfl) dX4_hasPane_17 h
abbrev rm_pa_everyPane : Room := { frames := 0, cells := 0, slots := 0, locals := 0 }
set_option maxHeartbeats 4000000 in
set_option maxRecDepth 100000 in
theorem c_pa_everyPane (l : Launch) (D : va_G) (cI cJ cZ cO : ClassId) (b : Nat → Nat) (P_all : BitVec 64) (P_jr : BitVec 64) (P_jb : BitVec 64) (P_count : Int) (N : Nat) (Res : BitVec 64) (hf : f_pa_everyPane N P_count = some Res) : CoL l D (xT cI cJ cZ cO) yX4_everyPane cX4_everyPane 1 (some .long) rm_pa_everyPane [.ref (b 7)] [((b 7), oP b P_all P_jr P_jb P_count)] Res [((b 7), oP b P_all P_jr P_jb P_count)] := by
  refine co_l (by decide) ⟨rfl, rfl⟩ (Nat.le_of_ble_eq_true rfl) ?_
  intro p e s m args below meth c A Q ls C hret hl h
  have hx := C.1.1
  have hb := C.1.2.1
  have hl : lv_has ls 1 [(0, .ref (b 7))] := hl
  unfold f_pa_everyPane at hf
  refine x_lconst C (pc := 0) (x := 1#64) rfl dX4_everyPane_0 ?_
  refine lv_aload_n hx hb (pc := 1) dX4_everyPane_1 rfl (lv_at hl 0 rfl) ?_
  refine x_get C h (pc := 2) xf_X4_19 0 rfl (v := iv P_count) rfl dX4_everyPane_2 ?_
  obtain ⟨g_1, hf⟩ := og_some hf
  refine x_lshl C (pc := 5) g_1 dX4_everyPane_5 ?_
  refine x_lconst C (pc := 6) (x := 1#64) rfl dX4_everyPane_6 ?_
  refine x_lsub C (pc := 7) dX4_everyPane_7 ?_
  have e9 := Option.some.inj hf
  subst e9
  exact hret _ _ _ _ dX4_everyPane_8 h
abbrev rm_pa_numberOf : Room := { frames := 0, cells := 0, slots := 0, locals := 0 }
set_option maxHeartbeats 4000000 in
set_option maxRecDepth 100000 in
theorem w_pa_numberOf_5 {p : Program} {l : Launch} {e : Env} {s : State} {m : MethodId} {args : Array Value} {below : List Frame} {meth : Method} {c : Code} {Q : State → Prop} {D : va_G} {cI cJ cZ cO : ClassId} {A : Nat → Prop} {H0 : Heap} {w0 : Cond} (C : XC p s m args c cX4_numberOf 5 RX4 w0 D (xT cI cJ cZ cO)) (b : Nat → Nat) (P_all : BitVec 64) (P_jr : BitVec 64) (P_jb : BitVec 64) (P_count : Int) (P_cells : Int → BitVec 64) (Res : Int) (hret : XRI p l e rm_pa_numberOf s m args below meth c cX4_numberOf D A H0 Q Res [((b 7), oP b P_all P_jr P_jb P_count), ((b 8), aJ cJ 49 P_cells)]) (N : Nat) (l1 : BitVec 64) : ∀ (n : Nat) (l3 : Int) (l4 : Int) (ls : Array Slot) (H : Heap) (locs : List Loc), lv_has ls 5 [(0, .ref (b 7)), (1, lv l1), (3, iv l3), (4, iv l4)] → XH D A H0 [((b 7), oP b P_all P_jr P_jb P_count), ((b 8), aJ cJ 49 P_cells)] H locs → f_pa_numberOf_5 N l1 P_count P_cells n l3 l4 = some Res → W p l e rm_pa_numberOf s m args below meth c H locs 0 0 Q (F0 m 5 ls []) := by
  have hx := C.1.1
  have hb := C.1.2.1
  intro n
  induction n with
  | zero => intro l3 l4 ls H locs hl h hf; cases hf
  | succ n ih =>
    intro l3 l4 ls H locs hl h hf
    rw [f_pa_numberOf_5.eq_2] at hf
    refine lv_iload hx hb (pc := 5) dX4_numberOf_5 (lv_at hl 3 rfl) ?_
    refine lv_aload_n hx hb (pc := 7) dX4_numberOf_7 rfl (lv_at hl 0 rfl) ?_
    refine x_get C h (pc := 8) xf_X4_19 0 rfl (v := iv P_count) rfl dX4_numberOf_8 ?_
    obtain ⟨g_1, hf⟩ := og_some hf
    obtain ⟨g_2, hf⟩ := og_some hf
    refine x_icmpge C (pc := 11) (tgt := 37) g_1 g_2 dX4_numberOf_11 rfl (fun hc => ?_) (fun hc => ?_)
    · have hf := oi_t hf hc
      refine lv_iload_n hx hb (pc := 37) dX4_numberOf_37 rfl (lv_at hl 2 rfl) ?_
      have e9 := Option.some.inj hf
      subst e9
      exact hret _ _ _ _ dX4_numberOf_38 h
    · have hf := oi_f hf hc
      refine lv_aload_n hx hb (pc := 14) dX4_numberOf_14 rfl (lv_at hl 0 rfl) ?_
      refine x_get C h (pc := 15) xf_X4_25 0 rfl (v := .ref (b 8)) rfl dX4_numberOf_15 ?_
      refine lv_iload hx hb (pc := 18) dX4_numberOf_18 (lv_at hl 3 rfl) ?_
      obtain ⟨g_3, hf⟩ := og_some hf
      obtain ⟨r_6, hrr_6, hf⟩ := ob_some hf
      have Jr_6 : ∀ (ls : Array Slot) (H : Heap) (locs : List Loc), lv_has ls 5 [(0, .ref (b 7)), (1, lv l1), (3, iv r_6.1), (4, iv r_6.2)] → XH D A H0 [((b 7), oP b P_all P_jr P_jb P_count), ((b 8), aJ cJ 49 P_cells)] H locs → W p l e rm_pa_numberOf s m args below meth c H locs 0 0 Q (F0 m 5 ls []) := by
        intro ls H locs hl h
        exact ih r_6.1 r_6.2 _ _ _ (lv_sub hl [0, 1, 2, 3] rfl) h hf
      clear hf
      have hf := hrr_6
      refine x_lald C h (pc := 20) 1 1 rfl rfl (Nat.le_of_ble_eq_true rfl) g_3 dX4_numberOf_20 ?_
      refine lv_lload_n hx hb (pc := 21) dX4_numberOf_21 rfl (lv_at hl 1 rfl) ?_
      refine x_land C (pc := 22) dX4_numberOf_22 ?_
      refine x_lconst C (pc := 23) (x := 0#64) rfl dX4_numberOf_23 ?_
      refine x_lcmpeq C (pc := 24) (tgt := 31) dX4_numberOf_24 dX4_numberOf_25 rfl (fun hc => ?_) (fun hc => ?_)
      · have hf := oi_t hf hc
        obtain ⟨l4_4, el4_4, hf⟩ := ol_some hf
        refine x_iinc C (pc := 31) (k := 3) (lw' := [(4, iv l4_4), (0, .ref (b 7)), (1, lv l1), (3, iv l3)]) dX4_numberOf_31 hl rfl el4_4 (Nat.le_of_ble_eq_true rfl) rfl (fun ls hl => ?_)
        refine lv_goto hx hb (pc := 34) (tgt := 5) dX4_numberOf_34 rfl ?_
        have e9 := Option.some.inj hf
        subst e9
        exact Jr_6 _ _ _ (lv_sub hl [1, 2, 3, 0] rfl) h
      · have hf := oi_f hf hc
        refine lv_iload hx hb (pc := 28) dX4_numberOf_28 (lv_at hl 3 rfl) ?_
        refine lv_istore_n hx hb (pc := 30) (lv' := [(3, iv l4), (0, .ref (b 7)), (1, lv l1), (4, iv l4)]) dX4_numberOf_30 rfl hl (Nat.le_of_ble_eq_true rfl) rfl (fun ls hl => ?_)
        obtain ⟨l4_5, el4_5, hf⟩ := ol_some hf
        refine x_iinc C (pc := 31) (k := 3) (lw' := [(4, iv l4_5), (3, iv l4), (0, .ref (b 7)), (1, lv l1)]) dX4_numberOf_31 hl rfl el4_5 (Nat.le_of_ble_eq_true rfl) rfl (fun ls hl => ?_)
        refine lv_goto hx hb (pc := 34) (tgt := 5) dX4_numberOf_34 rfl ?_
        have e9 := Option.some.inj hf
        subst e9
        exact Jr_6 _ _ _ (lv_sub hl [2, 3, 1, 0] rfl) h
set_option maxHeartbeats 4000000 in
set_option maxRecDepth 100000 in
theorem c_pa_numberOf (l : Launch) (D : va_G) (cI cJ cZ cO : ClassId) (b : Nat → Nat) (P_all : BitVec 64) (P_jr : BitVec 64) (P_jb : BitVec 64) (P_count : Int) (P_cells : Int → BitVec 64) (l1 : BitVec 64) (N : Nat) (Res : Int) (hf : f_pa_numberOf N l1 P_count P_cells = some Res) : CoI l D (xT cI cJ cZ cO) yX4_numberOf cX4_numberOf 5 (some .int) rm_pa_numberOf [.ref (b 7), lv l1] [((b 7), oP b P_all P_jr P_jb P_count), ((b 8), aJ cJ 49 P_cells)] Res [((b 7), oP b P_all P_jr P_jb P_count), ((b 8), aJ cJ 49 P_cells)] := by
  refine co_i (by decide) ⟨rfl, rfl⟩ (Nat.le_of_ble_eq_true rfl) ?_
  intro p e s m args below meth c A Q ls C hret hl h
  have hx := C.1.1
  have hb := C.1.2.1
  have hl : lv_has ls 5 [(0, .ref (b 7)), (1, lv l1)] := hl
  unfold f_pa_numberOf at hf
  refine x_iconst C (pc := 0) dX4_numberOf_0 ?_
  refine lv_istore_n hx hb (pc := 1) (lv' := [(3, iv 0), (0, .ref (b 7)), (1, lv l1)]) dX4_numberOf_1 rfl hl (Nat.le_of_ble_eq_true rfl) rfl (fun ls hl => ?_)
  refine x_iconst C (pc := 2) dX4_numberOf_2 ?_
  refine lv_istore hx hb (pc := 3) (lv' := [(4, iv 0), (3, iv 0), (0, .ref (b 7)), (1, lv l1)]) dX4_numberOf_3 hl (Nat.le_of_ble_eq_true rfl) rfl (fun ls hl => ?_)
  exact w_pa_numberOf_5 C b P_all P_jr P_jb P_count P_cells Res hret N l1 N 0 0 _ _ _ (lv_sub hl [2, 3, 1, 0] rfl) h hf
abbrev rm_pa_fragment : Room := { frames := 0, cells := 0, slots := 0, locals := 0 }
set_option maxHeartbeats 4000000 in
set_option maxRecDepth 100000 in
theorem w_pa_fragment_6 {p : Program} {l : Launch} {e : Env} {s : State} {m : MethodId} {args : Array Value} {below : List Frame} {meth : Method} {c : Code} {Q : State → Prop} {D : va_G} {cI cJ cZ cO : ClassId} {A : Nat → Prop} {H0 : Heap} {w0 : Cond} (C : XC p s m args c cX4_fragment 10 RX4 w0 D (xT cI cJ cZ cO)) (b : Nat → Nat) (P_all : BitVec 64) (P_jr : BitVec 64) (P_jb : BitVec 64) (P_count : Int) (Res : BitVec 64) (hret : XRL p l e rm_pa_fragment s m args below meth c cX4_fragment D A H0 Q Res [((b 7), oP b P_all P_jr P_jb P_count)]) (N : Nat) (l3 : BitVec 64) : ∀ (n : Nat) (l5 : BitVec 64) (l7 : Int) (ls : Array Slot) (H : Heap) (locs : List Loc), lv_has ls 10 [(0, .ref (b 7)), (3, lv l3), (5, lv l5), (7, iv l7)] → XH D A H0 [((b 7), oP b P_all P_jr P_jb P_count)] H locs → f_pa_fragment_6 N l3 P_jr P_jb n l5 l7 = some Res → W p l e rm_pa_fragment s m args below meth c H locs 0 0 Q (F0 m 6 ls []) := by
  have hx := C.1.1
  have hb := C.1.2.1
  intro n
  induction n with
  | zero => intro l5 l7 ls H locs hl h hf; cases hf
  | succ n ih =>
    intro l5 l7 ls H locs hl h hf
    rw [f_pa_fragment_6.eq_2] at hf
    refine lv_iload hx hb (pc := 6) dX4_fragment_6 (lv_at hl 3 rfl) ?_
    refine x_bipush C (pc := 8) dX4_fragment_8 (by decide) ?_
    obtain ⟨g_1, hf⟩ := og_some hf
    refine x_icmpge C (pc := 10) (tgt := 86) g_1 ⟨by decide, by decide⟩ dX4_fragment_10 rfl (fun hc => ?_) (fun hc => ?_)
    · have hf := oi_t hf hc
      refine lv_lload hx hb (pc := 86) dX4_fragment_86 (lv_at hl 2 rfl) ?_
      have e9 := Option.some.inj hf
      subst e9
      exact hret _ _ _ _ dX4_fragment_88 h
    · have hf := oi_f hf hc
      refine lv_lload hx hb (pc := 13) dX4_fragment_13 (lv_at hl 2 rfl) ?_
      refine lv_lload hx hb (pc := 15) dX4_fragment_15 (lv_at hl 2 rfl) ?_
      refine lv_aload_n hx hb (pc := 17) dX4_fragment_17 rfl (lv_at hl 0 rfl) ?_
      refine x_get C h (pc := 18) xf_X4_13 0 rfl (v := lv P_jr) rfl dX4_fragment_18 ?_
      refine x_land C (pc := 21) dX4_fragment_21 ?_
      refine x_iconst C (pc := 22) dX4_fragment_22 ?_
      refine x_lshl C (pc := 23) ⟨by decide, by decide⟩ dX4_fragment_23 ?_
      refine x_lor C (pc := 24) dX4_fragment_24 ?_
      refine lv_lload hx hb (pc := 25) dX4_fragment_25 (lv_at hl 2 rfl) ?_
      refine x_iconst C (pc := 27) dX4_fragment_27 ?_
      refine x_lushr C (pc := 28) ⟨by decide, by decide⟩ dX4_fragment_28 ?_
      refine lv_aload_n hx hb (pc := 29) dX4_fragment_29 rfl (lv_at hl 0 rfl) ?_
      refine x_get C h (pc := 30) xf_X4_13 0 rfl (v := lv P_jr) rfl dX4_fragment_30 ?_
      refine x_land C (pc := 33) dX4_fragment_33 ?_
      refine x_lor C (pc := 34) dX4_fragment_34 ?_
      refine lv_lload hx hb (pc := 35) dX4_fragment_35 (lv_at hl 2 rfl) ?_
      refine lv_aload_n hx hb (pc := 37) dX4_fragment_37 rfl (lv_at hl 0 rfl) ?_
      refine x_get C h (pc := 38) xf_X4_16 0 rfl (v := lv P_jb) rfl dX4_fragment_38 ?_
      refine x_land C (pc := 41) dX4_fragment_41 ?_
      refine x_bipush C (pc := 42) dX4_fragment_42 (by decide) ?_
      refine x_lshl C (pc := 44) ⟨by decide, by decide⟩ dX4_fragment_44 ?_
      refine x_lor C (pc := 45) dX4_fragment_45 ?_
      refine lv_lload hx hb (pc := 46) dX4_fragment_46 (lv_at hl 2 rfl) ?_
      refine x_bipush C (pc := 48) dX4_fragment_48 (by decide) ?_
      refine x_lushr C (pc := 50) ⟨by decide, by decide⟩ dX4_fragment_50 ?_
      refine lv_aload_n hx hb (pc := 51) dX4_fragment_51 rfl (lv_at hl 0 rfl) ?_
      refine x_get C h (pc := 52) xf_X4_16 0 rfl (v := lv P_jb) rfl dX4_fragment_52 ?_
      refine x_land C (pc := 55) dX4_fragment_55 ?_
      refine x_lor C (pc := 56) dX4_fragment_56 ?_
      obtain ⟨l8_2, el8_2, hf⟩ := ol_some hf
      refine x_topl el8_2 ?_
      refine lv_lstore hx hb (pc := 57) (lv' := [(8, lv l8_2), (0, .ref (b 7)), (3, lv l3), (5, lv l5), (7, iv l7)]) dX4_fragment_57 hl (Nat.le_of_ble_eq_true rfl) rfl (fun ls hl => ?_)
      refine lv_lload hx hb (pc := 59) dX4_fragment_59 (lv_at hl 0 rfl) ?_
      refine lv_lload_n hx hb (pc := 61) dX4_fragment_61 rfl (lv_at hl 2 rfl) ?_
      refine x_land C (pc := 62) dX4_fragment_62 ?_
      obtain ⟨l8_3, el8_3, hf⟩ := ol_some hf
      refine x_topl el8_3 ?_
      refine lv_lstore hx hb (pc := 63) (lv' := [(8, lv l8_3), (0, .ref (b 7)), (3, lv l3), (5, lv l5), (7, iv l7)]) dX4_fragment_63 hl (Nat.le_of_ble_eq_true rfl) rfl (fun ls hl => ?_)
      refine lv_lload hx hb (pc := 65) dX4_fragment_65 (lv_at hl 0 rfl) ?_
      refine lv_lload hx hb (pc := 67) dX4_fragment_67 (lv_at hl 3 rfl) ?_
      refine x_lcmpne C (pc := 69) (tgt := 76) dX4_fragment_69 dX4_fragment_70 rfl (fun hc => ?_) (fun hc => ?_)
      · have hf := oi_f hf hc
        refine lv_lload hx hb (pc := 76) dX4_fragment_76 (lv_at hl 0 rfl) ?_
        refine lv_lstore hx hb (pc := 78) (lv' := [(5, lv l8_3), (8, lv l8_3), (0, .ref (b 7)), (3, lv l3), (7, iv l7)]) dX4_fragment_78 hl (Nat.le_of_ble_eq_true rfl) rfl (fun ls hl => ?_)
        obtain ⟨l7_4, el7_4, hf⟩ := ol_some hf
        refine x_iinc C (pc := 80) (k := 4) (lw' := [(7, iv l7_4), (5, lv l8_3), (8, lv l8_3), (0, .ref (b 7)), (3, lv l3)]) dX4_fragment_80 hl rfl el7_4 (Nat.le_of_ble_eq_true rfl) rfl (fun ls hl => ?_)
        refine lv_goto hx hb (pc := 83) (tgt := 6) dX4_fragment_83 rfl ?_
        exact ih l8_3 l7_4 _ _ _ (lv_sub hl [3, 4, 1, 0] rfl) h hf
      · have hf := oi_t hf hc
        refine lv_goto hx hb (pc := 73) (tgt := 86) dX4_fragment_73 rfl ?_
        refine lv_lload hx hb (pc := 86) dX4_fragment_86 (lv_at hl 3 rfl) ?_
        have e9 := Option.some.inj hf
        subst e9
        exact hret _ _ _ _ dX4_fragment_88 h
set_option maxHeartbeats 4000000 in
set_option maxRecDepth 100000 in
theorem c_pa_fragment (l : Launch) (D : va_G) (cI cJ cZ cO : ClassId) (b : Nat → Nat) (P_all : BitVec 64) (P_jr : BitVec 64) (P_jb : BitVec 64) (P_count : Int) (l1 : BitVec 64) (l3 : BitVec 64) (N : Nat) (Res : BitVec 64) (hf : f_pa_fragment N l1 l3 P_jr P_jb = some Res) : CoL l D (xT cI cJ cZ cO) yX4_fragment cX4_fragment 10 (some .long) rm_pa_fragment [.ref (b 7), lv l1, lv l3] [((b 7), oP b P_all P_jr P_jb P_count)] Res [((b 7), oP b P_all P_jr P_jb P_count)] := by
  refine co_l (by decide) ⟨rfl, rfl⟩ (Nat.le_of_ble_eq_true rfl) ?_
  intro p e s m args below meth c A Q ls C hret hl h
  have hx := C.1.1
  have hb := C.1.2.1
  have hl : lv_has ls 10 [(0, .ref (b 7)), (1, lv l1), (3, lv l3)] := hl
  unfold f_pa_fragment at hf
  refine lv_lload_n hx hb (pc := 0) dX4_fragment_0 rfl (lv_at hl 1 rfl) ?_
  refine lv_lstore hx hb (pc := 1) (lv' := [(5, lv l1), (0, .ref (b 7)), (1, lv l1), (3, lv l3)]) dX4_fragment_1 hl (Nat.le_of_ble_eq_true rfl) rfl (fun ls hl => ?_)
  refine x_iconst C (pc := 3) dX4_fragment_3 ?_
  refine lv_istore hx hb (pc := 4) (lv' := [(7, iv 0), (5, lv l1), (0, .ref (b 7)), (1, lv l1), (3, lv l3)]) dX4_fragment_4 hl (Nat.le_of_ble_eq_true rfl) rfl (fun ls hl => ?_)
  exact w_pa_fragment_6 C b P_all P_jr P_jb P_count Res hret N l3 N l1 0 _ _ _ (lv_sub hl [2, 4, 1, 0] rfl) h hf
abbrev rm_pa_touching : Room := { frames := 1, cells := 0, slots := 0, locals := 21 }
set_option maxHeartbeats 4000000 in
set_option maxRecDepth 100000 in
theorem w_pa_touching_16 {p : Program} {l : Launch} {e : Env} {s : State} {m : MethodId} {args : Array Value} {below : List Frame} {meth : Method} {c : Code} {Q : State → Prop} {D : va_G} {cI cJ cZ cO : ClassId} {A : Nat → Prop} {H0 : Heap} {w0 : Cond} (C : XC p s m args c cX4_touching 7 RX4 w0 D (xT cI cJ cZ cO)) (b : Nat → Nat) (P_all : BitVec 64) (P_jr : BitVec 64) (P_jb : BitVec 64) (P_count : Int) (P_cells : Int → BitVec 64) (Res : BitVec 64) (hret : XRL p l e rm_pa_touching s m args below meth c cX4_touching D A H0 Q Res [((b 7), oP b P_all P_jr P_jb P_count), ((b 8), aJ cJ 49 P_cells)]) (N : Nat) (l1 : Int) (l2 : BitVec 64) : ∀ (n : Nat) (l4 : BitVec 64) (l6 : Int) (ls : Array Slot) (H : Heap) (locs : List Loc), lv_has ls 7 [(0, .ref (b 7)), (1, iv l1), (2, lv l2), (4, lv l4), (6, iv l6)] → XH D A H0 [((b 7), oP b P_all P_jr P_jb P_count), ((b 8), aJ cJ 49 P_cells)] H locs → f_pa_touching_16 N l1 l2 P_count P_cells n l4 l6 = some Res → W p l e rm_pa_touching s m args below meth c H locs 0 0 Q (F0 m 16 ls []) := by
  have hx := C.1.1
  have hb := C.1.2.1
  intro n
  induction n with
  | zero => intro l4 l6 ls H locs hl h hf; cases hf
  | succ n ih =>
    intro l4 l6 ls H locs hl h hf
    rw [f_pa_touching_16.eq_2] at hf
    refine lv_iload hx hb (pc := 16) dX4_touching_16 (lv_at hl 4 rfl) ?_
    refine lv_aload_n hx hb (pc := 18) dX4_touching_18 rfl (lv_at hl 0 rfl) ?_
    refine x_get C h (pc := 19) xf_X4_19 0 rfl (v := iv P_count) rfl dX4_touching_19 ?_
    obtain ⟨g_3, hf⟩ := og_some hf
    obtain ⟨g_4, hf⟩ := og_some hf
    refine x_icmpge C (pc := 22) (tgt := 60) g_3 g_4 dX4_touching_22 rfl (fun hc => ?_) (fun hc => ?_)
    · have hf := oi_t hf hc
      refine lv_lload hx hb (pc := 60) dX4_touching_60 (lv_at hl 3 rfl) ?_
      have e9 := Option.some.inj hf
      subst e9
      exact hret _ _ _ _ dX4_touching_62 h
    · have hf := oi_f hf hc
      refine lv_iload hx hb (pc := 25) dX4_touching_25 (lv_at hl 4 rfl) ?_
      refine lv_iload_n hx hb (pc := 27) dX4_touching_27 rfl (lv_at hl 1 rfl) ?_
      obtain ⟨g_5, hf⟩ := og_some hf
      obtain ⟨r_12, hrr_12, hf⟩ := ob_some hf
      have Jr_12 : ∀ (ls : Array Slot) (H : Heap) (locs : List Loc), lv_has ls 7 [(0, .ref (b 7)), (1, iv l1), (2, lv l2), (4, lv r_12.1), (6, iv r_12.2)] → XH D A H0 [((b 7), oP b P_all P_jr P_jb P_count), ((b 8), aJ cJ 49 P_cells)] H locs → W p l e rm_pa_touching s m args below meth c H locs 0 0 Q (F0 m 16 ls []) := by
        intro ls H locs hl h
        exact ih r_12.1 r_12.2 _ _ _ (lv_sub hl [0, 1, 2, 3, 4] rfl) h hf
      clear hf
      have hf := hrr_12
      refine x_icmpeq C (pc := 28) (tgt := 54) g_3 g_5 dX4_touching_28 rfl (fun hc => ?_) (fun hc => ?_)
      · have hf := oi_t hf hc
        obtain ⟨l6_6, el6_6, hf⟩ := ol_some hf
        refine x_iinc C (pc := 54) (k := 4) (lw' := [(6, iv l6_6), (0, .ref (b 7)), (1, iv l1), (2, lv l2), (4, lv l4)]) dX4_touching_54 hl rfl el6_6 (Nat.le_of_ble_eq_true rfl) rfl (fun ls hl => ?_)
        refine lv_goto hx hb (pc := 57) (tgt := 16) dX4_touching_57 rfl ?_
        have e9 := Option.some.inj hf
        subst e9
        exact Jr_12 _ _ _ (lv_sub hl [1, 2, 3, 4, 0] rfl) h
      · have hf := oi_f hf hc
        refine lv_aload_n hx hb (pc := 31) dX4_touching_31 rfl (lv_at hl 0 rfl) ?_
        refine x_get C h (pc := 32) xf_X4_25 0 rfl (v := .ref (b 8)) rfl dX4_touching_32 ?_
        refine lv_iload hx hb (pc := 35) dX4_touching_35 (lv_at hl 4 rfl) ?_
        obtain ⟨g_7, hf⟩ := og_some hf
        refine x_lald C h (pc := 37) 1 1 rfl rfl (Nat.le_of_ble_eq_true rfl) g_7 dX4_touching_37 ?_
        refine lv_lload_n hx hb (pc := 38) dX4_touching_38 rfl (lv_at hl 2 rfl) ?_
        refine x_land C (pc := 39) dX4_touching_39 ?_
        refine x_lconst C (pc := 40) (x := 0#64) rfl dX4_touching_40 ?_
        refine x_lcmpeq C (pc := 41) (tgt := 54) dX4_touching_41 dX4_touching_42 rfl (fun hc => ?_) (fun hc => ?_)
        · have hf := oi_t hf hc
          obtain ⟨l6_8, el6_8, hf⟩ := ol_some hf
          refine x_iinc C (pc := 54) (k := 4) (lw' := [(6, iv l6_8), (0, .ref (b 7)), (1, iv l1), (2, lv l2), (4, lv l4)]) dX4_touching_54 hl rfl el6_8 (Nat.le_of_ble_eq_true rfl) rfl (fun ls hl => ?_)
          refine lv_goto hx hb (pc := 57) (tgt := 16) dX4_touching_57 rfl ?_
          have e9 := Option.some.inj hf
          subst e9
          exact Jr_12 _ _ _ (lv_sub hl [1, 2, 3, 4, 0] rfl) h
        · have hf := oi_f hf hc
          refine lv_lload hx hb (pc := 45) dX4_touching_45 (lv_at hl 3 rfl) ?_
          refine x_lconst C (pc := 47) (x := 1#64) rfl dX4_touching_47 ?_
          refine lv_iload hx hb (pc := 48) dX4_touching_48 (lv_at hl 4 rfl) ?_
          obtain ⟨g_9, hf⟩ := og_some hf
          refine x_lshl C (pc := 50) g_9 dX4_touching_50 ?_
          refine x_lor C (pc := 51) dX4_touching_51 ?_
          obtain ⟨l4_10, el4_10, hf⟩ := ol_some hf
          refine x_topl el4_10 ?_
          refine lv_lstore hx hb (pc := 52) (lv' := [(4, lv l4_10), (0, .ref (b 7)), (1, iv l1), (2, lv l2), (6, iv l6)]) dX4_touching_52 hl (Nat.le_of_ble_eq_true rfl) rfl (fun ls hl => ?_)
          obtain ⟨l6_11, el6_11, hf⟩ := ol_some hf
          refine x_iinc C (pc := 54) (k := 4) (lw' := [(6, iv l6_11), (4, lv l4_10), (0, .ref (b 7)), (1, iv l1), (2, lv l2)]) dX4_touching_54 hl rfl el6_11 (Nat.le_of_ble_eq_true rfl) rfl (fun ls hl => ?_)
          refine lv_goto hx hb (pc := 57) (tgt := 16) dX4_touching_57 rfl ?_
          have e9 := Option.some.inj hf
          subst e9
          exact Jr_12 _ _ _ (lv_sub hl [2, 3, 4, 1, 0] rfl) h
set_option maxHeartbeats 4000000 in
set_option maxRecDepth 100000 in
theorem c_pa_touching (l : Launch) (D : va_G) (cI cJ cZ cO : ClassId) (b : Nat → Nat) (P_all : BitVec 64) (P_jr : BitVec 64) (P_jb : BitVec 64) (P_count : Int) (P_cells : Int → BitVec 64) (l1 : Int) (N : Nat) (Res : BitVec 64) (hf : f_pa_touching N l1 P_count P_cells = some Res) : CoL l D (xT cI cJ cZ cO) yX4_touching cX4_touching 7 (some .long) rm_pa_touching [.ref (b 7), iv l1] [((b 7), oP b P_all P_jr P_jb P_count), ((b 8), aJ cJ 49 P_cells)] Res [((b 7), oP b P_all P_jr P_jb P_count), ((b 8), aJ cJ 49 P_cells)] := by
  refine co_l (by decide) ⟨rfl, rfl⟩ (Nat.le_of_ble_eq_true rfl) ?_
  intro p e s m args below meth c A Q ls C hret hl h
  have hx := C.1.1
  have hb := C.1.2.1
  have hl : lv_has ls 7 [(0, .ref (b 7)), (1, iv l1)] := hl
  unfold f_pa_touching at hf
  refine lv_aload_n hx hb (pc := 0) dX4_touching_0 rfl (lv_at hl 0 rfl) ?_
  refine x_get C h (pc := 1) xf_X4_25 0 rfl (v := .ref (b 8)) rfl dX4_touching_1 ?_
  refine lv_iload_n hx hb (pc := 4) dX4_touching_4 rfl (lv_at hl 1 rfl) ?_
  obtain ⟨g_1, hf⟩ := og_some hf
  refine x_lald C h (pc := 5) 1 1 rfl rfl (Nat.le_of_ble_eq_true rfl) g_1 dX4_touching_5 ?_
  obtain ⟨q_2, hq_2, hf⟩ := ob_some hf
  refine x_callSl C h (pc := 6) hl (c_ce_beside l D cI cJ cZ cO (P_cells l1) N q_2 hq_2) xs_X0_beside lk_X4_65 ⟨(Nat.le_of_ble_eq_true rfl), (Nat.le_of_ble_eq_true rfl)⟩ rfl [] [0, 1] (nw := 2) (wr := [((b 7), oP b P_all P_jr P_jb P_count), ((b 8), aJ cJ 49 P_cells)]) (as := [(b 7), (b 8)]) (ws' := [((b 7), oP b P_all P_jr P_jb P_count), ((b 8), aJ cJ 49 P_cells)]) rfl rfl rfl rfl rfl rfl rfl rfl rfl rfl (Nat.le_of_ble_eq_true rfl) dX4_touching_6 (fun H locs h => ?_)
  refine lv_lstore_n hx hb (pc := 9) (lv' := [(2, lv q_2), (0, .ref (b 7)), (1, iv l1)]) dX4_touching_9 rfl hl (Nat.le_of_ble_eq_true rfl) rfl (fun ls hl => ?_)
  refine x_lconst C (pc := 10) (x := 0#64) rfl dX4_touching_10 ?_
  refine lv_lstore hx hb (pc := 11) (lv' := [(4, lv (0#64)), (2, lv q_2), (0, .ref (b 7)), (1, iv l1)]) dX4_touching_11 hl (Nat.le_of_ble_eq_true rfl) rfl (fun ls hl => ?_)
  refine x_iconst C (pc := 13) dX4_touching_13 ?_
  refine lv_istore hx hb (pc := 14) (lv' := [(6, iv 0), (4, lv (0#64)), (2, lv q_2), (0, .ref (b 7)), (1, iv l1)]) dX4_touching_14 hl (Nat.le_of_ble_eq_true rfl) rfl (fun ls hl => ?_)
  exact w_pa_touching_16 C b P_all P_jr P_jb P_count P_cells Res hret N l1 q_2 N (0#64) 0 _ _ _ (lv_sub hl [3, 4, 2, 1, 0] rfl) h hf
abbrev rm_pa_find : Room := { frames := 3, cells := 0, slots := 0, locals := 72 }
set_option maxHeartbeats 4000000 in
set_option maxRecDepth 100000 in
theorem w_pa_find_124 {p : Program} {l : Launch} {e : Env} {s : State} {m : MethodId} {args : Array Value} {below : List Frame} {meth : Method} {c : Code} {Q : State → Prop} {D : va_G} {cI cJ cZ cO : ClassId} {A : Nat → Prop} {H0 : Heap} {w0 : Cond} (C : XC p s m args c cX4_find 4 RX4 w0 D (xT cI cJ cZ cO)) (b : Nat → Nat) (D_rows : Int) (D_cols : Int) (D_cr : BitVec 64) (D_cb : BitVec 64) (D_cl : Int) (D_kl : Int) (D_col : Int → Int) (Res : BitVec 64 × BitVec 64 × BitVec 64 × Int × (Int → BitVec 64) × (Int → BitVec 64)) (hret : XRV p l e rm_pa_find s m args below meth c cX4_find D A H0 Q [((b 3), oD (b 4) D_rows D_cols D_cr D_cb D_cl D_kl), ((b 4), aI cI 56 D_col), ((b 7), oP b Res.1 Res.2.1 Res.2.2.1 Res.2.2.2.1), ((b 8), aJ cJ 49 Res.2.2.2.2.1), ((b 9), aJ cJ 49 Res.2.2.2.2.2)]) (N : Nat) (P_all : BitVec 64) (P_jr : BitVec 64) (P_jb : BitVec 64) (P_count : Int) (P_cells : Int → BitVec 64) : ∀ (n : Nat) (l3 : Int) (P_near : Int → BitVec 64) (ls : Array Slot) (H : Heap) (locs : List Loc), lv_has ls 4 [(0, .ref (b 7)), (3, iv l3)] → XH D A H0 [((b 3), oD (b 4) D_rows D_cols D_cr D_cb D_cl D_kl), ((b 4), aI cI 56 D_col), ((b 7), oP b P_all P_jr P_jb P_count), ((b 8), aJ cJ 49 P_cells), ((b 9), aJ cJ 49 P_near)] H locs → f_pa_find_124 N P_all P_jr P_jb P_count P_cells n l3 P_near = some Res → W p l e rm_pa_find s m args below meth c H locs 0 0 Q (F0 m 124 ls []) := by
  have hx := C.1.1
  have hb := C.1.2.1
  intro n
  induction n with
  | zero => intro l3 P_near ls H locs hl h hf; cases hf
  | succ n ih =>
    intro l3 P_near ls H locs hl h hf
    rw [f_pa_find_124.eq_2] at hf
    refine lv_iload_n hx hb (pc := 124) dX4_find_124 rfl (lv_at hl 1 rfl) ?_
    refine lv_aload_n hx hb (pc := 125) dX4_find_125 rfl (lv_at hl 0 rfl) ?_
    refine x_get C h (pc := 126) xf_X4_19 2 rfl (v := iv P_count) rfl dX4_find_126 ?_
    obtain ⟨g_12, hf⟩ := og_some hf
    obtain ⟨g_13, hf⟩ := og_some hf
    refine x_icmpge C (pc := 129) (tgt := 149) g_12 g_13 dX4_find_129 rfl (fun hc => ?_) (fun hc => ?_)
    · have hf := oi_t hf hc
      have e9 := Option.some.inj hf
      subst e9
      exact hret _ _ _ _ dX4_find_149 h
    · have hf := oi_f hf hc
      refine lv_aload_n hx hb (pc := 132) dX4_find_132 rfl (lv_at hl 0 rfl) ?_
      refine x_get C h (pc := 133) xf_X4_29 2 rfl (v := .ref (b 9)) rfl dX4_find_133 ?_
      refine lv_iload_n hx hb (pc := 136) dX4_find_136 rfl (lv_at hl 1 rfl) ?_
      refine lv_aload_n hx hb (pc := 137) dX4_find_137 rfl (lv_at hl 0 rfl) ?_
      refine lv_iload_n hx hb (pc := 138) dX4_find_138 rfl (lv_at hl 1 rfl) ?_
      obtain ⟨q_14, hq_14, hf⟩ := ob_some hf
      refine x_callVl C h (pc := 139) hl (c_pa_touching l D cI cJ cZ cO b P_all P_jr P_jb P_count P_cells l3 N q_14 hq_14) xv_X4_touching lk_X4_62 ⟨(Nat.le_of_ble_eq_true rfl), (Nat.le_of_ble_eq_true rfl)⟩ rfl [2, 3] [0, 1, 4] (nw := 5) (wr := [((b 3), oD (b 4) D_rows D_cols D_cr D_cb D_cl D_kl), ((b 4), aI cI 56 D_col), ((b 9), aJ cJ 49 P_near)]) (as := [(b 3), (b 4), (b 7), (b 8), (b 9)]) (ws' := [((b 3), oD (b 4) D_rows D_cols D_cr D_cb D_cl D_kl), ((b 4), aI cI 56 D_col), ((b 7), oP b P_all P_jr P_jb P_count), ((b 8), aJ cJ 49 P_cells), ((b 9), aJ cJ 49 P_near)]) rfl rfl rfl rfl rfl rfl rfl rfl rfl 2 rfl rfl rfl rfl (Nat.le_of_ble_eq_true rfl) dX4_find_139 (fun H locs h => ?_)
      obtain ⟨g_15, hf⟩ := og_some hf
      obtain ⟨P_near_16, eP_near_16, hf⟩ := ol_some hf
      refine x_last C h (pc := 142) (ws' := [((b 3), oD (b 4) D_rows D_cols D_cr D_cb D_cl D_kl), ((b 4), aI cI 56 D_col), ((b 7), oP b P_all P_jr P_jb P_count), ((b 8), aJ cJ 49 P_cells), ((b 9), aJ cJ 49 P_near_16)]) 4 1 rfl rfl (Nat.le_of_ble_eq_true rfl) g_15 eP_near_16 rfl dX4_find_142 (fun H locs h => ?_)
      obtain ⟨l3_17, el3_17, hf⟩ := ol_some hf
      refine x_iinc C (pc := 143) (k := 1) (lw' := [(3, iv l3_17), (0, .ref (b 7))]) dX4_find_143 hl rfl el3_17 (Nat.le_of_ble_eq_true rfl) rfl (fun ls hl => ?_)
      refine lv_goto hx hb (pc := 146) (tgt := 124) dX4_find_146 rfl ?_
      exact ih l3_17 P_near_16 _ _ _ (lv_sub hl [1, 0] rfl) h hf
set_option maxHeartbeats 4000000 in
set_option maxRecDepth 100000 in
theorem w_pa_find_63 {p : Program} {l : Launch} {e : Env} {s : State} {m : MethodId} {args : Array Value} {below : List Frame} {meth : Method} {c : Code} {Q : State → Prop} {D : va_G} {cI cJ cZ cO : ClassId} {A : Nat → Prop} {H0 : Heap} {w0 : Cond} (C : XC p s m args c cX4_find 4 RX4 w0 D (xT cI cJ cZ cO)) (b : Nat → Nat) (D_rows : Int) (D_cols : Int) (D_cr : BitVec 64) (D_cb : BitVec 64) (D_cl : Int) (D_kl : Int) (D_col : Int → Int) (Res : BitVec 64 × BitVec 64 × BitVec 64 × Int × (Int → BitVec 64) × (Int → BitVec 64)) (hret : XRV p l e rm_pa_find s m args below meth c cX4_find D A H0 Q [((b 3), oD (b 4) D_rows D_cols D_cr D_cb D_cl D_kl), ((b 4), aI cI 56 D_col), ((b 7), oP b Res.1 Res.2.1 Res.2.2.1 Res.2.2.2.1), ((b 8), aJ cJ 49 Res.2.2.2.2.1), ((b 9), aJ cJ 49 Res.2.2.2.2.2)]) (N : Nat) (P_all : BitVec 64) (P_jr : BitVec 64) (P_jb : BitVec 64) (P_near : Int → BitVec 64) : ∀ (n : Nat) (l1 : BitVec 64) (l3 : Int) (P_count : Int) (P_cells : Int → BitVec 64) (ls : Array Slot) (H : Heap) (locs : List Loc), lv_has ls 4 [(0, .ref (b 7)), (1, lv l1), (3, iv l3)] → XH D A H0 [((b 3), oD (b 4) D_rows D_cols D_cr D_cb D_cl D_kl), ((b 4), aI cI 56 D_col), ((b 7), oP b P_all P_jr P_jb P_count), ((b 8), aJ cJ 49 P_cells), ((b 9), aJ cJ 49 P_near)] H locs → f_pa_find_63 N P_all P_jr P_jb P_near n l1 l3 P_count P_cells = some Res → W p l e rm_pa_find s m args below meth c H locs 0 0 Q (F0 m 63 ls []) := by
  have hx := C.1.1
  have hb := C.1.2.1
  intro n
  induction n with
  | zero => intro l1 l3 P_count P_cells ls H locs hl h hf; cases hf
  | succ n ih =>
    intro l1 l3 P_count P_cells ls H locs hl h hf
    rw [f_pa_find_63.eq_2] at hf
    refine lv_iload_n hx hb (pc := 63) dX4_find_63 rfl (lv_at hl 2 rfl) ?_
    refine x_bipush C (pc := 64) dX4_find_64 (by decide) ?_
    obtain ⟨g_4, hf⟩ := og_some hf
    refine x_icmpge C (pc := 66) (tgt := 122) g_4 ⟨by decide, by decide⟩ dX4_find_66 rfl (fun hc => ?_) (fun hc => ?_)
    · have hf := oi_t hf hc
      refine x_iconst C (pc := 122) dX4_find_122 ?_
      refine lv_istore_n hx hb (pc := 123) (lv' := [(3, iv 0), (0, .ref (b 7)), (1, lv l1)]) dX4_find_123 rfl hl (Nat.le_of_ble_eq_true rfl) rfl (fun ls hl => ?_)
      exact w_pa_find_124 C b D_rows D_cols D_cr D_cb D_cl D_kl D_col Res hret N P_all P_jr P_jb P_count P_cells N 0 P_near _ _ _ (lv_sub hl [1, 0] rfl) h hf
    · have hf := oi_f hf hc
      refine lv_lload_n hx hb (pc := 69) dX4_find_69 rfl (lv_at hl 1 rfl) ?_
      refine x_lconst C (pc := 70) (x := 0#64) rfl dX4_find_70 ?_
      refine x_lcmpeq C (pc := 71) (tgt := 122) dX4_find_71 dX4_find_72 rfl (fun hc => ?_) (fun hc => ?_)
      · have hf := oi_t hf hc
        refine x_iconst C (pc := 122) dX4_find_122 ?_
        refine lv_istore_n hx hb (pc := 123) (lv' := [(3, iv 0), (0, .ref (b 7)), (1, lv l1)]) dX4_find_123 rfl hl (Nat.le_of_ble_eq_true rfl) rfl (fun ls hl => ?_)
        exact w_pa_find_124 C b D_rows D_cols D_cr D_cb D_cl D_kl D_col Res hret N P_all P_jr P_jb P_count P_cells N 0 P_near _ _ _ (lv_sub hl [1, 0] rfl) h hf
      · have hf := oi_f hf hc
        refine lv_aload_n hx hb (pc := 75) dX4_find_75 rfl (lv_at hl 0 rfl) ?_
        refine x_get C h (pc := 76) xf_X4_25 2 rfl (v := .ref (b 8)) rfl dX4_find_76 ?_
        refine lv_iload_n hx hb (pc := 79) dX4_find_79 rfl (lv_at hl 2 rfl) ?_
        refine lv_aload_n hx hb (pc := 80) dX4_find_80 rfl (lv_at hl 0 rfl) ?_
        refine lv_lload_n hx hb (pc := 81) dX4_find_81 rfl (lv_at hl 1 rfl) ?_
        obtain ⟨q_5, hq_5, hf⟩ := ob_some hf
        refine x_callSl C h (pc := 82) hl (c_ce_first l D cI cJ cZ cO l1 N q_5 hq_5) xs_X0_first lk_X4_52 ⟨(Nat.le_of_ble_eq_true rfl), (Nat.le_of_ble_eq_true rfl)⟩ rfl [] [0, 1, 2, 3, 4] (nw := 5) (wr := [((b 3), oD (b 4) D_rows D_cols D_cr D_cb D_cl D_kl), ((b 4), aI cI 56 D_col), ((b 7), oP b P_all P_jr P_jb P_count), ((b 8), aJ cJ 49 P_cells), ((b 9), aJ cJ 49 P_near)]) (as := [(b 3), (b 4), (b 7), (b 8), (b 9)]) (ws' := [((b 3), oD (b 4) D_rows D_cols D_cr D_cb D_cl D_kl), ((b 4), aI cI 56 D_col), ((b 7), oP b P_all P_jr P_jb P_count), ((b 8), aJ cJ 49 P_cells), ((b 9), aJ cJ 49 P_near)]) rfl rfl rfl rfl rfl rfl rfl rfl rfl rfl (Nat.le_of_ble_eq_true rfl) dX4_find_82 (fun H locs h => ?_)
        refine lv_aload_n hx hb (pc := 85) dX4_find_85 rfl (lv_at hl 0 rfl) ?_
        refine x_get C h (pc := 86) xf_X4_7 2 rfl (v := lv P_all) rfl dX4_find_86 ?_
        obtain ⟨q_6, hq_6, hf⟩ := ob_some hf
        refine x_callVl C h (pc := 89) hl (c_pa_fragment l D cI cJ cZ cO b P_all P_jr P_jb P_count q_5 P_all N q_6 hq_6) xv_X4_fragment lk_X4_56 ⟨(Nat.le_of_ble_eq_true rfl), (Nat.le_of_ble_eq_true rfl)⟩ rfl [2] [0, 1, 3, 4] (nw := 5) (wr := [((b 3), oD (b 4) D_rows D_cols D_cr D_cb D_cl D_kl), ((b 4), aI cI 56 D_col), ((b 8), aJ cJ 49 P_cells), ((b 9), aJ cJ 49 P_near)]) (as := [(b 3), (b 4), (b 7), (b 8), (b 9)]) (ws' := [((b 3), oD (b 4) D_rows D_cols D_cr D_cb D_cl D_kl), ((b 4), aI cI 56 D_col), ((b 7), oP b P_all P_jr P_jb P_count), ((b 8), aJ cJ 49 P_cells), ((b 9), aJ cJ 49 P_near)]) rfl rfl rfl rfl rfl rfl rfl rfl rfl 2 rfl rfl rfl rfl (Nat.le_of_ble_eq_true rfl) dX4_find_89 (fun H locs h => ?_)
        obtain ⟨g_7, hf⟩ := og_some hf
        obtain ⟨P_cells_8, eP_cells_8, hf⟩ := ol_some hf
        refine x_last C h (pc := 92) (ws' := [((b 3), oD (b 4) D_rows D_cols D_cr D_cb D_cl D_kl), ((b 4), aI cI 56 D_col), ((b 7), oP b P_all P_jr P_jb P_count), ((b 8), aJ cJ 49 P_cells_8), ((b 9), aJ cJ 49 P_near)]) 3 1 rfl rfl (Nat.le_of_ble_eq_true rfl) g_7 eP_cells_8 rfl dX4_find_92 (fun H locs h => ?_)
        refine lv_lload_n hx hb (pc := 93) dX4_find_93 rfl (lv_at hl 1 rfl) ?_
        refine lv_aload_n hx hb (pc := 94) dX4_find_94 rfl (lv_at hl 0 rfl) ?_
        refine x_get C h (pc := 95) xf_X4_25 2 rfl (v := .ref (b 8)) rfl dX4_find_95 ?_
        refine lv_iload_n hx hb (pc := 98) dX4_find_98 rfl (lv_at hl 2 rfl) ?_
        refine x_lald C h (pc := 99) 3 1 rfl rfl (Nat.le_of_ble_eq_true rfl) g_7 dX4_find_99 ?_
        refine x_ldc2 C (pc := 100) (x := 18446744073709551615#64) wk_X4_60 (by decide) dX4_find_100 ?_
        refine x_lxor C (pc := 103) dX4_find_103 ?_
        refine x_land C (pc := 104) dX4_find_104 ?_
        obtain ⟨l1_9, el1_9, hf⟩ := ol_some hf
        refine x_topl el1_9 ?_
        refine lv_lstore_n hx hb (pc := 105) (lv' := [(1, lv l1_9), (0, .ref (b 7)), (3, iv l3)]) dX4_find_105 rfl hl (Nat.le_of_ble_eq_true rfl) rfl (fun ls hl => ?_)
        refine lv_aload_n hx hb (pc := 106) dX4_find_106 rfl (lv_at hl 1 rfl) ?_
        refine lv_dup hx hb (pc := 107) dX4_find_107 rfl ?_
        refine x_get C h (pc := 108) xf_X4_19 2 rfl (v := iv P_count) rfl dX4_find_108 ?_
        refine x_iconst C (pc := 111) dX4_find_111 ?_
        refine x_iadd C (pc := 112) dX4_find_112 ?_
        obtain ⟨P_count_10, eP_count_10, hf⟩ := ol_some hf
        refine x_topi eP_count_10 ?_
        refine x_puti C h (pc := 113) (ws' := [((b 3), oD (b 4) D_rows D_cols D_cr D_cb D_cl D_kl), ((b 4), aI cI 56 D_col), ((b 7), oP b P_all P_jr P_jb P_count_10), ((b 8), aJ cJ 49 P_cells_8), ((b 9), aJ cJ 49 P_near)]) xf_X4_19 xp_X4 rfl 2 rfl rfl (Nat.le_of_ble_eq_true rfl) rfl dX4_find_113 (fun H locs h => ?_)
        obtain ⟨l3_11, el3_11, hf⟩ := ol_some hf
        refine x_iinc C (pc := 116) (k := 2) (lw' := [(3, iv l3_11), (1, lv l1_9), (0, .ref (b 7))]) dX4_find_116 hl rfl el3_11 (Nat.le_of_ble_eq_true rfl) rfl (fun ls hl => ?_)
        refine lv_goto hx hb (pc := 119) (tgt := 63) dX4_find_119 rfl ?_
        exact ih l1_9 l3_11 P_count_10 P_cells_8 _ _ _ (lv_sub hl [2, 1, 0] rfl) h hf
set_option maxHeartbeats 4000000 in
set_option maxRecDepth 100000 in
theorem c_pa_find (l : Launch) (D : va_G) (cI cJ cZ cO : ClassId) (b : Nat → Nat) (D_rows : Int) (D_cols : Int) (D_cr : BitVec 64) (D_cb : BitVec 64) (D_cl : Int) (D_kl : Int) (D_col : Int → Int) (P_all : BitVec 64) (P_jr : BitVec 64) (P_jb : BitVec 64) (P_count : Int) (P_cells : Int → BitVec 64) (P_near : Int → BitVec 64) (N : Nat) (Res : BitVec 64 × BitVec 64 × BitVec 64 × Int × (Int → BitVec 64) × (Int → BitVec 64)) (hf : f_pa_find N D_rows D_cols D_cr D_cb D_col P_all P_jr P_jb P_count P_cells P_near = some Res) : CoV l D (xT cI cJ cZ cO) yX4_find cX4_find 4 none rm_pa_find [.ref (b 7)] [((b 3), oD (b 4) D_rows D_cols D_cr D_cb D_cl D_kl), ((b 4), aI cI 56 D_col), ((b 7), oP b P_all P_jr P_jb P_count), ((b 8), aJ cJ 49 P_cells), ((b 9), aJ cJ 49 P_near)] [((b 3), oD (b 4) D_rows D_cols D_cr D_cb D_cl D_kl), ((b 4), aI cI 56 D_col), ((b 7), oP b Res.1 Res.2.1 Res.2.2.1 Res.2.2.2.1), ((b 8), aJ cJ 49 Res.2.2.2.2.1), ((b 9), aJ cJ 49 Res.2.2.2.2.2)] := by
  refine co_v (by decide) ⟨rfl, rfl⟩ (Nat.le_of_ble_eq_true rfl) ?_
  intro p e s m args below meth c A Q ls C hret hl h
  have hx := C.1.1
  have hb := C.1.2.1
  have hl : lv_has ls 4 [(0, .ref (b 7))] := hl
  unfold f_pa_find at hf
  refine lv_aload_n hx hb (pc := 0) dX4_find_0 rfl (lv_at hl 0 rfl) ?_
  refine x_iconst C (pc := 1) dX4_find_1 ?_
  refine lv_aload_n hx hb (pc := 2) dX4_find_2 rfl (lv_at hl 0 rfl) ?_
  refine x_get C h (pc := 3) xf_X4_32 2 rfl (v := .ref (b 3)) rfl dX4_find_3 ?_
  refine x_get C h (pc := 6) xf_X4_36 0 rfl (v := iv D_rows) rfl dX4_find_6 ?_
  refine x_iconst C (pc := 9) dX4_find_9 ?_
  refine x_isub C (pc := 10) dX4_find_10 ?_
  refine x_iconst C (pc := 11) dX4_find_11 ?_
  refine lv_aload_n hx hb (pc := 12) dX4_find_12 rfl (lv_at hl 0 rfl) ?_
  refine x_get C h (pc := 13) xf_X4_32 2 rfl (v := .ref (b 3)) rfl dX4_find_13 ?_
  refine x_get C h (pc := 16) xf_X4_41 0 rfl (v := iv D_cols) rfl dX4_find_16 ?_
  refine x_iconst C (pc := 19) dX4_find_19 ?_
  refine x_isub C (pc := 20) dX4_find_20 ?_
  obtain ⟨q_1, hq_1, hf⟩ := ob_some hf
  refine x_callSl C h (pc := 21) hl (c_ce_block l D cI cJ cZ cO 0 (D_rows - 1) 0 (D_cols - 1) N q_1 hq_1) xs_X0_block lk_X4_44 ⟨(Nat.le_of_ble_eq_true rfl), (Nat.le_of_ble_eq_true rfl)⟩ rfl [] [0, 1, 2, 3, 4] (nw := 5) (wr := [((b 3), oD (b 4) D_rows D_cols D_cr D_cb D_cl D_kl), ((b 4), aI cI 56 D_col), ((b 7), oP b P_all P_jr P_jb P_count), ((b 8), aJ cJ 49 P_cells), ((b 9), aJ cJ 49 P_near)]) (as := [(b 3), (b 4), (b 7), (b 8), (b 9)]) (ws' := [((b 3), oD (b 4) D_rows D_cols D_cr D_cb D_cl D_kl), ((b 4), aI cI 56 D_col), ((b 7), oP b P_all P_jr P_jb P_count), ((b 8), aJ cJ 49 P_cells), ((b 9), aJ cJ 49 P_near)]) rfl rfl rfl rfl rfl rfl rfl rfl rfl rfl (Nat.le_of_ble_eq_true rfl) dX4_find_21 (fun H locs h => ?_)
  refine x_putl C h (pc := 24) (ws' := [((b 3), oD (b 4) D_rows D_cols D_cr D_cb D_cl D_kl), ((b 4), aI cI 56 D_col), ((b 7), oP b q_1 P_jr P_jb P_count), ((b 8), aJ cJ 49 P_cells), ((b 9), aJ cJ 49 P_near)]) xf_X4_7 xp_X4 rfl 2 rfl rfl (Nat.le_of_ble_eq_true rfl) rfl dX4_find_24 (fun H locs h => ?_)
  refine lv_aload_n hx hb (pc := 27) dX4_find_27 rfl (lv_at hl 0 rfl) ?_
  refine lv_aload_n hx hb (pc := 28) dX4_find_28 rfl (lv_at hl 0 rfl) ?_
  refine x_get C h (pc := 29) xf_X4_32 2 rfl (v := .ref (b 3)) rfl dX4_find_29 ?_
  refine x_iconst C (pc := 32) dX4_find_32 ?_
  obtain ⟨q_2, hq_2, hf⟩ := ob_some hf
  refine x_callVl C h (pc := 33) hl (c_dr_joined l D cI cJ cZ cO (b 3) (b 4) D_rows D_cols D_cr D_cb D_cl D_kl D_col 0 N q_2 hq_2) xv_X2_joined lk_X4_48 ⟨(Nat.le_of_ble_eq_true rfl), (Nat.le_of_ble_eq_true rfl)⟩ rfl [0, 1] [2, 3, 4] (nw := 5) (wr := [((b 7), oP b q_1 P_jr P_jb P_count), ((b 8), aJ cJ 49 P_cells), ((b 9), aJ cJ 49 P_near)]) (as := [(b 3), (b 4), (b 7), (b 8), (b 9)]) (ws' := [((b 3), oD (b 4) D_rows D_cols D_cr D_cb D_cl D_kl), ((b 4), aI cI 56 D_col), ((b 7), oP b q_1 P_jr P_jb P_count), ((b 8), aJ cJ 49 P_cells), ((b 9), aJ cJ 49 P_near)]) rfl rfl rfl rfl rfl rfl rfl rfl rfl 0 rfl rfl rfl rfl (Nat.le_of_ble_eq_true rfl) dX4_find_33 (fun H locs h => ?_)
  refine x_putl C h (pc := 36) (ws' := [((b 3), oD (b 4) D_rows D_cols D_cr D_cb D_cl D_kl), ((b 4), aI cI 56 D_col), ((b 7), oP b q_1 q_2 P_jb P_count), ((b 8), aJ cJ 49 P_cells), ((b 9), aJ cJ 49 P_near)]) xf_X4_13 xp_X4 rfl 2 rfl rfl (Nat.le_of_ble_eq_true rfl) rfl dX4_find_36 (fun H locs h => ?_)
  refine lv_aload_n hx hb (pc := 39) dX4_find_39 rfl (lv_at hl 0 rfl) ?_
  refine lv_aload_n hx hb (pc := 40) dX4_find_40 rfl (lv_at hl 0 rfl) ?_
  refine x_get C h (pc := 41) xf_X4_32 2 rfl (v := .ref (b 3)) rfl dX4_find_41 ?_
  refine x_iconst C (pc := 44) dX4_find_44 ?_
  obtain ⟨q_3, hq_3, hf⟩ := ob_some hf
  refine x_callVl C h (pc := 45) hl (c_dr_joined l D cI cJ cZ cO (b 3) (b 4) D_rows D_cols D_cr D_cb D_cl D_kl D_col 1 N q_3 hq_3) xv_X2_joined lk_X4_48 ⟨(Nat.le_of_ble_eq_true rfl), (Nat.le_of_ble_eq_true rfl)⟩ rfl [0, 1] [2, 3, 4] (nw := 5) (wr := [((b 7), oP b q_1 q_2 P_jb P_count), ((b 8), aJ cJ 49 P_cells), ((b 9), aJ cJ 49 P_near)]) (as := [(b 3), (b 4), (b 7), (b 8), (b 9)]) (ws' := [((b 3), oD (b 4) D_rows D_cols D_cr D_cb D_cl D_kl), ((b 4), aI cI 56 D_col), ((b 7), oP b q_1 q_2 P_jb P_count), ((b 8), aJ cJ 49 P_cells), ((b 9), aJ cJ 49 P_near)]) rfl rfl rfl rfl rfl rfl rfl rfl rfl 0 rfl rfl rfl rfl (Nat.le_of_ble_eq_true rfl) dX4_find_45 (fun H locs h => ?_)
  refine x_putl C h (pc := 48) (ws' := [((b 3), oD (b 4) D_rows D_cols D_cr D_cb D_cl D_kl), ((b 4), aI cI 56 D_col), ((b 7), oP b q_1 q_2 q_3 P_count), ((b 8), aJ cJ 49 P_cells), ((b 9), aJ cJ 49 P_near)]) xf_X4_16 xp_X4 rfl 2 rfl rfl (Nat.le_of_ble_eq_true rfl) rfl dX4_find_48 (fun H locs h => ?_)
  refine lv_aload_n hx hb (pc := 51) dX4_find_51 rfl (lv_at hl 0 rfl) ?_
  refine x_iconst C (pc := 52) dX4_find_52 ?_
  refine x_puti C h (pc := 53) (ws' := [((b 3), oD (b 4) D_rows D_cols D_cr D_cb D_cl D_kl), ((b 4), aI cI 56 D_col), ((b 7), oP b q_1 q_2 q_3 0), ((b 8), aJ cJ 49 P_cells), ((b 9), aJ cJ 49 P_near)]) xf_X4_19 xp_X4 rfl 2 rfl rfl (Nat.le_of_ble_eq_true rfl) rfl dX4_find_53 (fun H locs h => ?_)
  refine lv_aload_n hx hb (pc := 56) dX4_find_56 rfl (lv_at hl 0 rfl) ?_
  refine x_get C h (pc := 57) xf_X4_7 2 rfl (v := lv q_1) rfl dX4_find_57 ?_
  refine lv_lstore_n hx hb (pc := 60) (lv' := [(1, lv q_1), (0, .ref (b 7))]) dX4_find_60 rfl hl (Nat.le_of_ble_eq_true rfl) rfl (fun ls hl => ?_)
  refine x_iconst C (pc := 61) dX4_find_61 ?_
  refine lv_istore_n hx hb (pc := 62) (lv' := [(3, iv 0), (1, lv q_1), (0, .ref (b 7))]) dX4_find_62 rfl hl (Nat.le_of_ble_eq_true rfl) rfl (fun ls hl => ?_)
  exact w_pa_find_63 C b D_rows D_cols D_cr D_cb D_cl D_kl D_col Res hret N q_1 q_2 q_3 P_near N q_1 0 0 P_cells _ _ _ (lv_sub hl [2, 1, 0] rfl) h hf
abbrev rm_pa_isEasy : Room := { frames := 2, cells := 0, slots := 0, locals := 61 }
set_option maxHeartbeats 4000000 in
set_option maxRecDepth 100000 in
theorem c_pa_isEasy (l : Launch) (D : va_G) (cI cJ cZ cO : ClassId) (b : Nat → Nat) (D_rows : Int) (D_cols : Int) (D_cr : BitVec 64) (D_cb : BitVec 64) (D_cl : Int) (D_kl : Int) (P_all : BitVec 64) (P_jr : BitVec 64) (P_jb : BitVec 64) (P_count : Int) (l1 : BitVec 64) (N : Nat) (Res : Int) (hf : f_pa_isEasy N l1 D_cl D_kl P_all = some Res) : CoI l D (xT cI cJ cZ cO) yX4_isEasy cX4_isEasy 3 (some .boolean) rm_pa_isEasy [.ref (b 7), lv l1] [((b 3), oD (b 4) D_rows D_cols D_cr D_cb D_cl D_kl), ((b 7), oP b P_all P_jr P_jb P_count)] Res [((b 3), oD (b 4) D_rows D_cols D_cr D_cb D_cl D_kl), ((b 7), oP b P_all P_jr P_jb P_count)] := by
  refine co_z (by decide) ⟨rfl, rfl⟩ (Nat.le_of_ble_eq_true rfl) ?_
  intro p e s m args below meth c A Q ls C hret hl h
  have hx := C.1.1
  have hb := C.1.2.1
  have hl : lv_has ls 3 [(0, .ref (b 7)), (1, lv l1)] := hl
  unfold f_pa_isEasy at hf
  refine lv_lload_n hx hb (pc := 0) dX4_isEasy_0 rfl (lv_at hl 1 rfl) ?_
  refine x_callSi C h (pc := 1) hl (c_popc l D (xT cI cJ cZ cO) l1) xs_J13_bitCount_95d88 lk_X4_68 ⟨(Nat.le_of_ble_eq_true rfl), (Nat.le_of_ble_eq_true rfl)⟩ rfl [] [0, 1] (nw := 2) (wr := [((b 3), oD (b 4) D_rows D_cols D_cr D_cb D_cl D_kl), ((b 7), oP b P_all P_jr P_jb P_count)]) (as := [(b 3), (b 7)]) (ws' := [((b 3), oD (b 4) D_rows D_cols D_cr D_cb D_cl D_kl), ((b 7), oP b P_all P_jr P_jb P_count)]) rfl rfl rfl rfl rfl rfl rfl rfl rfl rfl (Nat.le_of_ble_eq_true rfl) dX4_isEasy_1 (fun H locs h => ?_)
  refine lv_aload_n hx hb (pc := 4) dX4_isEasy_4 rfl (lv_at hl 0 rfl) ?_
  refine x_get C h (pc := 5) xf_X4_32 1 rfl (v := .ref (b 3)) rfl dX4_isEasy_5 ?_
  refine x_get C h (pc := 8) xf_X4_74 0 rfl (v := iv D_cl) rfl dX4_isEasy_8 ?_
  obtain ⟨g_1, hf⟩ := og_some hf
  obtain ⟨g_2, hf⟩ := og_some hf
  refine x_icmpgt C (pc := 11) (tgt := 43) g_1 g_2 dX4_isEasy_11 rfl (fun hc => ?_) (fun hc => ?_)
  · have hf := oi_t hf hc
    refine x_iconst C (pc := 43) dX4_isEasy_43 ?_
    have e9 := Option.some.inj hf
    subst e9
    exact hret _ _ _ _ (Or.inl rfl) dX4_isEasy_44 h
  · have hf := oi_f hf hc
    refine lv_lload_n hx hb (pc := 14) dX4_isEasy_14 rfl (lv_at hl 1 rfl) ?_
    obtain ⟨q_3, hq_3, hf⟩ := ob_some hf
    refine x_callSi C h (pc := 15) hl (c_ce_countInnerCorners l D cI cJ cZ cO l1 N q_3 hq_3) xs_X0_countInnerCorners lk_X4_77 ⟨(Nat.le_of_ble_eq_true rfl), (Nat.le_of_ble_eq_true rfl)⟩ rfl [] [0, 1] (nw := 2) (wr := [((b 3), oD (b 4) D_rows D_cols D_cr D_cb D_cl D_kl), ((b 7), oP b P_all P_jr P_jb P_count)]) (as := [(b 3), (b 7)]) (ws' := [((b 3), oD (b 4) D_rows D_cols D_cr D_cb D_cl D_kl), ((b 7), oP b P_all P_jr P_jb P_count)]) rfl rfl rfl rfl rfl rfl rfl rfl rfl rfl (Nat.le_of_ble_eq_true rfl) dX4_isEasy_15 (fun H locs h => ?_)
    refine lv_aload_n hx hb (pc := 18) dX4_isEasy_18 rfl (lv_at hl 0 rfl) ?_
    refine x_get C h (pc := 19) xf_X4_32 1 rfl (v := .ref (b 3)) rfl dX4_isEasy_19 ?_
    refine x_get C h (pc := 22) xf_X4_80 0 rfl (v := iv D_kl) rfl dX4_isEasy_22 ?_
    obtain ⟨g_4, hf⟩ := og_some hf
    obtain ⟨g_5, hf⟩ := og_some hf
    refine x_icmpgt C (pc := 25) (tgt := 43) g_4 g_5 dX4_isEasy_25 rfl (fun hc => ?_) (fun hc => ?_)
    · have hf := oi_t hf hc
      refine x_iconst C (pc := 43) dX4_isEasy_43 ?_
      have e9 := Option.some.inj hf
      subst e9
      exact hret _ _ _ _ (Or.inl rfl) dX4_isEasy_44 h
    · have hf := oi_f hf hc
      refine lv_lload_n hx hb (pc := 28) dX4_isEasy_28 rfl (lv_at hl 1 rfl) ?_
      refine lv_aload_n hx hb (pc := 29) dX4_isEasy_29 rfl (lv_at hl 0 rfl) ?_
      refine x_get C h (pc := 30) xf_X4_7 1 rfl (v := lv P_all) rfl dX4_isEasy_30 ?_
      obtain ⟨q_6, hq_6, hf⟩ := ob_some hf
      refine x_callSi C h (pc := 33) hl (c_ce_countHoles l D cI cJ cZ cO l1 P_all N q_6 hq_6) xs_X0_countHoles lk_X4_83 ⟨(Nat.le_of_ble_eq_true rfl), (Nat.le_of_ble_eq_true rfl)⟩ rfl [] [0, 1] (nw := 2) (wr := [((b 3), oD (b 4) D_rows D_cols D_cr D_cb D_cl D_kl), ((b 7), oP b P_all P_jr P_jb P_count)]) (as := [(b 3), (b 7)]) (ws' := [((b 3), oD (b 4) D_rows D_cols D_cr D_cb D_cl D_kl), ((b 7), oP b P_all P_jr P_jb P_count)]) rfl rfl rfl rfl rfl rfl rfl rfl rfl rfl (Nat.le_of_ble_eq_true rfl) dX4_isEasy_33 (fun H locs h => ?_)
      obtain ⟨g_7, hf⟩ := og_some hf
      refine x_ifne C (pc := 36) (tgt := 43) g_7 dX4_isEasy_36 rfl (fun hc => ?_) (fun hc => ?_)
      · have hf := oi_f hf hc
        refine x_iconst C (pc := 43) dX4_isEasy_43 ?_
        have e9 := Option.some.inj hf
        subst e9
        exact hret _ _ _ _ (Or.inl rfl) dX4_isEasy_44 h
      · have hf := oi_t hf hc
        refine x_iconst C (pc := 39) dX4_isEasy_39 ?_
        refine lv_goto hx hb (pc := 40) (tgt := 44) dX4_isEasy_40 rfl ?_
        have e9 := Option.some.inj hf
        subst e9
        exact hret _ _ _ _ (Or.inr rfl) dX4_isEasy_44 h
abbrev rm_pa_countEasyFragments : Room := { frames := 3, cells := 0, slots := 0, locals := 83 }
set_option maxHeartbeats 4000000 in
set_option maxRecDepth 100000 in
theorem w_pa_countEasyFragments_8 {p : Program} {l : Launch} {e : Env} {s : State} {m : MethodId} {args : Array Value} {below : List Frame} {meth : Method} {c : Code} {Q : State → Prop} {D : va_G} {cI cJ cZ cO : ClassId} {A : Nat → Prop} {H0 : Heap} {w0 : Cond} (C : XC p s m args c cX4_countEasyFragments 9 RX4 w0 D (xT cI cJ cZ cO)) (b : Nat → Nat) (D_rows : Int) (D_cols : Int) (D_cr : BitVec 64) (D_cb : BitVec 64) (D_cl : Int) (D_kl : Int) (P_all : BitVec 64) (P_jr : BitVec 64) (P_jb : BitVec 64) (P_count : Int) (Res : Int) (hret : XRI p l e rm_pa_countEasyFragments s m args below meth c cX4_countEasyFragments D A H0 Q Res [((b 3), oD (b 4) D_rows D_cols D_cr D_cb D_cl D_kl), ((b 7), oP b P_all P_jr P_jb P_count)]) (N : Nat) (l1 : BitVec 64) : ∀ (n : Nat) (l3 : Int) (l4 : BitVec 64) (l6 : Int) (ls : Array Slot) (H : Heap) (locs : List Loc), lv_has ls 9 [(0, .ref (b 7)), (1, lv l1), (3, iv l3), (4, lv l4), (6, iv l6)] → XH D A H0 [((b 3), oD (b 4) D_rows D_cols D_cr D_cb D_cl D_kl), ((b 7), oP b P_all P_jr P_jb P_count)] H locs → f_pa_countEasyFragments_8 N l1 D_cl D_kl P_all P_jr P_jb n l3 l4 l6 = some Res → W p l e rm_pa_countEasyFragments s m args below meth c H locs 0 0 Q (F0 m 8 ls []) := by
  have hx := C.1.1
  have hb := C.1.2.1
  intro n
  induction n with
  | zero => intro l3 l4 l6 ls H locs hl h hf; cases hf
  | succ n ih =>
    intro l3 l4 l6 ls H locs hl h hf
    rw [f_pa_countEasyFragments_8.eq_2] at hf
    refine lv_iload hx hb (pc := 8) dX4_countEasyFragments_8 (lv_at hl 4 rfl) ?_
    refine x_bipush C (pc := 10) dX4_countEasyFragments_10 (by decide) ?_
    obtain ⟨g_1, hf⟩ := og_some hf
    refine x_icmpge C (pc := 12) (tgt := 65) g_1 ⟨by decide, by decide⟩ dX4_countEasyFragments_12 rfl (fun hc => ?_) (fun hc => ?_)
    · have hf := oi_t hf hc
      refine lv_iload_n hx hb (pc := 65) dX4_countEasyFragments_65 rfl (lv_at hl 2 rfl) ?_
      have e9 := Option.some.inj hf
      subst e9
      exact hret _ _ _ _ dX4_countEasyFragments_66 h
    · have hf := oi_f hf hc
      refine lv_lload hx hb (pc := 15) dX4_countEasyFragments_15 (lv_at hl 3 rfl) ?_
      refine x_lconst C (pc := 17) (x := 0#64) rfl dX4_countEasyFragments_17 ?_
      refine x_lcmpeq C (pc := 18) (tgt := 65) dX4_countEasyFragments_18 dX4_countEasyFragments_19 rfl (fun hc => ?_) (fun hc => ?_)
      · have hf := oi_t hf hc
        refine lv_iload_n hx hb (pc := 65) dX4_countEasyFragments_65 rfl (lv_at hl 2 rfl) ?_
        have e9 := Option.some.inj hf
        subst e9
        exact hret _ _ _ _ dX4_countEasyFragments_66 h
      · have hf := oi_f hf hc
        refine lv_aload_n hx hb (pc := 22) dX4_countEasyFragments_22 rfl (lv_at hl 0 rfl) ?_
        refine lv_lload hx hb (pc := 23) dX4_countEasyFragments_23 (lv_at hl 3 rfl) ?_
        obtain ⟨q_2, hq_2, hf⟩ := ob_some hf
        refine x_callSl C h (pc := 25) hl (c_ce_first l D cI cJ cZ cO l4 N q_2 hq_2) xs_X0_first lk_X4_52 ⟨(Nat.le_of_ble_eq_true rfl), (Nat.le_of_ble_eq_true rfl)⟩ rfl [] [0, 1] (nw := 2) (wr := [((b 3), oD (b 4) D_rows D_cols D_cr D_cb D_cl D_kl), ((b 7), oP b P_all P_jr P_jb P_count)]) (as := [(b 3), (b 7)]) (ws' := [((b 3), oD (b 4) D_rows D_cols D_cr D_cb D_cl D_kl), ((b 7), oP b P_all P_jr P_jb P_count)]) rfl rfl rfl rfl rfl rfl rfl rfl rfl rfl (Nat.le_of_ble_eq_true rfl) dX4_countEasyFragments_25 (fun H locs h => ?_)
        refine lv_lload_n hx hb (pc := 28) dX4_countEasyFragments_28 rfl (lv_at hl 1 rfl) ?_
        obtain ⟨q_3, hq_3, hf⟩ := ob_some hf
        refine x_callVl C h (pc := 29) hl (c_pa_fragment l D cI cJ cZ cO b P_all P_jr P_jb P_count q_2 l1 N q_3 hq_3) xv_X4_fragment lk_X4_56 ⟨(Nat.le_of_ble_eq_true rfl), (Nat.le_of_ble_eq_true rfl)⟩ rfl [1] [0] (nw := 2) (wr := [((b 3), oD (b 4) D_rows D_cols D_cr D_cb D_cl D_kl)]) (as := [(b 3), (b 7)]) (ws' := [((b 3), oD (b 4) D_rows D_cols D_cr D_cb D_cl D_kl), ((b 7), oP b P_all P_jr P_jb P_count)]) rfl rfl rfl rfl rfl rfl rfl rfl rfl 1 rfl rfl rfl rfl (Nat.le_of_ble_eq_true rfl) dX4_countEasyFragments_29 (fun H locs h => ?_)
        refine lv_lstore hx hb (pc := 32) (lv' := [(7, lv q_3), (0, .ref (b 7)), (1, lv l1), (3, iv l3), (4, lv l4), (6, iv l6)]) dX4_countEasyFragments_32 hl (Nat.le_of_ble_eq_true rfl) rfl (fun ls hl => ?_)
        refine lv_aload_n hx hb (pc := 34) dX4_countEasyFragments_34 rfl (lv_at hl 1 rfl) ?_
        refine lv_lload hx hb (pc := 35) dX4_countEasyFragments_35 (lv_at hl 0 rfl) ?_
        obtain ⟨q_4, hq_4, hf⟩ := ob_some hf
        refine x_callVi C h (pc := 37) hl (c_pa_isEasy l D cI cJ cZ cO b D_rows D_cols D_cr D_cb D_cl D_kl P_all P_jr P_jb P_count q_3 N q_4 hq_4) xv_X4_isEasy lk_X4_87 ⟨(Nat.le_of_ble_eq_true rfl), (Nat.le_of_ble_eq_true rfl)⟩ rfl [0, 1] [] (nw := 2) (wr := []) (as := [(b 3), (b 7)]) (ws' := [((b 3), oD (b 4) D_rows D_cols D_cr D_cb D_cl D_kl), ((b 7), oP b P_all P_jr P_jb P_count)]) rfl rfl rfl rfl rfl rfl rfl rfl rfl 1 rfl rfl rfl rfl (Nat.le_of_ble_eq_true rfl) dX4_countEasyFragments_37 (fun H locs h => ?_)
        obtain ⟨g_5, hf⟩ := og_some hf
        refine x_ifne C (pc := 40) (tgt := 45) g_5 dX4_countEasyFragments_40 rfl (fun hc => ?_) (fun hc => ?_)
        · have hf := oi_f hf hc
          refine lv_lload hx hb (pc := 45) dX4_countEasyFragments_45 (lv_at hl 4 rfl) ?_
          refine lv_lload hx hb (pc := 47) dX4_countEasyFragments_47 (lv_at hl 0 rfl) ?_
          refine x_ldc2 C (pc := 49) (x := 18446744073709551615#64) wk_X4_60 (by decide) dX4_countEasyFragments_49 ?_
          refine x_lxor C (pc := 52) dX4_countEasyFragments_52 ?_
          refine x_land C (pc := 53) dX4_countEasyFragments_53 ?_
          obtain ⟨l4_6, el4_6, hf⟩ := ol_some hf
          refine x_topl el4_6 ?_
          refine lv_lstore hx hb (pc := 54) (lv' := [(4, lv l4_6), (7, lv q_3), (0, .ref (b 7)), (1, lv l1), (3, iv l3), (6, iv l6)]) dX4_countEasyFragments_54 hl (Nat.le_of_ble_eq_true rfl) rfl (fun ls hl => ?_)
          obtain ⟨l3_7, el3_7, hf⟩ := ol_some hf
          refine x_iinc C (pc := 56) (k := 4) (lw' := [(3, iv l3_7), (4, lv l4_6), (7, lv q_3), (0, .ref (b 7)), (1, lv l1), (6, iv l6)]) dX4_countEasyFragments_56 hl rfl el3_7 (Nat.le_of_ble_eq_true rfl) rfl (fun ls hl => ?_)
          obtain ⟨l6_8, el6_8, hf⟩ := ol_some hf
          refine x_iinc C (pc := 59) (k := 5) (lw' := [(6, iv l6_8), (3, iv l3_7), (4, lv l4_6), (7, lv q_3), (0, .ref (b 7)), (1, lv l1)]) dX4_countEasyFragments_59 hl rfl el6_8 (Nat.le_of_ble_eq_true rfl) rfl (fun ls hl => ?_)
          refine lv_goto hx hb (pc := 62) (tgt := 8) dX4_countEasyFragments_62 rfl ?_
          exact ih l3_7 l4_6 l6_8 _ _ _ (lv_sub hl [4, 5, 1, 2, 0] rfl) h hf
        · have hf := oi_t hf hc
          refine x_iconst C (pc := 43) dX4_countEasyFragments_43 ?_
          have e9 := Option.some.inj hf
          subst e9
          exact hret _ _ _ _ dX4_countEasyFragments_44 h
set_option maxHeartbeats 4000000 in
set_option maxRecDepth 100000 in
theorem c_pa_countEasyFragments (l : Launch) (D : va_G) (cI cJ cZ cO : ClassId) (b : Nat → Nat) (D_rows : Int) (D_cols : Int) (D_cr : BitVec 64) (D_cb : BitVec 64) (D_cl : Int) (D_kl : Int) (P_all : BitVec 64) (P_jr : BitVec 64) (P_jb : BitVec 64) (P_count : Int) (l1 : BitVec 64) (N : Nat) (Res : Int) (hf : f_pa_countEasyFragments N l1 D_cl D_kl P_all P_jr P_jb = some Res) : CoI l D (xT cI cJ cZ cO) yX4_countEasyFragments cX4_countEasyFragments 9 (some .int) rm_pa_countEasyFragments [.ref (b 7), lv l1] [((b 3), oD (b 4) D_rows D_cols D_cr D_cb D_cl D_kl), ((b 7), oP b P_all P_jr P_jb P_count)] Res [((b 3), oD (b 4) D_rows D_cols D_cr D_cb D_cl D_kl), ((b 7), oP b P_all P_jr P_jb P_count)] := by
  refine co_i (by decide) ⟨rfl, rfl⟩ (Nat.le_of_ble_eq_true rfl) ?_
  intro p e s m args below meth c A Q ls C hret hl h
  have hx := C.1.1
  have hb := C.1.2.1
  have hl : lv_has ls 9 [(0, .ref (b 7)), (1, lv l1)] := hl
  unfold f_pa_countEasyFragments at hf
  refine x_iconst C (pc := 0) dX4_countEasyFragments_0 ?_
  refine lv_istore_n hx hb (pc := 1) (lv' := [(3, iv 0), (0, .ref (b 7)), (1, lv l1)]) dX4_countEasyFragments_1 rfl hl (Nat.le_of_ble_eq_true rfl) rfl (fun ls hl => ?_)
  refine lv_lload_n hx hb (pc := 2) dX4_countEasyFragments_2 rfl (lv_at hl 2 rfl) ?_
  refine lv_lstore hx hb (pc := 3) (lv' := [(4, lv l1), (3, iv 0), (0, .ref (b 7)), (1, lv l1)]) dX4_countEasyFragments_3 hl (Nat.le_of_ble_eq_true rfl) rfl (fun ls hl => ?_)
  refine x_iconst C (pc := 5) dX4_countEasyFragments_5 ?_
  refine lv_istore hx hb (pc := 6) (lv' := [(6, iv 0), (4, lv l1), (3, iv 0), (0, .ref (b 7)), (1, lv l1)]) dX4_countEasyFragments_6 hl (Nat.le_of_ble_eq_true rfl) rfl (fun ls hl => ?_)
  exact w_pa_countEasyFragments_8 C b D_rows D_cols D_cr D_cb D_cl D_kl P_all P_jr P_jb P_count Res hret N l1 N 0 l1 0 _ _ _ (lv_sub hl [3, 4, 2, 1, 0] rfl) h hf
abbrev rm_pa_looseRight : Room := { frames := 1, cells := 0, slots := 0, locals := 21 }
set_option maxHeartbeats 4000000 in
set_option maxRecDepth 100000 in
theorem w_pa_looseRight_4 {p : Program} {l : Launch} {e : Env} {s : State} {m : MethodId} {args : Array Value} {below : List Frame} {meth : Method} {c : Code} {Q : State → Prop} {D : va_G} {cI cJ cZ cO : ClassId} {A : Nat → Prop} {H0 : Heap} {w0 : Cond} (C : XC p s m args c cX4_looseRight 4 RX4 w0 D (xT cI cJ cZ cO)) (b : Nat → Nat) (D_rows : Int) (D_cols : Int) (D_cr : BitVec 64) (D_cb : BitVec 64) (D_cl : Int) (D_kl : Int) (P_all : BitVec 64) (P_jr : BitVec 64) (P_jb : BitVec 64) (P_count : Int) (P_cells : Int → BitVec 64) (Res : BitVec 64) (hret : XRL p l e rm_pa_looseRight s m args below meth c cX4_looseRight D A H0 Q Res [((b 3), oD (b 4) D_rows D_cols D_cr D_cb D_cl D_kl), ((b 7), oP b P_all P_jr P_jb P_count), ((b 8), aJ cJ 49 P_cells)]) (N : Nat) : ∀ (n : Nat) (l1 : BitVec 64) (l3 : Int) (ls : Array Slot) (H : Heap) (locs : List Loc), lv_has ls 4 [(0, .ref (b 7)), (1, lv l1), (3, iv l3)] → XH D A H0 [((b 3), oD (b 4) D_rows D_cols D_cr D_cb D_cl D_kl), ((b 7), oP b P_all P_jr P_jb P_count), ((b 8), aJ cJ 49 P_cells)] H locs → f_pa_looseRight_4 N D_cr P_count P_cells n l1 l3 = some Res → W p l e rm_pa_looseRight s m args below meth c H locs 0 0 Q (F0 m 4 ls []) := by
  have hx := C.1.1
  have hb := C.1.2.1
  intro n
  induction n with
  | zero => intro l1 l3 ls H locs hl h hf; cases hf
  | succ n ih =>
    intro l1 l3 ls H locs hl h hf
    rw [f_pa_looseRight_4.eq_2] at hf
    refine lv_iload_n hx hb (pc := 4) dX4_looseRight_4 rfl (lv_at hl 2 rfl) ?_
    refine lv_aload_n hx hb (pc := 5) dX4_looseRight_5 rfl (lv_at hl 0 rfl) ?_
    refine x_get C h (pc := 6) xf_X4_19 1 rfl (v := iv P_count) rfl dX4_looseRight_6 ?_
    obtain ⟨g_1, hf⟩ := og_some hf
    obtain ⟨g_2, hf⟩ := og_some hf
    refine x_icmpge C (pc := 9) (tgt := 30) g_1 g_2 dX4_looseRight_9 rfl (fun hc => ?_) (fun hc => ?_)
    · have hf := oi_t hf hc
      refine lv_aload_n hx hb (pc := 30) dX4_looseRight_30 rfl (lv_at hl 0 rfl) ?_
      refine x_get C h (pc := 31) xf_X4_32 1 rfl (v := .ref (b 3)) rfl dX4_looseRight_31 ?_
      refine x_get C h (pc := 34) xf_X4_94 0 rfl (v := lv D_cr) rfl dX4_looseRight_34 ?_
      refine lv_lload_n hx hb (pc := 37) dX4_looseRight_37 rfl (lv_at hl 1 rfl) ?_
      refine x_land C (pc := 38) dX4_looseRight_38 ?_
      have e9 := Option.some.inj hf
      subst e9
      exact hret _ _ _ _ dX4_looseRight_39 h
    · have hf := oi_f hf hc
      refine lv_lload_n hx hb (pc := 12) dX4_looseRight_12 rfl (lv_at hl 1 rfl) ?_
      refine lv_aload_n hx hb (pc := 13) dX4_looseRight_13 rfl (lv_at hl 0 rfl) ?_
      refine x_get C h (pc := 14) xf_X4_25 1 rfl (v := .ref (b 8)) rfl dX4_looseRight_14 ?_
      refine lv_iload_n hx hb (pc := 17) dX4_looseRight_17 rfl (lv_at hl 2 rfl) ?_
      obtain ⟨g_3, hf⟩ := og_some hf
      refine x_lald C h (pc := 18) 2 1 rfl rfl (Nat.le_of_ble_eq_true rfl) g_3 dX4_looseRight_18 ?_
      obtain ⟨q_4, hq_4, hf⟩ := ob_some hf
      refine x_callSl C h (pc := 19) hl (c_ce_pairsRight l D cI cJ cZ cO (P_cells l3) N q_4 hq_4) xs_X0_pairsRight lk_X4_91 ⟨(Nat.le_of_ble_eq_true rfl), (Nat.le_of_ble_eq_true rfl)⟩ rfl [] [0, 1, 2] (nw := 3) (wr := [((b 3), oD (b 4) D_rows D_cols D_cr D_cb D_cl D_kl), ((b 7), oP b P_all P_jr P_jb P_count), ((b 8), aJ cJ 49 P_cells)]) (as := [(b 3), (b 7), (b 8)]) (ws' := [((b 3), oD (b 4) D_rows D_cols D_cr D_cb D_cl D_kl), ((b 7), oP b P_all P_jr P_jb P_count), ((b 8), aJ cJ 49 P_cells)]) rfl rfl rfl rfl rfl rfl rfl rfl rfl rfl (Nat.le_of_ble_eq_true rfl) dX4_looseRight_19 (fun H locs h => ?_)
      refine x_lor C (pc := 22) dX4_looseRight_22 ?_
      obtain ⟨l1_5, el1_5, hf⟩ := ol_some hf
      refine x_topl el1_5 ?_
      refine lv_lstore_n hx hb (pc := 23) (lv' := [(1, lv l1_5), (0, .ref (b 7)), (3, iv l3)]) dX4_looseRight_23 rfl hl (Nat.le_of_ble_eq_true rfl) rfl (fun ls hl => ?_)
      obtain ⟨l3_6, el3_6, hf⟩ := ol_some hf
      refine x_iinc C (pc := 24) (k := 2) (lw' := [(3, iv l3_6), (1, lv l1_5), (0, .ref (b 7))]) dX4_looseRight_24 hl rfl el3_6 (Nat.le_of_ble_eq_true rfl) rfl (fun ls hl => ?_)
      refine lv_goto hx hb (pc := 27) (tgt := 4) dX4_looseRight_27 rfl ?_
      exact ih l1_5 l3_6 _ _ _ (lv_sub hl [2, 1, 0] rfl) h hf
set_option maxHeartbeats 4000000 in
set_option maxRecDepth 100000 in
theorem c_pa_looseRight (l : Launch) (D : va_G) (cI cJ cZ cO : ClassId) (b : Nat → Nat) (D_rows : Int) (D_cols : Int) (D_cr : BitVec 64) (D_cb : BitVec 64) (D_cl : Int) (D_kl : Int) (P_all : BitVec 64) (P_jr : BitVec 64) (P_jb : BitVec 64) (P_count : Int) (P_cells : Int → BitVec 64) (N : Nat) (Res : BitVec 64) (hf : f_pa_looseRight N D_cr P_count P_cells = some Res) : CoL l D (xT cI cJ cZ cO) yX4_looseRight cX4_looseRight 4 (some .long) rm_pa_looseRight [.ref (b 7)] [((b 3), oD (b 4) D_rows D_cols D_cr D_cb D_cl D_kl), ((b 7), oP b P_all P_jr P_jb P_count), ((b 8), aJ cJ 49 P_cells)] Res [((b 3), oD (b 4) D_rows D_cols D_cr D_cb D_cl D_kl), ((b 7), oP b P_all P_jr P_jb P_count), ((b 8), aJ cJ 49 P_cells)] := by
  refine co_l (by decide) ⟨rfl, rfl⟩ (Nat.le_of_ble_eq_true rfl) ?_
  intro p e s m args below meth c A Q ls C hret hl h
  have hx := C.1.1
  have hb := C.1.2.1
  have hl : lv_has ls 4 [(0, .ref (b 7))] := hl
  unfold f_pa_looseRight at hf
  refine x_lconst C (pc := 0) (x := 0#64) rfl dX4_looseRight_0 ?_
  refine lv_lstore_n hx hb (pc := 1) (lv' := [(1, lv (0#64)), (0, .ref (b 7))]) dX4_looseRight_1 rfl hl (Nat.le_of_ble_eq_true rfl) rfl (fun ls hl => ?_)
  refine x_iconst C (pc := 2) dX4_looseRight_2 ?_
  refine lv_istore_n hx hb (pc := 3) (lv' := [(3, iv 0), (1, lv (0#64)), (0, .ref (b 7))]) dX4_looseRight_3 rfl hl (Nat.le_of_ble_eq_true rfl) rfl (fun ls hl => ?_)
  exact w_pa_looseRight_4 C b D_rows D_cols D_cr D_cb D_cl D_kl P_all P_jr P_jb P_count P_cells Res hret N N (0#64) 0 _ _ _ (lv_sub hl [2, 1, 0] rfl) h hf
abbrev rm_pa_looseBelow : Room := { frames := 1, cells := 0, slots := 0, locals := 21 }
set_option maxHeartbeats 4000000 in
set_option maxRecDepth 100000 in
theorem w_pa_looseBelow_4 {p : Program} {l : Launch} {e : Env} {s : State} {m : MethodId} {args : Array Value} {below : List Frame} {meth : Method} {c : Code} {Q : State → Prop} {D : va_G} {cI cJ cZ cO : ClassId} {A : Nat → Prop} {H0 : Heap} {w0 : Cond} (C : XC p s m args c cX4_looseBelow 4 RX4 w0 D (xT cI cJ cZ cO)) (b : Nat → Nat) (D_rows : Int) (D_cols : Int) (D_cr : BitVec 64) (D_cb : BitVec 64) (D_cl : Int) (D_kl : Int) (P_all : BitVec 64) (P_jr : BitVec 64) (P_jb : BitVec 64) (P_count : Int) (P_cells : Int → BitVec 64) (Res : BitVec 64) (hret : XRL p l e rm_pa_looseBelow s m args below meth c cX4_looseBelow D A H0 Q Res [((b 3), oD (b 4) D_rows D_cols D_cr D_cb D_cl D_kl), ((b 7), oP b P_all P_jr P_jb P_count), ((b 8), aJ cJ 49 P_cells)]) (N : Nat) : ∀ (n : Nat) (l1 : BitVec 64) (l3 : Int) (ls : Array Slot) (H : Heap) (locs : List Loc), lv_has ls 4 [(0, .ref (b 7)), (1, lv l1), (3, iv l3)] → XH D A H0 [((b 3), oD (b 4) D_rows D_cols D_cr D_cb D_cl D_kl), ((b 7), oP b P_all P_jr P_jb P_count), ((b 8), aJ cJ 49 P_cells)] H locs → f_pa_looseBelow_4 N D_cb P_count P_cells n l1 l3 = some Res → W p l e rm_pa_looseBelow s m args below meth c H locs 0 0 Q (F0 m 4 ls []) := by
  have hx := C.1.1
  have hb := C.1.2.1
  intro n
  induction n with
  | zero => intro l1 l3 ls H locs hl h hf; cases hf
  | succ n ih =>
    intro l1 l3 ls H locs hl h hf
    rw [f_pa_looseBelow_4.eq_2] at hf
    refine lv_iload_n hx hb (pc := 4) dX4_looseBelow_4 rfl (lv_at hl 2 rfl) ?_
    refine lv_aload_n hx hb (pc := 5) dX4_looseBelow_5 rfl (lv_at hl 0 rfl) ?_
    refine x_get C h (pc := 6) xf_X4_19 1 rfl (v := iv P_count) rfl dX4_looseBelow_6 ?_
    obtain ⟨g_1, hf⟩ := og_some hf
    obtain ⟨g_2, hf⟩ := og_some hf
    refine x_icmpge C (pc := 9) (tgt := 30) g_1 g_2 dX4_looseBelow_9 rfl (fun hc => ?_) (fun hc => ?_)
    · have hf := oi_t hf hc
      refine lv_aload_n hx hb (pc := 30) dX4_looseBelow_30 rfl (lv_at hl 0 rfl) ?_
      refine x_get C h (pc := 31) xf_X4_32 1 rfl (v := .ref (b 3)) rfl dX4_looseBelow_31 ?_
      refine x_get C h (pc := 34) xf_X4_100 0 rfl (v := lv D_cb) rfl dX4_looseBelow_34 ?_
      refine lv_lload_n hx hb (pc := 37) dX4_looseBelow_37 rfl (lv_at hl 1 rfl) ?_
      refine x_land C (pc := 38) dX4_looseBelow_38 ?_
      have e9 := Option.some.inj hf
      subst e9
      exact hret _ _ _ _ dX4_looseBelow_39 h
    · have hf := oi_f hf hc
      refine lv_lload_n hx hb (pc := 12) dX4_looseBelow_12 rfl (lv_at hl 1 rfl) ?_
      refine lv_aload_n hx hb (pc := 13) dX4_looseBelow_13 rfl (lv_at hl 0 rfl) ?_
      refine x_get C h (pc := 14) xf_X4_25 1 rfl (v := .ref (b 8)) rfl dX4_looseBelow_14 ?_
      refine lv_iload_n hx hb (pc := 17) dX4_looseBelow_17 rfl (lv_at hl 2 rfl) ?_
      obtain ⟨g_3, hf⟩ := og_some hf
      refine x_lald C h (pc := 18) 2 1 rfl rfl (Nat.le_of_ble_eq_true rfl) g_3 dX4_looseBelow_18 ?_
      obtain ⟨q_4, hq_4, hf⟩ := ob_some hf
      refine x_callSl C h (pc := 19) hl (c_ce_pairsBelow l D cI cJ cZ cO (P_cells l3) N q_4 hq_4) xs_X0_pairsBelow lk_X4_97 ⟨(Nat.le_of_ble_eq_true rfl), (Nat.le_of_ble_eq_true rfl)⟩ rfl [] [0, 1, 2] (nw := 3) (wr := [((b 3), oD (b 4) D_rows D_cols D_cr D_cb D_cl D_kl), ((b 7), oP b P_all P_jr P_jb P_count), ((b 8), aJ cJ 49 P_cells)]) (as := [(b 3), (b 7), (b 8)]) (ws' := [((b 3), oD (b 4) D_rows D_cols D_cr D_cb D_cl D_kl), ((b 7), oP b P_all P_jr P_jb P_count), ((b 8), aJ cJ 49 P_cells)]) rfl rfl rfl rfl rfl rfl rfl rfl rfl rfl (Nat.le_of_ble_eq_true rfl) dX4_looseBelow_19 (fun H locs h => ?_)
      refine x_lor C (pc := 22) dX4_looseBelow_22 ?_
      obtain ⟨l1_5, el1_5, hf⟩ := ol_some hf
      refine x_topl el1_5 ?_
      refine lv_lstore_n hx hb (pc := 23) (lv' := [(1, lv l1_5), (0, .ref (b 7)), (3, iv l3)]) dX4_looseBelow_23 rfl hl (Nat.le_of_ble_eq_true rfl) rfl (fun ls hl => ?_)
      obtain ⟨l3_6, el3_6, hf⟩ := ol_some hf
      refine x_iinc C (pc := 24) (k := 2) (lw' := [(3, iv l3_6), (1, lv l1_5), (0, .ref (b 7))]) dX4_looseBelow_24 hl rfl el3_6 (Nat.le_of_ble_eq_true rfl) rfl (fun ls hl => ?_)
      refine lv_goto hx hb (pc := 27) (tgt := 4) dX4_looseBelow_27 rfl ?_
      exact ih l1_5 l3_6 _ _ _ (lv_sub hl [2, 1, 0] rfl) h hf
set_option maxHeartbeats 4000000 in
set_option maxRecDepth 100000 in
theorem c_pa_looseBelow (l : Launch) (D : va_G) (cI cJ cZ cO : ClassId) (b : Nat → Nat) (D_rows : Int) (D_cols : Int) (D_cr : BitVec 64) (D_cb : BitVec 64) (D_cl : Int) (D_kl : Int) (P_all : BitVec 64) (P_jr : BitVec 64) (P_jb : BitVec 64) (P_count : Int) (P_cells : Int → BitVec 64) (N : Nat) (Res : BitVec 64) (hf : f_pa_looseBelow N D_cb P_count P_cells = some Res) : CoL l D (xT cI cJ cZ cO) yX4_looseBelow cX4_looseBelow 4 (some .long) rm_pa_looseBelow [.ref (b 7)] [((b 3), oD (b 4) D_rows D_cols D_cr D_cb D_cl D_kl), ((b 7), oP b P_all P_jr P_jb P_count), ((b 8), aJ cJ 49 P_cells)] Res [((b 3), oD (b 4) D_rows D_cols D_cr D_cb D_cl D_kl), ((b 7), oP b P_all P_jr P_jb P_count), ((b 8), aJ cJ 49 P_cells)] := by
  refine co_l (by decide) ⟨rfl, rfl⟩ (Nat.le_of_ble_eq_true rfl) ?_
  intro p e s m args below meth c A Q ls C hret hl h
  have hx := C.1.1
  have hb := C.1.2.1
  have hl : lv_has ls 4 [(0, .ref (b 7))] := hl
  unfold f_pa_looseBelow at hf
  refine x_lconst C (pc := 0) (x := 0#64) rfl dX4_looseBelow_0 ?_
  refine lv_lstore_n hx hb (pc := 1) (lv' := [(1, lv (0#64)), (0, .ref (b 7))]) dX4_looseBelow_1 rfl hl (Nat.le_of_ble_eq_true rfl) rfl (fun ls hl => ?_)
  refine x_iconst C (pc := 2) dX4_looseBelow_2 ?_
  refine lv_istore_n hx hb (pc := 3) (lv' := [(3, iv 0), (1, lv (0#64)), (0, .ref (b 7))]) dX4_looseBelow_3 rfl hl (Nat.le_of_ble_eq_true rfl) rfl (fun ls hl => ?_)
  exact w_pa_looseBelow_4 C b D_rows D_cols D_cr D_cb D_cl D_kl P_all P_jr P_jb P_count P_cells Res hret N N (0#64) 0 _ _ _ (lv_sub hl [2, 1, 0] rfl) h hf
abbrev rm_pa_measureLead : Room := { frames := 2, cells := 0, slots := 0, locals := 42 }
set_option maxHeartbeats 4000000 in
set_option maxRecDepth 100000 in
theorem w_pa_measureLead_10 {p : Program} {l : Launch} {e : Env} {s : State} {m : MethodId} {args : Array Value} {below : List Frame} {meth : Method} {c : Code} {Q : State → Prop} {D : va_G} {cI cJ cZ cO : ClassId} {A : Nat → Prop} {H0 : Heap} {w0 : Cond} (C : XC p s m args c cX4_measureLead 3 RX4 w0 D (xT cI cJ cZ cO)) (b : Nat → Nat) (P_all : BitVec 64) (P_jr : BitVec 64) (P_jb : BitVec 64) (P_count : Int) (P_cells : Int → BitVec 64) (Res : Int) (hret : XRI p l e rm_pa_measureLead s m args below meth c cX4_measureLead D A H0 Q Res [((b 7), oP b P_all P_jr P_jb P_count), ((b 8), aJ cJ 49 P_cells)]) (N : Nat) : ∀ (n : Nat) (l1 : Int) (l2 : Int) (ls : Array Slot) (H : Heap) (locs : List Loc), lv_has ls 3 [(0, .ref (b 7)), (1, iv l1), (2, iv l2)] → XH D A H0 [((b 7), oP b P_all P_jr P_jb P_count), ((b 8), aJ cJ 49 P_cells)] H locs → f_pa_measureLead_10 N P_count P_cells n l1 l2 = some Res → W p l e rm_pa_measureLead s m args below meth c H locs 0 0 Q (F0 m 10 ls []) := by
  have hx := C.1.1
  have hb := C.1.2.1
  intro n
  induction n with
  | zero => intro l1 l2 ls H locs hl h hf; cases hf
  | succ n ih =>
    intro l1 l2 ls H locs hl h hf
    rw [f_pa_measureLead_10.eq_2] at hf
    refine lv_iload_n hx hb (pc := 10) dX4_measureLead_10 rfl (lv_at hl 2 rfl) ?_
    refine lv_aload_n hx hb (pc := 11) dX4_measureLead_11 rfl (lv_at hl 0 rfl) ?_
    refine x_get C h (pc := 12) xf_X4_19 0 rfl (v := iv P_count) rfl dX4_measureLead_12 ?_
    obtain ⟨g_2, hf⟩ := og_some hf
    obtain ⟨g_3, hf⟩ := og_some hf
    refine x_icmpge C (pc := 15) (tgt := 36) g_2 g_3 dX4_measureLead_15 rfl (fun hc => ?_) (fun hc => ?_)
    · have hf := oi_t hf hc
      refine lv_iload_n hx hb (pc := 36) dX4_measureLead_36 rfl (lv_at hl 1 rfl) ?_
      have e9 := Option.some.inj hf
      subst e9
      exact hret _ _ _ _ dX4_measureLead_37 h
    · have hf := oi_f hf hc
      refine lv_iload_n hx hb (pc := 18) dX4_measureLead_18 rfl (lv_at hl 1 rfl) ?_
      refine lv_aload_n hx hb (pc := 19) dX4_measureLead_19 rfl (lv_at hl 0 rfl) ?_
      refine x_get C h (pc := 20) xf_X4_25 0 rfl (v := .ref (b 8)) rfl dX4_measureLead_20 ?_
      refine lv_iload_n hx hb (pc := 23) dX4_measureLead_23 rfl (lv_at hl 2 rfl) ?_
      obtain ⟨g_4, hf⟩ := og_some hf
      refine x_lald C h (pc := 24) 1 1 rfl rfl (Nat.le_of_ble_eq_true rfl) g_4 dX4_measureLead_24 ?_
      obtain ⟨q_5, hq_5, hf⟩ := ob_some hf
      refine x_callSi C h (pc := 25) hl (c_ce_countPairs l D cI cJ cZ cO (P_cells l2) N q_5 hq_5) xs_X0_countPairs lk_X4_103 ⟨(Nat.le_of_ble_eq_true rfl), (Nat.le_of_ble_eq_true rfl)⟩ rfl [] [0, 1] (nw := 2) (wr := [((b 7), oP b P_all P_jr P_jb P_count), ((b 8), aJ cJ 49 P_cells)]) (as := [(b 7), (b 8)]) (ws' := [((b 7), oP b P_all P_jr P_jb P_count), ((b 8), aJ cJ 49 P_cells)]) rfl rfl rfl rfl rfl rfl rfl rfl rfl rfl (Nat.le_of_ble_eq_true rfl) dX4_measureLead_25 (fun H locs h => ?_)
      refine x_isub C (pc := 28) dX4_measureLead_28 ?_
      obtain ⟨l1_6, el1_6, hf⟩ := ol_some hf
      refine x_topi el1_6 ?_
      refine lv_istore_n hx hb (pc := 29) (lv' := [(1, iv l1_6), (0, .ref (b 7)), (2, iv l2)]) dX4_measureLead_29 rfl hl (Nat.le_of_ble_eq_true rfl) rfl (fun ls hl => ?_)
      obtain ⟨l2_7, el2_7, hf⟩ := ol_some hf
      refine x_iinc C (pc := 30) (k := 2) (lw' := [(2, iv l2_7), (1, iv l1_6), (0, .ref (b 7))]) dX4_measureLead_30 hl rfl el2_7 (Nat.le_of_ble_eq_true rfl) rfl (fun ls hl => ?_)
      refine lv_goto hx hb (pc := 33) (tgt := 10) dX4_measureLead_33 rfl ?_
      exact ih l1_6 l2_7 _ _ _ (lv_sub hl [2, 1, 0] rfl) h hf
set_option maxHeartbeats 4000000 in
set_option maxRecDepth 100000 in
theorem c_pa_measureLead (l : Launch) (D : va_G) (cI cJ cZ cO : ClassId) (b : Nat → Nat) (P_all : BitVec 64) (P_jr : BitVec 64) (P_jb : BitVec 64) (P_count : Int) (P_cells : Int → BitVec 64) (N : Nat) (Res : Int) (hf : f_pa_measureLead N P_all P_count P_cells = some Res) : CoI l D (xT cI cJ cZ cO) yX4_measureLead cX4_measureLead 3 (some .int) rm_pa_measureLead [.ref (b 7)] [((b 7), oP b P_all P_jr P_jb P_count), ((b 8), aJ cJ 49 P_cells)] Res [((b 7), oP b P_all P_jr P_jb P_count), ((b 8), aJ cJ 49 P_cells)] := by
  refine co_i (by decide) ⟨rfl, rfl⟩ (Nat.le_of_ble_eq_true rfl) ?_
  intro p e s m args below meth c A Q ls C hret hl h
  have hx := C.1.1
  have hb := C.1.2.1
  have hl : lv_has ls 3 [(0, .ref (b 7))] := hl
  unfold f_pa_measureLead at hf
  refine lv_aload_n hx hb (pc := 0) dX4_measureLead_0 rfl (lv_at hl 0 rfl) ?_
  refine x_get C h (pc := 1) xf_X4_7 0 rfl (v := lv P_all) rfl dX4_measureLead_1 ?_
  obtain ⟨q_1, hq_1, hf⟩ := ob_some hf
  refine x_callSi C h (pc := 4) hl (c_ce_countPairs l D cI cJ cZ cO P_all N q_1 hq_1) xs_X0_countPairs lk_X4_103 ⟨(Nat.le_of_ble_eq_true rfl), (Nat.le_of_ble_eq_true rfl)⟩ rfl [] [0, 1] (nw := 2) (wr := [((b 7), oP b P_all P_jr P_jb P_count), ((b 8), aJ cJ 49 P_cells)]) (as := [(b 7), (b 8)]) (ws' := [((b 7), oP b P_all P_jr P_jb P_count), ((b 8), aJ cJ 49 P_cells)]) rfl rfl rfl rfl rfl rfl rfl rfl rfl rfl (Nat.le_of_ble_eq_true rfl) dX4_measureLead_4 (fun H locs h => ?_)
  refine lv_istore_n hx hb (pc := 7) (lv' := [(1, iv q_1), (0, .ref (b 7))]) dX4_measureLead_7 rfl hl (Nat.le_of_ble_eq_true rfl) rfl (fun ls hl => ?_)
  refine x_iconst C (pc := 8) dX4_measureLead_8 ?_
  refine lv_istore_n hx hb (pc := 9) (lv' := [(2, iv 0), (1, iv q_1), (0, .ref (b 7))]) dX4_measureLead_9 rfl hl (Nat.le_of_ble_eq_true rfl) rfl (fun ls hl => ?_)
  exact w_pa_measureLead_10 C b P_all P_jr P_jb P_count P_cells Res hret N N q_1 0 _ _ _ (lv_sub hl [2, 1, 0] rfl) h hf
abbrev rm_pa_colourOf : Room := { frames := 2, cells := 0, slots := 0, locals := 42 }
set_option maxHeartbeats 4000000 in
set_option maxRecDepth 100000 in
theorem c_pa_colourOf (l : Launch) (D : va_G) (cI cJ cZ cO : ClassId) (b : Nat → Nat) (D_rows : Int) (D_cols : Int) (D_cr : BitVec 64) (D_cb : BitVec 64) (D_cl : Int) (D_kl : Int) (D_col : Int → Int) (P_all : BitVec 64) (P_jr : BitVec 64) (P_jb : BitVec 64) (P_count : Int) (P_cells : Int → BitVec 64) (l1 : Int) (N : Nat) (Res : Int) (hf : f_pa_colourOf N l1 D_col P_cells = some Res) : CoI l D (xT cI cJ cZ cO) yX4_colourOf cX4_colourOf 3 (some .int) rm_pa_colourOf [.ref (b 7), iv l1] [((b 3), oD (b 4) D_rows D_cols D_cr D_cb D_cl D_kl), ((b 4), aI cI 56 D_col), ((b 7), oP b P_all P_jr P_jb P_count), ((b 8), aJ cJ 49 P_cells)] Res [((b 3), oD (b 4) D_rows D_cols D_cr D_cb D_cl D_kl), ((b 4), aI cI 56 D_col), ((b 7), oP b P_all P_jr P_jb P_count), ((b 8), aJ cJ 49 P_cells)] := by
  refine co_i (by decide) ⟨rfl, rfl⟩ (Nat.le_of_ble_eq_true rfl) ?_
  intro p e s m args below meth c A Q ls C hret hl h
  have hx := C.1.1
  have hb := C.1.2.1
  have hl : lv_has ls 3 [(0, .ref (b 7)), (1, iv l1)] := hl
  unfold f_pa_colourOf at hf
  refine lv_aload_n hx hb (pc := 0) dX4_colourOf_0 rfl (lv_at hl 0 rfl) ?_
  refine x_get C h (pc := 1) xf_X4_25 2 rfl (v := .ref (b 8)) rfl dX4_colourOf_1 ?_
  refine lv_iload_n hx hb (pc := 4) dX4_colourOf_4 rfl (lv_at hl 1 rfl) ?_
  obtain ⟨g_1, hf⟩ := og_some hf
  refine x_lald C h (pc := 5) 3 1 rfl rfl (Nat.le_of_ble_eq_true rfl) g_1 dX4_colourOf_5 ?_
  obtain ⟨q_2, hq_2, hf⟩ := ob_some hf
  refine x_callSi C h (pc := 6) hl (c_ce_numberOfFirst l D cI cJ cZ cO (P_cells l1) N q_2 hq_2) xs_X0_numberOfFirst lk_X4_110 ⟨(Nat.le_of_ble_eq_true rfl), (Nat.le_of_ble_eq_true rfl)⟩ rfl [] [0, 1, 2, 3] (nw := 4) (wr := [((b 3), oD (b 4) D_rows D_cols D_cr D_cb D_cl D_kl), ((b 4), aI cI 56 D_col), ((b 7), oP b P_all P_jr P_jb P_count), ((b 8), aJ cJ 49 P_cells)]) (as := [(b 3), (b 4), (b 7), (b 8)]) (ws' := [((b 3), oD (b 4) D_rows D_cols D_cr D_cb D_cl D_kl), ((b 4), aI cI 56 D_col), ((b 7), oP b P_all P_jr P_jb P_count), ((b 8), aJ cJ 49 P_cells)]) rfl rfl rfl rfl rfl rfl rfl rfl rfl rfl (Nat.le_of_ble_eq_true rfl) dX4_colourOf_6 (fun H locs h => ?_)
  refine lv_istore_n hx hb (pc := 9) (lv' := [(2, iv q_2), (0, .ref (b 7)), (1, iv l1)]) dX4_colourOf_9 rfl hl (Nat.le_of_ble_eq_true rfl) rfl (fun ls hl => ?_)
  refine lv_iload_n hx hb (pc := 10) dX4_colourOf_10 rfl (lv_at hl 0 rfl) ?_
  refine x_bipush C (pc := 11) dX4_colourOf_11 (by decide) ?_
  obtain ⟨g_3, hf⟩ := og_some hf
  refine x_icmpge C (pc := 13) (tgt := 28) g_3 ⟨by decide, by decide⟩ dX4_colourOf_13 rfl (fun hc => ?_) (fun hc => ?_)
  · have hf := oi_t hf hc
    refine x_iconst C (pc := 28) dX4_colourOf_28 ?_
    have e9 := Option.some.inj hf
    subst e9
    exact hret _ _ _ _ dX4_colourOf_29 h
  · have hf := oi_f hf hc
    refine lv_aload_n hx hb (pc := 16) dX4_colourOf_16 rfl (lv_at hl 1 rfl) ?_
    refine x_get C h (pc := 17) xf_X4_32 2 rfl (v := .ref (b 3)) rfl dX4_colourOf_17 ?_
    refine x_get C h (pc := 20) xf_X4_113 0 rfl (v := .ref (b 4)) rfl dX4_colourOf_20 ?_
    refine lv_iload_n hx hb (pc := 23) dX4_colourOf_23 rfl (lv_at hl 0 rfl) ?_
    obtain ⟨g_4, hf⟩ := og_some hf
    refine x_iald C h (pc := 24) 1 0 rfl rfl (Nat.le_of_ble_eq_true rfl) g_4 dX4_colourOf_24 ?_
    refine lv_goto hx hb (pc := 25) (tgt := 29) dX4_colourOf_25 rfl ?_
    have e9 := Option.some.inj hf
    subst e9
    exact hret _ _ _ _ dX4_colourOf_29 h
abbrev rm_pa_countEqualNeighbours : Room := { frames := 3, cells := 0, slots := 0, locals := 64 }
set_option maxHeartbeats 4000000 in
set_option maxRecDepth 100000 in
theorem w_pa_countEqualNeighbours_14 {p : Program} {l : Launch} {e : Env} {s : State} {m : MethodId} {args : Array Value} {below : List Frame} {meth : Method} {c : Code} {Q : State → Prop} {D : va_G} {cI cJ cZ cO : ClassId} {A : Nat → Prop} {H0 : Heap} {w0 : Cond} (C : XC p s m args c cX4_countEqualNeighbours 5 RX4 w0 D (xT cI cJ cZ cO)) (b : Nat → Nat) (D_rows : Int) (D_cols : Int) (D_cr : BitVec 64) (D_cb : BitVec 64) (D_cl : Int) (D_kl : Int) (D_col : Int → Int) (P_all : BitVec 64) (P_jr : BitVec 64) (P_jb : BitVec 64) (P_count : Int) (P_cells : Int → BitVec 64) (P_near : Int → BitVec 64) (Res : Int) (hret : XRI p l e rm_pa_countEqualNeighbours s m args below meth c cX4_countEqualNeighbours D A H0 Q Res [((b 3), oD (b 4) D_rows D_cols D_cr D_cb D_cl D_kl), ((b 4), aI cI 56 D_col), ((b 7), oP b P_all P_jr P_jb P_count), ((b 8), aJ cJ 49 P_cells), ((b 9), aJ cJ 49 P_near)]) (N : Nat) (l2 : Int) (k4 : Int → Int → Option (Int)) (hk4 : ∀ (l1' : Int) (l2' : Int) (ls : Array Slot) (H : Heap) (locs : List Loc), lv_has ls 5 [(0, .ref (b 7)), (1, iv l1'), (2, iv l2')] → XH D A H0 [((b 3), oD (b 4) D_rows D_cols D_cr D_cb D_cl D_kl), ((b 4), aI cI 56 D_col), ((b 7), oP b P_all P_jr P_jb P_count), ((b 8), aJ cJ 49 P_cells), ((b 9), aJ cJ 49 P_near)] H locs → k4 l1' l2' = some Res → W p l e rm_pa_countEqualNeighbours s m args below meth c H locs 0 0 Q (F0 m 4 ls [])) : ∀ (n : Nat) (l1 : Int) (l3 : Int) (ls : Array Slot) (H : Heap) (locs : List Loc), lv_has ls 5 [(0, .ref (b 7)), (1, iv l1), (2, iv l2), (3, iv l3)] → XH D A H0 [((b 3), oD (b 4) D_rows D_cols D_cr D_cb D_cl D_kl), ((b 4), aI cI 56 D_col), ((b 7), oP b P_all P_jr P_jb P_count), ((b 8), aJ cJ 49 P_cells), ((b 9), aJ cJ 49 P_near)] H locs → f_pa_countEqualNeighbours_14 N l2 D_col P_count P_cells P_near k4 n l1 l3 = some Res → W p l e rm_pa_countEqualNeighbours s m args below meth c H locs 0 0 Q (F0 m 14 ls []) := by
  have hx := C.1.1
  have hb := C.1.2.1
  intro n
  induction n with
  | zero => intro l1 l3 ls H locs hl h hf; cases hf
  | succ n ih =>
    intro l1 l3 ls H locs hl h hf
    rw [f_pa_countEqualNeighbours_14.eq_2] at hf
    refine lv_iload_n hx hb (pc := 14) dX4_countEqualNeighbours_14 rfl (lv_at hl 3 rfl) ?_
    refine lv_iload_n hx hb (pc := 15) dX4_countEqualNeighbours_15 rfl (lv_at hl 2 rfl) ?_
    obtain ⟨g_21, hf⟩ := og_some hf
    obtain ⟨g_22, hf⟩ := og_some hf
    refine x_icmpge C (pc := 16) (tgt := 68) g_21 g_22 dX4_countEqualNeighbours_16 rfl (fun hc => ?_) (fun hc => ?_)
    · have hf := oi_t hf hc
      obtain ⟨l2_23, el2_23, hf⟩ := ol_some hf
      refine x_iinc C (pc := 68) (k := 2) (lw' := [(2, iv l2_23), (0, .ref (b 7)), (1, iv l1), (3, iv l3)]) dX4_countEqualNeighbours_68 hl rfl el2_23 (Nat.le_of_ble_eq_true rfl) rfl (fun ls hl => ?_)
      refine lv_goto hx hb (pc := 71) (tgt := 4) dX4_countEqualNeighbours_71 rfl ?_
      exact hk4 l1 l2_23 _ _ _ (lv_sub hl [1, 2, 0] rfl) h hf
    · have hf := oi_f hf hc
      refine lv_aload_n hx hb (pc := 19) dX4_countEqualNeighbours_19 rfl (lv_at hl 0 rfl) ?_
      refine x_get C h (pc := 20) xf_X4_29 2 rfl (v := .ref (b 9)) rfl dX4_countEqualNeighbours_20 ?_
      refine lv_iload_n hx hb (pc := 23) dX4_countEqualNeighbours_23 rfl (lv_at hl 2 rfl) ?_
      obtain ⟨g_24, hf⟩ := og_some hf
      refine x_lald C h (pc := 24) 4 1 rfl rfl (Nat.le_of_ble_eq_true rfl) g_24 dX4_countEqualNeighbours_24 ?_
      refine x_lconst C (pc := 25) (x := 1#64) rfl dX4_countEqualNeighbours_25 ?_
      refine lv_iload_n hx hb (pc := 26) dX4_countEqualNeighbours_26 rfl (lv_at hl 3 rfl) ?_
      obtain ⟨g_25, hf⟩ := og_some hf
      obtain ⟨r_26, hrr_26, hf⟩ := ob_some hf
      have Jr_26 : ∀ (ls : Array Slot) (H : Heap) (locs : List Loc), lv_has ls 5 [(0, .ref (b 7)), (1, iv l1), (2, iv l2), (3, iv l3)] → XH D A H0 [((b 3), oD (b 4) D_rows D_cols D_cr D_cb D_cl D_kl), ((b 4), aI cI 56 D_col), ((b 7), oP b P_all P_jr P_jb P_count), ((b 8), aJ cJ 49 P_cells), ((b 9), aJ cJ 49 P_near)] H locs → W p l e rm_pa_countEqualNeighbours s m args below meth c H locs 0 0 Q (F0 m 39 ls [iv r_26]) := by
        intro ls H locs hl h
        refine lv_istore hx hb (pc := 39) (lv' := [(4, iv r_26), (0, .ref (b 7)), (1, iv l1), (2, iv l2), (3, iv l3)]) dX4_countEqualNeighbours_39 hl (Nat.le_of_ble_eq_true rfl) rfl (fun ls hl => ?_)
        refine lv_iload hx hb (pc := 41) dX4_countEqualNeighbours_41 (lv_at hl 0 rfl) ?_
        obtain ⟨g_27, hf⟩ := og_some hf
        obtain ⟨r_36, hrr_36, hf⟩ := ob_some hf
        have Jr_36 : ∀ (ls : Array Slot) (H : Heap) (locs : List Loc), lv_has ls 5 [(0, .ref (b 7)), (1, iv r_36.1), (2, iv l2), (3, iv r_36.2)] → XH D A H0 [((b 3), oD (b 4) D_rows D_cols D_cr D_cb D_cl D_kl), ((b 4), aI cI 56 D_col), ((b 7), oP b P_all P_jr P_jb P_count), ((b 8), aJ cJ 49 P_cells), ((b 9), aJ cJ 49 P_near)] H locs → W p l e rm_pa_countEqualNeighbours s m args below meth c H locs 0 0 Q (F0 m 14 ls []) := by
          intro ls H locs hl h
          exact ih r_36.1 r_36.2 _ _ _ (lv_sub hl [0, 1, 2, 3] rfl) h hf
        clear hf
        have hf := hrr_36
        refine x_ifeq C (pc := 43) (tgt := 62) g_27 dX4_countEqualNeighbours_43 rfl (fun hc => ?_) (fun hc => ?_)
        · have hf := oi_t hf hc
          obtain ⟨l3_28, el3_28, hf⟩ := ol_some hf
          refine x_iinc C (pc := 62) (k := 4) (lw' := [(3, iv l3_28), (4, iv r_26), (0, .ref (b 7)), (1, iv l1), (2, iv l2)]) dX4_countEqualNeighbours_62 hl rfl el3_28 (Nat.le_of_ble_eq_true rfl) rfl (fun ls hl => ?_)
          refine lv_goto hx hb (pc := 65) (tgt := 14) dX4_countEqualNeighbours_65 rfl ?_
          have e9 := Option.some.inj hf
          subst e9
          exact Jr_36 _ _ _ (lv_sub hl [2, 3, 4, 0] rfl) h
        · have hf := oi_f hf hc
          refine lv_aload_n hx hb (pc := 46) dX4_countEqualNeighbours_46 rfl (lv_at hl 1 rfl) ?_
          refine lv_iload_n hx hb (pc := 47) dX4_countEqualNeighbours_47 rfl (lv_at hl 3 rfl) ?_
          obtain ⟨q_29, hq_29, hf⟩ := ob_some hf
          refine x_callVi C h (pc := 48) hl (c_pa_colourOf l D cI cJ cZ cO b D_rows D_cols D_cr D_cb D_cl D_kl D_col P_all P_jr P_jb P_count P_cells l2 N q_29 hq_29) xv_X4_colourOf lk_X4_106 ⟨(Nat.le_of_ble_eq_true rfl), (Nat.le_of_ble_eq_true rfl)⟩ rfl [0, 1, 2, 3] [4] (nw := 5) (wr := [((b 9), aJ cJ 49 P_near)]) (as := [(b 3), (b 4), (b 7), (b 8), (b 9)]) (ws' := [((b 3), oD (b 4) D_rows D_cols D_cr D_cb D_cl D_kl), ((b 4), aI cI 56 D_col), ((b 7), oP b P_all P_jr P_jb P_count), ((b 8), aJ cJ 49 P_cells), ((b 9), aJ cJ 49 P_near)]) rfl rfl rfl rfl rfl rfl rfl rfl rfl 2 rfl rfl rfl rfl (Nat.le_of_ble_eq_true rfl) dX4_countEqualNeighbours_48 (fun H locs h => ?_)
          refine lv_aload_n hx hb (pc := 51) dX4_countEqualNeighbours_51 rfl (lv_at hl 1 rfl) ?_
          refine lv_iload_n hx hb (pc := 52) dX4_countEqualNeighbours_52 rfl (lv_at hl 4 rfl) ?_
          obtain ⟨q_30, hq_30, hf⟩ := ob_some hf
          refine x_callVi C h (pc := 53) hl (c_pa_colourOf l D cI cJ cZ cO b D_rows D_cols D_cr D_cb D_cl D_kl D_col P_all P_jr P_jb P_count P_cells l3 N q_30 hq_30) xv_X4_colourOf lk_X4_106 ⟨(Nat.le_of_ble_eq_true rfl), (Nat.le_of_ble_eq_true rfl)⟩ rfl [0, 1, 2, 3] [4] (nw := 5) (wr := [((b 9), aJ cJ 49 P_near)]) (as := [(b 3), (b 4), (b 7), (b 8), (b 9)]) (ws' := [((b 3), oD (b 4) D_rows D_cols D_cr D_cb D_cl D_kl), ((b 4), aI cI 56 D_col), ((b 7), oP b P_all P_jr P_jb P_count), ((b 8), aJ cJ 49 P_cells), ((b 9), aJ cJ 49 P_near)]) rfl rfl rfl rfl rfl rfl rfl rfl rfl 2 rfl rfl rfl rfl (Nat.le_of_ble_eq_true rfl) dX4_countEqualNeighbours_53 (fun H locs h => ?_)
          obtain ⟨g_31, hf⟩ := og_some hf
          obtain ⟨g_32, hf⟩ := og_some hf
          refine x_icmpne C (pc := 56) (tgt := 62) g_31 g_32 dX4_countEqualNeighbours_56 rfl (fun hc => ?_) (fun hc => ?_)
          · have hf := oi_f hf hc
            obtain ⟨l3_33, el3_33, hf⟩ := ol_some hf
            refine x_iinc C (pc := 62) (k := 4) (lw' := [(3, iv l3_33), (4, iv r_26), (0, .ref (b 7)), (1, iv l1), (2, iv l2)]) dX4_countEqualNeighbours_62 hl rfl el3_33 (Nat.le_of_ble_eq_true rfl) rfl (fun ls hl => ?_)
            refine lv_goto hx hb (pc := 65) (tgt := 14) dX4_countEqualNeighbours_65 rfl ?_
            have e9 := Option.some.inj hf
            subst e9
            exact Jr_36 _ _ _ (lv_sub hl [2, 3, 4, 0] rfl) h
          · have hf := oi_t hf hc
            obtain ⟨l1_34, el1_34, hf⟩ := ol_some hf
            refine x_iinc C (pc := 59) (k := 2) (lw' := [(1, iv l1_34), (4, iv r_26), (0, .ref (b 7)), (2, iv l2), (3, iv l3)]) dX4_countEqualNeighbours_59 hl rfl el1_34 (Nat.le_of_ble_eq_true rfl) rfl (fun ls hl => ?_)
            obtain ⟨l3_35, el3_35, hf⟩ := ol_some hf
            refine x_iinc C (pc := 62) (k := 4) (lw' := [(3, iv l3_35), (1, iv l1_34), (4, iv r_26), (0, .ref (b 7)), (2, iv l2)]) dX4_countEqualNeighbours_62 hl rfl el3_35 (Nat.le_of_ble_eq_true rfl) rfl (fun ls hl => ?_)
            refine lv_goto hx hb (pc := 65) (tgt := 14) dX4_countEqualNeighbours_65 rfl ?_
            have e9 := Option.some.inj hf
            subst e9
            exact Jr_36 _ _ _ (lv_sub hl [3, 1, 4, 0] rfl) h
      clear hf
      have hf := hrr_26
      refine x_lshl C (pc := 27) g_25 dX4_countEqualNeighbours_27 ?_
      refine x_land C (pc := 28) dX4_countEqualNeighbours_28 ?_
      refine x_lconst C (pc := 29) (x := 0#64) rfl dX4_countEqualNeighbours_29 ?_
      refine x_lcmpeq C (pc := 30) (tgt := 38) dX4_countEqualNeighbours_30 dX4_countEqualNeighbours_31 rfl (fun hc => ?_) (fun hc => ?_)
      · have hf := oi_t hf hc
        refine x_iconst C (pc := 38) dX4_countEqualNeighbours_38 ?_
        have e9 := Option.some.inj hf
        subst e9
        exact Jr_26 _ _ _ (lv_sub hl [0, 1, 2, 3] rfl) h
      · have hf := oi_f hf hc
        refine x_iconst C (pc := 34) dX4_countEqualNeighbours_34 ?_
        refine lv_goto hx hb (pc := 35) (tgt := 39) dX4_countEqualNeighbours_35 rfl ?_
        have e9 := Option.some.inj hf
        subst e9
        exact Jr_26 _ _ _ (lv_sub hl [0, 1, 2, 3] rfl) h
set_option maxHeartbeats 4000000 in
set_option maxRecDepth 100000 in
theorem w_pa_countEqualNeighbours_4 {p : Program} {l : Launch} {e : Env} {s : State} {m : MethodId} {args : Array Value} {below : List Frame} {meth : Method} {c : Code} {Q : State → Prop} {D : va_G} {cI cJ cZ cO : ClassId} {A : Nat → Prop} {H0 : Heap} {w0 : Cond} (C : XC p s m args c cX4_countEqualNeighbours 5 RX4 w0 D (xT cI cJ cZ cO)) (b : Nat → Nat) (D_rows : Int) (D_cols : Int) (D_cr : BitVec 64) (D_cb : BitVec 64) (D_cl : Int) (D_kl : Int) (D_col : Int → Int) (P_all : BitVec 64) (P_jr : BitVec 64) (P_jb : BitVec 64) (P_count : Int) (P_cells : Int → BitVec 64) (P_near : Int → BitVec 64) (Res : Int) (hret : XRI p l e rm_pa_countEqualNeighbours s m args below meth c cX4_countEqualNeighbours D A H0 Q Res [((b 3), oD (b 4) D_rows D_cols D_cr D_cb D_cl D_kl), ((b 4), aI cI 56 D_col), ((b 7), oP b P_all P_jr P_jb P_count), ((b 8), aJ cJ 49 P_cells), ((b 9), aJ cJ 49 P_near)]) (N : Nat) : ∀ (n : Nat) (l1 : Int) (l2 : Int) (ls : Array Slot) (H : Heap) (locs : List Loc), lv_has ls 5 [(0, .ref (b 7)), (1, iv l1), (2, iv l2)] → XH D A H0 [((b 3), oD (b 4) D_rows D_cols D_cr D_cb D_cl D_kl), ((b 4), aI cI 56 D_col), ((b 7), oP b P_all P_jr P_jb P_count), ((b 8), aJ cJ 49 P_cells), ((b 9), aJ cJ 49 P_near)] H locs → f_pa_countEqualNeighbours_4 N D_col P_count P_cells P_near n l1 l2 = some Res → W p l e rm_pa_countEqualNeighbours s m args below meth c H locs 0 0 Q (F0 m 4 ls []) := by
  have hx := C.1.1
  have hb := C.1.2.1
  intro n
  induction n with
  | zero => intro l1 l2 ls H locs hl h hf; cases hf
  | succ n ih =>
    intro l1 l2 ls H locs hl h hf
    rw [f_pa_countEqualNeighbours_4.eq_2] at hf
    refine lv_iload_n hx hb (pc := 4) dX4_countEqualNeighbours_4 rfl (lv_at hl 2 rfl) ?_
    refine lv_aload_n hx hb (pc := 5) dX4_countEqualNeighbours_5 rfl (lv_at hl 0 rfl) ?_
    refine x_get C h (pc := 6) xf_X4_19 2 rfl (v := iv P_count) rfl dX4_countEqualNeighbours_6 ?_
    obtain ⟨g_19, hf⟩ := og_some hf
    obtain ⟨g_20, hf⟩ := og_some hf
    refine x_icmpge C (pc := 9) (tgt := 74) g_19 g_20 dX4_countEqualNeighbours_9 rfl (fun hc => ?_) (fun hc => ?_)
    · have hf := oi_t hf hc
      refine lv_iload_n hx hb (pc := 74) dX4_countEqualNeighbours_74 rfl (lv_at hl 1 rfl) ?_
      have e9 := Option.some.inj hf
      subst e9
      exact hret _ _ _ _ dX4_countEqualNeighbours_75 h
    · have hf := oi_f hf hc
      refine x_iconst C (pc := 12) dX4_countEqualNeighbours_12 ?_
      refine lv_istore_n hx hb (pc := 13) (lv' := [(3, iv 0), (0, .ref (b 7)), (1, iv l1), (2, iv l2)]) dX4_countEqualNeighbours_13 rfl hl (Nat.le_of_ble_eq_true rfl) rfl (fun ls hl => ?_)
      exact w_pa_countEqualNeighbours_14 C b D_rows D_cols D_cr D_cb D_cl D_kl D_col P_all P_jr P_jb P_count P_cells P_near Res hret N l2 (f_pa_countEqualNeighbours_4 N D_col P_count P_cells P_near n) ih N l1 0 _ _ _ (lv_sub hl [1, 2, 3, 0] rfl) h hf
set_option maxHeartbeats 4000000 in
set_option maxRecDepth 100000 in
theorem c_pa_countEqualNeighbours (l : Launch) (D : va_G) (cI cJ cZ cO : ClassId) (b : Nat → Nat) (D_rows : Int) (D_cols : Int) (D_cr : BitVec 64) (D_cb : BitVec 64) (D_cl : Int) (D_kl : Int) (D_col : Int → Int) (P_all : BitVec 64) (P_jr : BitVec 64) (P_jb : BitVec 64) (P_count : Int) (P_cells : Int → BitVec 64) (P_near : Int → BitVec 64) (N : Nat) (Res : Int) (hf : f_pa_countEqualNeighbours N D_col P_count P_cells P_near = some Res) : CoI l D (xT cI cJ cZ cO) yX4_countEqualNeighbours cX4_countEqualNeighbours 5 (some .int) rm_pa_countEqualNeighbours [.ref (b 7)] [((b 3), oD (b 4) D_rows D_cols D_cr D_cb D_cl D_kl), ((b 4), aI cI 56 D_col), ((b 7), oP b P_all P_jr P_jb P_count), ((b 8), aJ cJ 49 P_cells), ((b 9), aJ cJ 49 P_near)] Res [((b 3), oD (b 4) D_rows D_cols D_cr D_cb D_cl D_kl), ((b 4), aI cI 56 D_col), ((b 7), oP b P_all P_jr P_jb P_count), ((b 8), aJ cJ 49 P_cells), ((b 9), aJ cJ 49 P_near)] := by
  refine co_i (by decide) ⟨rfl, rfl⟩ (Nat.le_of_ble_eq_true rfl) ?_
  intro p e s m args below meth c A Q ls C hret hl h
  have hx := C.1.1
  have hb := C.1.2.1
  have hl : lv_has ls 5 [(0, .ref (b 7))] := hl
  unfold f_pa_countEqualNeighbours at hf
  refine x_iconst C (pc := 0) dX4_countEqualNeighbours_0 ?_
  refine lv_istore_n hx hb (pc := 1) (lv' := [(1, iv 0), (0, .ref (b 7))]) dX4_countEqualNeighbours_1 rfl hl (Nat.le_of_ble_eq_true rfl) rfl (fun ls hl => ?_)
  refine x_iconst C (pc := 2) dX4_countEqualNeighbours_2 ?_
  refine lv_istore_n hx hb (pc := 3) (lv' := [(2, iv 0), (1, iv 0), (0, .ref (b 7))]) dX4_countEqualNeighbours_3 rfl hl (Nat.le_of_ble_eq_true rfl) rfl (fun ls hl => ?_)
  exact w_pa_countEqualNeighbours_4 C b D_rows D_cols D_cr D_cb D_cl D_kl D_col P_all P_jr P_jb P_count P_cells P_near Res hret N N 0 0 _ _ _ (lv_sub hl [2, 1, 0] rfl) h hf
abbrev rm_pa_cliqueAmong (d : Nat) : Room := { frames := 1 + d, cells := 0, slots := 0, locals := 24 + 29 * d }
set_option maxHeartbeats 4000000 in
set_option maxRecDepth 100000 in
theorem w_pa_cliqueAmong_13 {p : Program} {l : Launch} {e : Env} {s : State} {m : MethodId} {args : Array Value} {below : List Frame} {meth : Method} {c : Code} {Q : State → Prop} {D : va_G} {cI cJ cZ cO : ClassId} {A : Nat → Prop} {H0 : Heap} {w0 : Cond} {d0 d : Nat} (C : XC p s m args c cX4_cliqueAmong 10 RX4 w0 D (xT cI cJ cZ cO)) (b : Nat → Nat) (P_all : BitVec 64) (P_jr : BitVec 64) (P_jb : BitVec 64) (P_count : Int) (P_near : Int → BitVec 64) (Res : Int) (hret : XRI p l e (rm_pa_cliqueAmong d) s m args below meth c cX4_cliqueAmong D A H0 Q Res [((b 7), oP b P_all P_jr P_jb P_count), ((b 9), aJ cJ 49 P_near)]) (N : Nat) (rc : BitVec 64 → Int → Int → (Int → BitVec 64) → Option (Int)) (hrc : ∀ (l1' : BitVec 64) (l3' : Int) (Res' : Int), rc l1' l3' P_count P_near = some Res' → CoI l D (xT cI cJ cZ cO) yX4_cliqueAmong cX4_cliqueAmong 10 (some .int) (rm_pa_cliqueAmong d0) [.ref (b 7), lv l1', iv l3'] [((b 7), oP b P_all P_jr P_jb P_count), ((b 9), aJ cJ 49 P_near)] Res' [((b 7), oP b P_all P_jr P_jb P_count), ((b 9), aJ cJ 49 P_near)]) (hroom : (rm_pa_cliqueAmong d0).frames + 1 ≤ (rm_pa_cliqueAmong d).frames ∧ 8 + (10 + 11) + (rm_pa_cliqueAmong d0).locals ≤ (rm_pa_cliqueAmong d).locals) (l1 : BitVec 64) (l3 : Int) : ∀ (n : Nat) (l4 : Int) (l5 : Int) (ls : Array Slot) (H : Heap) (locs : List Loc), lv_has ls 10 [(0, .ref (b 7)), (1, lv l1), (3, iv l3), (4, iv l4), (5, iv l5)] → XH D A H0 [((b 7), oP b P_all P_jr P_jb P_count), ((b 9), aJ cJ 49 P_near)] H locs → f_pa_cliqueAmong_13 N rc l1 l3 P_count P_near n l4 l5 = some Res → W p l e (rm_pa_cliqueAmong d) s m args below meth c H locs 0 0 Q (F0 m 13 ls []) := by
  have hx := C.1.1
  have hb := C.1.2.1
  intro n
  induction n with
  | zero => intro l4 l5 ls H locs hl h hf; cases hf
  | succ n ih =>
    intro l4 l5 ls H locs hl h hf
    rw [f_pa_cliqueAmong_13.eq_2] at hf
    refine lv_iload hx hb (pc := 13) dX4_cliqueAmong_13 (lv_at hl 4 rfl) ?_
    refine lv_aload_n hx hb (pc := 15) dX4_cliqueAmong_15 rfl (lv_at hl 0 rfl) ?_
    refine x_get C h (pc := 16) xf_X4_19 0 rfl (v := iv P_count) rfl dX4_cliqueAmong_16 ?_
    obtain ⟨g_2, hf⟩ := og_some hf
    obtain ⟨g_3, hf⟩ := og_some hf
    refine x_icmpge C (pc := 19) (tgt := 79) g_2 g_3 dX4_cliqueAmong_19 rfl (fun hc => ?_) (fun hc => ?_)
    · have hf := oi_t hf hc
      refine lv_iload hx hb (pc := 79) dX4_cliqueAmong_79 (lv_at hl 3 rfl) ?_
      have e9 := Option.some.inj hf
      subst e9
      exact hret _ _ _ _ dX4_cliqueAmong_81 h
    · have hf := oi_f hf hc
      refine lv_lload_n hx hb (pc := 22) dX4_cliqueAmong_22 rfl (lv_at hl 1 rfl) ?_
      refine x_lconst C (pc := 23) (x := 1#64) rfl dX4_cliqueAmong_23 ?_
      refine lv_iload hx hb (pc := 24) dX4_cliqueAmong_24 (lv_at hl 4 rfl) ?_
      obtain ⟨g_4, hf⟩ := og_some hf
      obtain ⟨r_14, hrr_14, hf⟩ := ob_some hf
      have Jr_14 : ∀ (ls : Array Slot) (H : Heap) (locs : List Loc), lv_has ls 10 [(0, .ref (b 7)), (1, lv l1), (3, iv l3), (4, iv r_14.1), (5, iv r_14.2)] → XH D A H0 [((b 7), oP b P_all P_jr P_jb P_count), ((b 9), aJ cJ 49 P_near)] H locs → W p l e (rm_pa_cliqueAmong d) s m args below meth c H locs 0 0 Q (F0 m 13 ls []) := by
        intro ls H locs hl h
        exact ih r_14.1 r_14.2 _ _ _ (lv_sub hl [0, 1, 2, 3, 4] rfl) h hf
      clear hf
      have hf := hrr_14
      refine x_lshl C (pc := 26) g_4 dX4_cliqueAmong_26 ?_
      refine x_land C (pc := 27) dX4_cliqueAmong_27 ?_
      refine x_lconst C (pc := 28) (x := 0#64) rfl dX4_cliqueAmong_28 ?_
      refine x_lcmpeq C (pc := 29) (tgt := 73) dX4_cliqueAmong_29 dX4_cliqueAmong_30 rfl (fun hc => ?_) (fun hc => ?_)
      · have hf := oi_t hf hc
        obtain ⟨l5_5, el5_5, hf⟩ := ol_some hf
        refine x_iinc C (pc := 73) (k := 4) (lw' := [(5, iv l5_5), (0, .ref (b 7)), (1, lv l1), (3, iv l3), (4, iv l4)]) dX4_cliqueAmong_73 hl rfl el5_5 (Nat.le_of_ble_eq_true rfl) rfl (fun ls hl => ?_)
        refine lv_goto hx hb (pc := 76) (tgt := 13) dX4_cliqueAmong_76 rfl ?_
        have e9 := Option.some.inj hf
        subst e9
        exact Jr_14 _ _ _ (lv_sub hl [1, 2, 3, 4, 0] rfl) h
      · have hf := oi_f hf hc
        refine x_lconst C (pc := 33) (x := 1#64) rfl dX4_cliqueAmong_33 ?_
        refine lv_iload hx hb (pc := 34) dX4_cliqueAmong_34 (lv_at hl 4 rfl) ?_
        refine x_lshl C (pc := 36) g_4 dX4_cliqueAmong_36 ?_
        refine x_lconst C (pc := 37) (x := 1#64) rfl dX4_cliqueAmong_37 ?_
        refine x_lsub C (pc := 38) dX4_cliqueAmong_38 ?_
        obtain ⟨l6_6, el6_6, hf⟩ := ol_some hf
        refine x_topl el6_6 ?_
        refine lv_lstore hx hb (pc := 39) (lv' := [(6, lv l6_6), (0, .ref (b 7)), (1, lv l1), (3, iv l3), (4, iv l4), (5, iv l5)]) dX4_cliqueAmong_39 hl (Nat.le_of_ble_eq_true rfl) rfl (fun ls hl => ?_)
        refine lv_lload_n hx hb (pc := 41) dX4_cliqueAmong_41 rfl (lv_at hl 2 rfl) ?_
        refine lv_aload_n hx hb (pc := 42) dX4_cliqueAmong_42 rfl (lv_at hl 1 rfl) ?_
        refine x_get C h (pc := 43) xf_X4_29 0 rfl (v := .ref (b 9)) rfl dX4_cliqueAmong_43 ?_
        refine lv_iload hx hb (pc := 46) dX4_cliqueAmong_46 (lv_at hl 5 rfl) ?_
        obtain ⟨g_7, hf⟩ := og_some hf
        refine x_lald C h (pc := 48) 1 1 rfl rfl (Nat.le_of_ble_eq_true rfl) g_7 dX4_cliqueAmong_48 ?_
        refine x_land C (pc := 49) dX4_cliqueAmong_49 ?_
        refine lv_lload hx hb (pc := 50) dX4_cliqueAmong_50 (lv_at hl 0 rfl) ?_
        refine x_land C (pc := 52) dX4_cliqueAmong_52 ?_
        obtain ⟨l8_8, el8_8, hf⟩ := ol_some hf
        refine x_topl el8_8 ?_
        refine lv_lstore hx hb (pc := 53) (lv' := [(8, lv l8_8), (6, lv l6_6), (0, .ref (b 7)), (1, lv l1), (3, iv l3), (4, iv l4), (5, iv l5)]) dX4_cliqueAmong_53 hl (Nat.le_of_ble_eq_true rfl) rfl (fun ls hl => ?_)
        refine lv_iload hx hb (pc := 55) dX4_cliqueAmong_55 (lv_at hl 5 rfl) ?_
        refine x_iconst C (pc := 57) dX4_cliqueAmong_57 ?_
        refine lv_aload_n hx hb (pc := 58) dX4_cliqueAmong_58 rfl (lv_at hl 2 rfl) ?_
        refine lv_lload hx hb (pc := 59) dX4_cliqueAmong_59 (lv_at hl 0 rfl) ?_
        refine lv_iload_n hx hb (pc := 61) dX4_cliqueAmong_61 rfl (lv_at hl 4 rfl) ?_
        refine x_iconst C (pc := 62) dX4_cliqueAmong_62 ?_
        refine x_iadd C (pc := 63) dX4_cliqueAmong_63 ?_
        obtain ⟨q_9, hq_9, hf⟩ := ob_some hf
        refine x_callVi C h (pc := 64) hl (hrc l8_8 (l3 + 1) q_9 hq_9) xv_X4_cliqueAmong lk_X4_121 (hroom) rfl [0, 1] [] (nw := 2) (wr := []) (as := [(b 7), (b 9)]) (ws' := [((b 7), oP b P_all P_jr P_jb P_count), ((b 9), aJ cJ 49 P_near)]) rfl rfl rfl rfl rfl rfl rfl rfl rfl 0 rfl rfl rfl rfl (Nat.le_of_ble_eq_true rfl) dX4_cliqueAmong_64 (fun H locs h => ?_)
        refine x_iadd C (pc := 67) dX4_cliqueAmong_67 ?_
        obtain ⟨g_10, hf⟩ := og_some hf
        obtain ⟨g_11, hf⟩ := og_some hf
        refine x_mmax C (pc := 68) hl lk_X4_125 ⟨Nat.le_add_right 1 _, Nat.le_trans (m := 24) (Nat.le_of_ble_eq_true rfl) (Nat.le_add_right _ _)⟩ (Nat.zero_le _) (Nat.zero_le _) g_10 g_11 dX4_cliqueAmong_68 ?_
        obtain ⟨l4_12, el4_12, hf⟩ := ol_some hf
        refine x_topi el4_12 ?_
        refine lv_istore hx hb (pc := 71) (lv' := [(4, iv l4_12), (8, lv l8_8), (6, lv l6_6), (0, .ref (b 7)), (1, lv l1), (3, iv l3), (5, iv l5)]) dX4_cliqueAmong_71 hl (Nat.le_of_ble_eq_true rfl) rfl (fun ls hl => ?_)
        obtain ⟨l5_13, el5_13, hf⟩ := ol_some hf
        refine x_iinc C (pc := 73) (k := 6) (lw' := [(5, iv l5_13), (4, iv l4_12), (8, lv l8_8), (6, lv l6_6), (0, .ref (b 7)), (1, lv l1), (3, iv l3)]) dX4_cliqueAmong_73 hl rfl el5_13 (Nat.le_of_ble_eq_true rfl) rfl (fun ls hl => ?_)
        refine lv_goto hx hb (pc := 76) (tgt := 13) dX4_cliqueAmong_76 rfl ?_
        have e9 := Option.some.inj hf
        subst e9
        exact Jr_14 _ _ _ (lv_sub hl [4, 5, 6, 1, 0] rfl) h
set_option maxHeartbeats 4000000 in
set_option maxRecDepth 100000 in
theorem c_pa_cliqueAmong_d (l : Launch) (D : va_G) (cI cJ cZ cO : ClassId) (b : Nat → Nat) (P_all : BitVec 64) (P_jr : BitVec 64) (P_jb : BitVec 64) (P_count : Int) (P_near : Int → BitVec 64) (N : Nat) : ∀ (dd : Nat) (l1 : BitVec 64) (l3 : Int) (Res : Int), f_pa_cliqueAmong N dd l1 l3 P_count P_near = some Res → CoI l D (xT cI cJ cZ cO) yX4_cliqueAmong cX4_cliqueAmong 10 (some .int) (rm_pa_cliqueAmong dd) [.ref (b 7), lv l1, iv l3] [((b 7), oP b P_all P_jr P_jb P_count), ((b 9), aJ cJ 49 P_near)] Res [((b 7), oP b P_all P_jr P_jb P_count), ((b 9), aJ cJ 49 P_near)] := by
  intro dd
  induction dd with
  | zero => intro l1 l3 Res hf; cases hf
  | succ d0 ihd =>
    intro l1 l3 Res hf
    rw [f_pa_cliqueAmong.eq_2] at hf
    refine co_i (by decide) ⟨rfl, rfl⟩ (Nat.le_of_ble_eq_true rfl) ?_
    intro p e s m args below meth c A Q ls C hret hl h
    have hx := C.1.1
    have hb := C.1.2.1
    have hl : lv_has ls 10 [(0, .ref (b 7)), (1, lv l1), (3, iv l3)] := hl
    have hrc := ihd
    have hroom : (rm_pa_cliqueAmong d0).frames + 1 ≤ (rm_pa_cliqueAmong (d0 + 1)).frames ∧ 8 + (10 + 11) + (rm_pa_cliqueAmong d0).locals ≤ (rm_pa_cliqueAmong (d0 + 1)).locals := by simp only [rm_pa_cliqueAmong]; omega
    generalize hrcd : f_pa_cliqueAmong N d0 = rc at hf hrc
    refine lv_iload_n hx hb (pc := 0) dX4_cliqueAmong_0 rfl (lv_at hl 2 rfl) ?_
    refine x_iconst C (pc := 1) dX4_cliqueAmong_1 ?_
    obtain ⟨g_1, hf⟩ := og_some hf
    refine x_icmplt C (pc := 2) (tgt := 7) g_1 ⟨by decide, by decide⟩ dX4_cliqueAmong_2 rfl (fun hc => ?_) (fun hc => ?_)
    · have hf := oi_t hf hc
      refine x_iconst C (pc := 7) dX4_cliqueAmong_7 ?_
      refine lv_istore hx hb (pc := 8) (lv' := [(4, iv 0), (0, .ref (b 7)), (1, lv l1), (3, iv l3)]) dX4_cliqueAmong_8 hl (Nat.le_of_ble_eq_true rfl) rfl (fun ls hl => ?_)
      refine x_iconst C (pc := 10) dX4_cliqueAmong_10 ?_
      refine lv_istore hx hb (pc := 11) (lv' := [(5, iv 0), (4, iv 0), (0, .ref (b 7)), (1, lv l1), (3, iv l3)]) dX4_cliqueAmong_11 hl (Nat.le_of_ble_eq_true rfl) rfl (fun ls hl => ?_)
      exact w_pa_cliqueAmong_13 C b P_all P_jr P_jb P_count P_near Res hret N rc hrc hroom l1 l3 N 0 0 _ _ _ (lv_sub hl [2, 3, 4, 1, 0] rfl) h hf
    · have hf := oi_f hf hc
      refine x_iconst C (pc := 5) dX4_cliqueAmong_5 ?_
      have e9 := Option.some.inj hf
      subst e9
      exact hret _ _ _ _ dX4_cliqueAmong_6 h
theorem c_pa_cliqueAmong (l : Launch) (D : va_G) (cI cJ cZ cO : ClassId) (b : Nat → Nat) (P_all : BitVec 64) (P_jr : BitVec 64) (P_jb : BitVec 64) (P_count : Int) (P_near : Int → BitVec 64) (l1 : BitVec 64) (l3 : Int) (N : Nat) (Res : Int) (hf : f_pa_cliqueAmong N 6 l1 l3 P_count P_near = some Res) : CoI l D (xT cI cJ cZ cO) yX4_cliqueAmong cX4_cliqueAmong 10 (some .int) (rm_pa_cliqueAmong 6) [.ref (b 7), lv l1, iv l3] [((b 7), oP b P_all P_jr P_jb P_count), ((b 9), aJ cJ 49 P_near)] Res [((b 7), oP b P_all P_jr P_jb P_count), ((b 9), aJ cJ 49 P_near)] := c_pa_cliqueAmong_d l D cI cJ cZ cO b P_all P_jr P_jb P_count P_near N 6 l1 l3 Res hf
abbrev rm_pa_measureClique : Room := { frames := 8, cells := 0, slots := 0, locals := 227 }
set_option maxHeartbeats 4000000 in
set_option maxRecDepth 100000 in
theorem c_pa_measureClique (l : Launch) (D : va_G) (cI cJ cZ cO : ClassId) (b : Nat → Nat) (P_all : BitVec 64) (P_jr : BitVec 64) (P_jb : BitVec 64) (P_count : Int) (P_near : Int → BitVec 64) (N : Nat) (Res : Int) (hf : f_pa_measureClique N P_count P_near = some Res) : CoI l D (xT cI cJ cZ cO) yX4_measureClique cX4_measureClique 1 (some .int) rm_pa_measureClique [.ref (b 7)] [((b 7), oP b P_all P_jr P_jb P_count), ((b 9), aJ cJ 49 P_near)] Res [((b 7), oP b P_all P_jr P_jb P_count), ((b 9), aJ cJ 49 P_near)] := by
  refine co_i (by decide) ⟨rfl, rfl⟩ (Nat.le_of_ble_eq_true rfl) ?_
  intro p e s m args below meth c A Q ls C hret hl h
  have hx := C.1.1
  have hb := C.1.2.1
  have hl : lv_has ls 1 [(0, .ref (b 7))] := hl
  unfold f_pa_measureClique at hf
  refine lv_aload_n hx hb (pc := 0) dX4_measureClique_0 rfl (lv_at hl 0 rfl) ?_
  refine lv_aload_n hx hb (pc := 1) dX4_measureClique_1 rfl (lv_at hl 0 rfl) ?_
  obtain ⟨q_1, hq_1, hf⟩ := ob_some hf
  refine x_callVl C h (pc := 2) hl (c_pa_everyPane l D cI cJ cZ cO b P_all P_jr P_jb P_count N q_1 hq_1) xv_X4_everyPane lk_X4_117 ⟨(Nat.le_of_ble_eq_true rfl), (Nat.le_of_ble_eq_true rfl)⟩ rfl [0] [1] (nw := 2) (wr := [((b 9), aJ cJ 49 P_near)]) (as := [(b 7), (b 9)]) (ws' := [((b 7), oP b P_all P_jr P_jb P_count), ((b 9), aJ cJ 49 P_near)]) rfl rfl rfl rfl rfl rfl rfl rfl rfl 0 rfl rfl rfl rfl (Nat.le_of_ble_eq_true rfl) dX4_measureClique_2 (fun H locs h => ?_)
  refine x_iconst C (pc := 5) dX4_measureClique_5 ?_
  obtain ⟨q_2, hq_2, hf⟩ := ob_some hf
  refine x_callVi C h (pc := 6) hl (c_pa_cliqueAmong l D cI cJ cZ cO b P_all P_jr P_jb P_count P_near q_1 0 N q_2 hq_2) xv_X4_cliqueAmong lk_X4_121 ⟨(Nat.le_of_ble_eq_true rfl), (Nat.le_of_ble_eq_true rfl)⟩ rfl [0, 1] [] (nw := 2) (wr := []) (as := [(b 7), (b 9)]) (ws' := [((b 7), oP b P_all P_jr P_jb P_count), ((b 9), aJ cJ 49 P_near)]) rfl rfl rfl rfl rfl rfl rfl rfl rfl 0 rfl rfl rfl rfl (Nat.le_of_ble_eq_true rfl) dX4_measureClique_6 (fun H locs h => ?_)
  have e9 := Option.some.inj hf
  subst e9
  exact hret _ _ _ _ dX4_measureClique_9 h
