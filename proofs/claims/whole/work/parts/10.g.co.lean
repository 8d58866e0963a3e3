abbrev rm_co_hasOrder : Room := { frames := 0, cells := 0, slots := 0, locals := 0 }
set_option maxHeartbeats 4000000 in
set_option maxRecDepth 100000 in
theorem c_co_hasOrder (l : Launch) (D : va_G) (cI cJ cZ cO : ClassId) (b : Nat → Nat) (l1 : Int) (N : Nat) (Res : Int) (hf : f_co_hasOrder N l1 = some Res) : CoI l D (xT cI cJ cZ cO) yX1_hasOrder cX1_hasOrder 2 (some .boolean) rm_co_hasOrder [.ref (b 13), iv l1] [] Res [] := by
  refine co_z (by decide) ⟨rfl, rfl⟩ (Nat.le_of_ble_eq_true rfl) ?_
  intro p e s m args below meth c A Q ls C hret hl h
  have hx := C.1.1
  have hb := C.1.2.1
  have hl : lv_has ls 2 [(0, .ref (b 13)), (1, iv l1)] := hl
  unfold f_co_hasOrder at hf
  refine lv_iload_n hx hb (pc := 0) dX1_hasOrder_0 rfl (lv_at hl 1 rfl) ?_
  obtain ⟨g_1, hf⟩ := og_some hf
  refine x_iflt C (pc := 1) (tgt := 13) g_1 dX1_hasOrder_1 rfl (fun hc => ?_) (fun hc => ?_)
  · have hf := oi_t hf hc
    refine x_iconst C (pc := 13) dX1_hasOrder_13 ?_
    have e9 := Option.some.inj hf
    subst e9
    exact hret _ _ _ _ (Or.inl rfl) dX1_hasOrder_14 h
  · have hf := oi_f hf hc
    refine lv_iload_n hx hb (pc := 4) dX1_hasOrder_4 rfl (lv_at hl 1 rfl) ?_
    refine x_iconst C (pc := 5) dX1_hasOrder_5 ?_
    refine x_icmpge C (pc := 6) (tgt := 13) g_1 ⟨by decide, by decide⟩ dX1_hasOrder_6 rfl (fun hc => ?_) (fun hc => ?_)
    · have hf := oi_t hf hc
      refine x_iconst C (pc := 13) dX1_hasOrder_13 ?_
      have e9 := Option.some.inj hf
      subst e9
      exact hret _ _ _ _ (Or.inl rfl) dX1_hasOrder_14 h
    · have hf := oi_f hf hc
      refine x_iconst C (pc := 9) dX1_hasOrder_9 ?_
      refine lv_goto hx hb (pc := 10) (tgt := 14) dX1_hasOrder_10 rfl ?_
      have e9 := Option.some.inj hf
      subst e9
      exact hret _ _ _ _ (Or.inr rfl) dX1_hasOrder_14 h
abbrev rm_co_arrangeByNumber : Room := { frames := 0, cells := 0, slots := 0, locals := 0 }
set_option maxHeartbeats 4000000 in
set_option maxRecDepth 100000 in
theorem w_co_arrangeByNumber_2 {p : Program} {l : Launch} {e : Env} {s : State} {m : MethodId} {args : Array Value} {below : List Frame} {meth : Method} {c : Code} {Q : State → Prop} {D : va_G} {cI cJ cZ cO : ClassId} {A : Nat → Prop} {H0 : Heap} {w0 : Cond} (C : XC p s m args c cX1_arrangeByNumber 2 RX1 w0 D (xT cI cJ cZ cO)) (b : Nat → Nat) (P_all : BitVec 64) (P_jr : BitVec 64) (P_jb : BitVec 64) (P_count : Int) (Res : (Int → Int)) (hret : XRV p l e rm_co_arrangeByNumber s m args below meth c cX1_arrangeByNumber D A H0 Q [((b 7), oP b P_all P_jr P_jb P_count), ((b 13), oC b), ((b 14), aI cI 49 Res)]) (N : Nat) : ∀ (n : Nat) (l1 : Int) (C_seq : Int → Int) (ls : Array Slot) (H : Heap) (locs : List Loc), lv_has ls 2 [(0, .ref (b 13)), (1, iv l1)] → XH D A H0 [((b 7), oP b P_all P_jr P_jb P_count), ((b 13), oC b), ((b 14), aI cI 49 C_seq)] H locs → f_co_arrangeByNumber_2 N P_count n l1 C_seq = some Res → W p l e rm_co_arrangeByNumber s m args below meth c H locs 0 0 Q (F0 m 2 ls []) := by
  have hx := C.1.1
  have hb := C.1.2.1
  intro n
  induction n with
  | zero => intro l1 C_seq ls H locs hl h hf; cases hf
  | succ n ih =>
    intro l1 C_seq ls H locs hl h hf
    rw [f_co_arrangeByNumber_2.eq_2] at hf
    refine lv_iload_n hx hb (pc := 2) dX1_arrangeByNumber_2 rfl (lv_at hl 1 rfl) ?_
    refine lv_aload_n hx hb (pc := 3) dX1_arrangeByNumber_3 rfl (lv_at hl 0 rfl) ?_
    refine x_get C h (pc := 4) xf_X1_18 1 rfl (v := .ref (b 7)) rfl dX1_arrangeByNumber_4 ?_
    refine x_get C h (pc := 7) xf_X1_31 0 rfl (v := iv P_count) rfl dX1_arrangeByNumber_7 ?_
    obtain ⟨g_1, hf⟩ := og_some hf
    obtain ⟨g_2, hf⟩ := og_some hf
    refine x_icmpge C (pc := 10) (tgt := 26) g_1 g_2 dX1_arrangeByNumber_10 rfl (fun hc => ?_) (fun hc => ?_)
    · have hf := oi_t hf hc
      have e9 := Option.some.inj hf
      subst e9
      exact hret _ _ _ _ dX1_arrangeByNumber_26 h
    · have hf := oi_f hf hc
      refine lv_aload_n hx hb (pc := 13) dX1_arrangeByNumber_13 rfl (lv_at hl 0 rfl) ?_
      refine x_get C h (pc := 14) xf_X1_9 1 rfl (v := .ref (b 14)) rfl dX1_arrangeByNumber_14 ?_
      refine lv_iload_n hx hb (pc := 17) dX1_arrangeByNumber_17 rfl (lv_at hl 1 rfl) ?_
      refine lv_iload_n hx hb (pc := 18) dX1_arrangeByNumber_18 rfl (lv_at hl 1 rfl) ?_
      obtain ⟨g_3, hf⟩ := og_some hf
      obtain ⟨C_seq_4, eC_seq_4, hf⟩ := ol_some hf
      refine x_iast C h (pc := 19) (ws' := [((b 7), oP b P_all P_jr P_jb P_count), ((b 13), oC b), ((b 14), aI cI 49 C_seq_4)]) 2 0 rfl rfl (Nat.le_of_ble_eq_true rfl) g_3 eC_seq_4 rfl dX1_arrangeByNumber_19 (fun H locs h => ?_)
      obtain ⟨l1_5, el1_5, hf⟩ := ol_some hf
      refine x_iinc C (pc := 20) (k := 1) (lw' := [(1, iv l1_5), (0, .ref (b 13))]) dX1_arrangeByNumber_20 hl rfl el1_5 (Nat.le_of_ble_eq_true rfl) rfl (fun ls hl => ?_)
      refine lv_goto hx hb (pc := 23) (tgt := 2) dX1_arrangeByNumber_23 rfl ?_
      exact ih l1_5 C_seq_4 _ _ _ (lv_sub hl [1, 0] rfl) h hf
set_option maxHeartbeats 4000000 in
set_option maxRecDepth 100000 in
theorem c_co_arrangeByNumber (l : Launch) (D : va_G) (cI cJ cZ cO : ClassId) (b : Nat → Nat) (P_all : BitVec 64) (P_jr : BitVec 64) (P_jb : BitVec 64) (P_count : Int) (C_seq : Int → Int) (N : Nat) (Res : (Int → Int)) (hf : f_co_arrangeByNumber N P_count C_seq = some Res) : CoV l D (xT cI cJ cZ cO) yX1_arrangeByNumber cX1_arrangeByNumber 2 none rm_co_arrangeByNumber [.ref (b 13)] [((b 7), oP b P_all P_jr P_jb P_count), ((b 13), oC b), ((b 14), aI cI 49 C_seq)] [((b 7), oP b P_all P_jr P_jb P_count), ((b 13), oC b), ((b 14), aI cI 49 Res)] := by
  refine co_v (by decide) ⟨rfl, rfl⟩ (Nat.le_of_ble_eq_true rfl) ?_
  intro p e s m args below meth c A Q ls C hret hl h
  have hx := C.1.1
  have hb := C.1.2.1
  have hl : lv_has ls 2 [(0, .ref (b 13))] := hl
  unfold f_co_arrangeByNumber at hf
  refine x_iconst C (pc := 0) dX1_arrangeByNumber_0 ?_
  refine lv_istore_n hx hb (pc := 1) (lv' := [(1, iv 0), (0, .ref (b 13))]) dX1_arrangeByNumber_1 rfl hl (Nat.le_of_ble_eq_true rfl) rfl (fun ls hl => ?_)
  exact w_co_arrangeByNumber_2 C b P_all P_jr P_jb P_count Res hret N N 0 C_seq _ _ _ (lv_sub hl [1, 0] rfl) h hf
abbrev rm_co_mostNeighbours : Room := { frames := 1, cells := 0, slots := 0, locals := 21 }
set_option maxHeartbeats 4000000 in
set_option maxRecDepth 100000 in
theorem w_co_mostNeighbours_8 {p : Program} {l : Launch} {e : Env} {s : State} {m : MethodId} {args : Array Value} {below : List Frame} {meth : Method} {c : Code} {Q : State → Prop} {D : va_G} {cI cJ cZ cO : ClassId} {A : Nat → Prop} {H0 : Heap} {w0 : Cond} (C : XC p s m args c cX1_mostNeighbours 7 RX1 w0 D (xT cI cJ cZ cO)) (b : Nat → Nat) (P_all : BitVec 64) (P_jr : BitVec 64) (P_jb : BitVec 64) (P_count : Int) (P_near : Int → BitVec 64) (Res : Int) (hret : XRI p l e rm_co_mostNeighbours s m args below meth c cX1_mostNeighbours D A H0 Q Res [((b 7), oP b P_all P_jr P_jb P_count), ((b 9), aJ cJ 49 P_near), ((b 13), oC b)]) (N : Nat) (l1 : BitVec 64) : ∀ (n : Nat) (l3 : Int) (l4 : Int) (l5 : Int) (ls : Array Slot) (H : Heap) (locs : List Loc), lv_has ls 7 [(0, .ref (b 13)), (1, lv l1), (3, iv l3), (4, iv l4), (5, iv l5)] → XH D A H0 [((b 7), oP b P_all P_jr P_jb P_count), ((b 9), aJ cJ 49 P_near), ((b 13), oC b)] H locs → f_co_mostNeighbours_8 N l1 P_count P_near n l3 l4 l5 = some Res → W p l e rm_co_mostNeighbours s m args below meth c H locs 0 0 Q (F0 m 8 ls []) := by
  have hx := C.1.1
  have hb := C.1.2.1
  intro n
  induction n with
  | zero => intro l3 l4 l5 ls H locs hl h hf; cases hf
  | succ n ih =>
    intro l3 l4 l5 ls H locs hl h hf
    rw [f_co_mostNeighbours_8.eq_2] at hf
    refine lv_iload hx hb (pc := 8) dX1_mostNeighbours_8 (lv_at hl 4 rfl) ?_
    refine lv_aload_n hx hb (pc := 10) dX1_mostNeighbours_10 rfl (lv_at hl 0 rfl) ?_
    refine x_get C h (pc := 11) xf_X1_18 2 rfl (v := .ref (b 7)) rfl dX1_mostNeighbours_11 ?_
    refine x_get C h (pc := 14) xf_X1_31 0 rfl (v := iv P_count) rfl dX1_mostNeighbours_14 ?_
    obtain ⟨g_1, hf⟩ := og_some hf
    obtain ⟨g_2, hf⟩ := og_some hf
    refine x_icmpge C (pc := 17) (tgt := 66) g_1 g_2 dX1_mostNeighbours_17 rfl (fun hc => ?_) (fun hc => ?_)
    · have hf := oi_t hf hc
      refine lv_iload_n hx hb (pc := 66) dX1_mostNeighbours_66 rfl (lv_at hl 2 rfl) ?_
      have e9 := Option.some.inj hf
      subst e9
      exact hret _ _ _ _ dX1_mostNeighbours_67 h
    · have hf := oi_f hf hc
      refine lv_aload_n hx hb (pc := 20) dX1_mostNeighbours_20 rfl (lv_at hl 0 rfl) ?_
      refine x_get C h (pc := 21) xf_X1_18 2 rfl (v := .ref (b 7)) rfl dX1_mostNeighbours_21 ?_
      refine x_get C h (pc := 24) xf_X1_47 0 rfl (v := .ref (b 9)) rfl dX1_mostNeighbours_24 ?_
      refine lv_iload hx hb (pc := 27) dX1_mostNeighbours_27 (lv_at hl 4 rfl) ?_
      obtain ⟨g_3, hf⟩ := og_some hf
      refine x_lald C h (pc := 29) 1 1 rfl rfl (Nat.le_of_ble_eq_true rfl) g_3 dX1_mostNeighbours_29 ?_
      refine x_callSi C h (pc := 30) hl (c_popc l D (xT cI cJ cZ cO) (P_near l5)) xs_J13_bitCount_95d88 lk_X1_41 ⟨(Nat.le_of_ble_eq_true rfl), (Nat.le_of_ble_eq_true rfl)⟩ rfl [] [0, 1, 2] (nw := 3) (wr := [((b 7), oP b P_all P_jr P_jb P_count), ((b 9), aJ cJ 49 P_near), ((b 13), oC b)]) (as := [(b 7), (b 9), (b 13)]) (ws' := [((b 7), oP b P_all P_jr P_jb P_count), ((b 9), aJ cJ 49 P_near), ((b 13), oC b)]) rfl rfl rfl rfl rfl rfl rfl rfl rfl rfl (Nat.le_of_ble_eq_true rfl) dX1_mostNeighbours_30 (fun H locs h => ?_)
      obtain ⟨l6_4, el6_4, hf⟩ := ol_some hf
      refine x_topi el6_4 ?_
      refine lv_istore hx hb (pc := 33) (lv' := [(6, iv l6_4), (0, .ref (b 13)), (1, lv l1), (3, iv l3), (4, iv l4), (5, iv l5)]) dX1_mostNeighbours_33 hl (Nat.le_of_ble_eq_true rfl) rfl (fun ls hl => ?_)
      refine lv_lload_n hx hb (pc := 35) dX1_mostNeighbours_35 rfl (lv_at hl 2 rfl) ?_
      refine x_lconst C (pc := 36) (x := 1#64) rfl dX1_mostNeighbours_36 ?_
      refine lv_iload hx hb (pc := 37) dX1_mostNeighbours_37 (lv_at hl 5 rfl) ?_
      obtain ⟨g_5, hf⟩ := og_some hf
      obtain ⟨r_11, hrr_11, hf⟩ := ob_some hf
      have Jr_11 : ∀ (ls : Array Slot) (H : Heap) (locs : List Loc), lv_has ls 7 [(0, .ref (b 13)), (1, lv l1), (3, iv r_11.1), (4, iv r_11.2.1), (5, iv r_11.2.2)] → XH D A H0 [((b 7), oP b P_all P_jr P_jb P_count), ((b 9), aJ cJ 49 P_near), ((b 13), oC b)] H locs → W p l e rm_co_mostNeighbours s m args below meth c H locs 0 0 Q (F0 m 8 ls []) := by
        intro ls H locs hl h
        exact ih r_11.1 r_11.2.1 r_11.2.2 _ _ _ (lv_sub hl [0, 1, 2, 3, 4] rfl) h hf
      clear hf
      have hf := hrr_11
      refine x_lshl C (pc := 39) g_5 dX1_mostNeighbours_39 ?_
      refine x_land C (pc := 40) dX1_mostNeighbours_40 ?_
      refine x_lconst C (pc := 41) (x := 0#64) rfl dX1_mostNeighbours_41 ?_
      refine x_lcmpeq C (pc := 42) (tgt := 60) dX1_mostNeighbours_42 dX1_mostNeighbours_43 rfl (fun hc => ?_) (fun hc => ?_)
      · have hf := oi_t hf hc
        obtain ⟨l5_6, el5_6, hf⟩ := ol_some hf
        refine x_iinc C (pc := 60) (k := 5) (lw' := [(5, iv l5_6), (6, iv l6_4), (0, .ref (b 13)), (1, lv l1), (3, iv l3), (4, iv l4)]) dX1_mostNeighbours_60 hl rfl el5_6 (Nat.le_of_ble_eq_true rfl) rfl (fun ls hl => ?_)
        refine lv_goto hx hb (pc := 63) (tgt := 8) dX1_mostNeighbours_63 rfl ?_
        have e9 := Option.some.inj hf
        subst e9
        exact Jr_11 _ _ _ (lv_sub hl [2, 3, 4, 5, 0] rfl) h
      · have hf := oi_f hf hc
        refine lv_iload hx hb (pc := 46) dX1_mostNeighbours_46 (lv_at hl 0 rfl) ?_
        refine lv_iload hx hb (pc := 48) dX1_mostNeighbours_48 (lv_at hl 4 rfl) ?_
        obtain ⟨g_7, hf⟩ := og_some hf
        obtain ⟨g_8, hf⟩ := og_some hf
        refine x_icmple C (pc := 50) (tgt := 60) g_7 g_8 dX1_mostNeighbours_50 rfl (fun hc => ?_) (fun hc => ?_)
        · have hf := oi_t hf hc
          obtain ⟨l5_9, el5_9, hf⟩ := ol_some hf
          refine x_iinc C (pc := 60) (k := 5) (lw' := [(5, iv l5_9), (6, iv l6_4), (0, .ref (b 13)), (1, lv l1), (3, iv l3), (4, iv l4)]) dX1_mostNeighbours_60 hl rfl el5_9 (Nat.le_of_ble_eq_true rfl) rfl (fun ls hl => ?_)
          refine lv_goto hx hb (pc := 63) (tgt := 8) dX1_mostNeighbours_63 rfl ?_
          have e9 := Option.some.inj hf
          subst e9
          exact Jr_11 _ _ _ (lv_sub hl [2, 3, 4, 5, 0] rfl) h
        · have hf := oi_f hf hc
          refine lv_iload hx hb (pc := 53) dX1_mostNeighbours_53 (lv_at hl 5 rfl) ?_
          refine lv_istore_n hx hb (pc := 55) (lv' := [(3, iv l5), (6, iv l6_4), (0, .ref (b 13)), (1, lv l1), (4, iv l4), (5, iv l5)]) dX1_mostNeighbours_55 rfl hl (Nat.le_of_ble_eq_true rfl) rfl (fun ls hl => ?_)
          refine lv_iload hx hb (pc := 56) dX1_mostNeighbours_56 (lv_at hl 1 rfl) ?_
          refine lv_istore hx hb (pc := 58) (lv' := [(4, iv l6_4), (3, iv l5), (6, iv l6_4), (0, .ref (b 13)), (1, lv l1), (5, iv l5)]) dX1_mostNeighbours_58 hl (Nat.le_of_ble_eq_true rfl) rfl (fun ls hl => ?_)
          obtain ⟨l5_10, el5_10, hf⟩ := ol_some hf
          refine x_iinc C (pc := 60) (k := 5) (lw' := [(5, iv l5_10), (4, iv l6_4), (3, iv l5), (6, iv l6_4), (0, .ref (b 13)), (1, lv l1)]) dX1_mostNeighbours_60 hl rfl el5_10 (Nat.le_of_ble_eq_true rfl) rfl (fun ls hl => ?_)
          refine lv_goto hx hb (pc := 63) (tgt := 8) dX1_mostNeighbours_63 rfl ?_
          have e9 := Option.some.inj hf
          subst e9
          exact Jr_11 _ _ _ (lv_sub hl [4, 5, 2, 1, 0] rfl) h
set_option maxHeartbeats 4000000 in
set_option maxRecDepth 100000 in
theorem c_co_mostNeighbours (l : Launch) (D : va_G) (cI cJ cZ cO : ClassId) (b : Nat → Nat) (P_all : BitVec 64) (P_jr : BitVec 64) (P_jb : BitVec 64) (P_count : Int) (P_near : Int → BitVec 64) (l1 : BitVec 64) (N : Nat) (Res : Int) (hf : f_co_mostNeighbours N l1 P_count P_near = some Res) : CoI l D (xT cI cJ cZ cO) yX1_mostNeighbours cX1_mostNeighbours 7 (some .int) rm_co_mostNeighbours [.ref (b 13), lv l1] [((b 7), oP b P_all P_jr P_jb P_count), ((b 9), aJ cJ 49 P_near), ((b 13), oC b)] Res [((b 7), oP b P_all P_jr P_jb P_count), ((b 9), aJ cJ 49 P_near), ((b 13), oC b)] := by
  refine co_i (by decide) ⟨rfl, rfl⟩ (Nat.le_of_ble_eq_true rfl) ?_
  intro p e s m args below meth c A Q ls C hret hl h
  have hx := C.1.1
  have hb := C.1.2.1
  have hl : lv_has ls 7 [(0, .ref (b 13)), (1, lv l1)] := hl
  unfold f_co_mostNeighbours at hf
  refine x_iconst C (pc := 0) dX1_mostNeighbours_0 ?_
  refine lv_istore_n hx hb (pc := 1) (lv' := [(3, iv 0), (0, .ref (b 13)), (1, lv l1)]) dX1_mostNeighbours_1 rfl hl (Nat.le_of_ble_eq_true rfl) rfl (fun ls hl => ?_)
  refine x_iconst C (pc := 2) dX1_mostNeighbours_2 ?_
  refine lv_istore hx hb (pc := 3) (lv' := [(4, iv (-1)), (3, iv 0), (0, .ref (b 13)), (1, lv l1)]) dX1_mostNeighbours_3 hl (Nat.le_of_ble_eq_true rfl) rfl (fun ls hl => ?_)
  refine x_iconst C (pc := 5) dX1_mostNeighbours_5 ?_
  refine lv_istore hx hb (pc := 6) (lv' := [(5, iv 0), (4, iv (-1)), (3, iv 0), (0, .ref (b 13)), (1, lv l1)]) dX1_mostNeighbours_6 hl (Nat.le_of_ble_eq_true rfl) rfl (fun ls hl => ?_)
  exact w_co_mostNeighbours_8 C b P_all P_jr P_jb P_count P_near Res hret N l1 N 0 (-1) 0 _ _ _ (lv_sub hl [3, 4, 2, 1, 0] rfl) h hf
abbrev rm_co_arrangeByNeighbours : Room := { frames := 2, cells := 0, slots := 0, locals := 47 }
set_option maxHeartbeats 4000000 in
set_option maxRecDepth 100000 in
theorem w_co_arrangeByNeighbours_10 {p : Program} {l : Launch} {e : Env} {s : State} {m : MethodId} {args : Array Value} {below : List Frame} {meth : Method} {c : Code} {Q : State → Prop} {D : va_G} {cI cJ cZ cO : ClassId} {A : Nat → Prop} {H0 : Heap} {w0 : Cond} (C : XC p s m args c cX1_arrangeByNeighbours 4 RX1 w0 D (xT cI cJ cZ cO)) (b : Nat → Nat) (P_all : BitVec 64) (P_jr : BitVec 64) (P_jb : BitVec 64) (P_count : Int) (P_near : Int → BitVec 64) (Res : (Int → Int)) (hret : XRV p l e rm_co_arrangeByNeighbours s m args below meth c cX1_arrangeByNeighbours D A H0 Q [((b 7), oP b P_all P_jr P_jb P_count), ((b 9), aJ cJ 49 P_near), ((b 13), oC b), ((b 14), aI cI 49 Res)]) (N : Nat) : ∀ (n : Nat) (l1 : BitVec 64) (l3 : Int) (C_seq : Int → Int) (ls : Array Slot) (H : Heap) (locs : List Loc), lv_has ls 4 [(0, .ref (b 13)), (1, lv l1), (3, iv l3)] → XH D A H0 [((b 7), oP b P_all P_jr P_jb P_count), ((b 9), aJ cJ 49 P_near), ((b 13), oC b), ((b 14), aI cI 49 C_seq)] H locs → f_co_arrangeByNeighbours_10 N P_count P_near n l1 l3 C_seq = some Res → W p l e rm_co_arrangeByNeighbours s m args below meth c H locs 0 0 Q (F0 m 10 ls []) := by
  have hx := C.1.1
  have hb := C.1.2.1
  intro n
  induction n with
  | zero => intro l1 l3 C_seq ls H locs hl h hf; cases hf
  | succ n ih =>
    intro l1 l3 C_seq ls H locs hl h hf
    rw [f_co_arrangeByNeighbours_10.eq_2] at hf
    refine lv_iload_n hx hb (pc := 10) dX1_arrangeByNeighbours_10 rfl (lv_at hl 2 rfl) ?_
    refine lv_aload_n hx hb (pc := 11) dX1_arrangeByNeighbours_11 rfl (lv_at hl 0 rfl) ?_
    refine x_get C h (pc := 12) xf_X1_18 2 rfl (v := .ref (b 7)) rfl dX1_arrangeByNeighbours_12 ?_
    refine x_get C h (pc := 15) xf_X1_31 0 rfl (v := iv P_count) rfl dX1_arrangeByNeighbours_15 ?_
    obtain ⟨g_2, hf⟩ := og_some hf
    obtain ⟨g_3, hf⟩ := og_some hf
    refine x_icmpge C (pc := 18) (tgt := 53) g_2 g_3 dX1_arrangeByNeighbours_18 rfl (fun hc => ?_) (fun hc => ?_)
    · have hf := oi_t hf hc
      have e9 := Option.some.inj hf
      subst e9
      exact hret _ _ _ _ dX1_arrangeByNeighbours_53 h
    · have hf := oi_f hf hc
      refine lv_aload_n hx hb (pc := 21) dX1_arrangeByNeighbours_21 rfl (lv_at hl 0 rfl) ?_
      refine x_get C h (pc := 22) xf_X1_9 2 rfl (v := .ref (b 14)) rfl dX1_arrangeByNeighbours_22 ?_
      refine lv_iload_n hx hb (pc := 25) dX1_arrangeByNeighbours_25 rfl (lv_at hl 2 rfl) ?_
      refine lv_aload_n hx hb (pc := 26) dX1_arrangeByNeighbours_26 rfl (lv_at hl 0 rfl) ?_
      refine lv_lload_n hx hb (pc := 27) dX1_arrangeByNeighbours_27 rfl (lv_at hl 1 rfl) ?_
      obtain ⟨q_4, hq_4, hf⟩ := ob_some hf
      refine x_callVi C h (pc := 28) hl (c_co_mostNeighbours l D cI cJ cZ cO b P_all P_jr P_jb P_count P_near l1 N q_4 hq_4) xv_X1_mostNeighbours lk_X1_60 ⟨(Nat.le_of_ble_eq_true rfl), (Nat.le_of_ble_eq_true rfl)⟩ rfl [0, 1, 2] [3] (nw := 4) (wr := [((b 14), aI cI 49 C_seq)]) (as := [(b 7), (b 9), (b 13), (b 14)]) (ws' := [((b 7), oP b P_all P_jr P_jb P_count), ((b 9), aJ cJ 49 P_near), ((b 13), oC b), ((b 14), aI cI 49 C_seq)]) rfl rfl rfl rfl rfl rfl rfl rfl rfl 2 rfl rfl rfl rfl (Nat.le_of_ble_eq_true rfl) dX1_arrangeByNeighbours_28 (fun H locs h => ?_)
      obtain ⟨g_5, hf⟩ := og_some hf
      obtain ⟨C_seq_6, eC_seq_6, hf⟩ := ol_some hf
      refine x_iast C h (pc := 31) (ws' := [((b 7), oP b P_all P_jr P_jb P_count), ((b 9), aJ cJ 49 P_near), ((b 13), oC b), ((b 14), aI cI 49 C_seq_6)]) 3 0 rfl rfl (Nat.le_of_ble_eq_true rfl) g_5 eC_seq_6 rfl dX1_arrangeByNeighbours_31 (fun H locs h => ?_)
      refine lv_lload_n hx hb (pc := 32) dX1_arrangeByNeighbours_32 rfl (lv_at hl 1 rfl) ?_
      refine x_lconst C (pc := 33) (x := 1#64) rfl dX1_arrangeByNeighbours_33 ?_
      refine lv_aload_n hx hb (pc := 34) dX1_arrangeByNeighbours_34 rfl (lv_at hl 0 rfl) ?_
      refine x_get C h (pc := 35) xf_X1_9 2 rfl (v := .ref (b 14)) rfl dX1_arrangeByNeighbours_35 ?_
      refine lv_iload_n hx hb (pc := 38) dX1_arrangeByNeighbours_38 rfl (lv_at hl 2 rfl) ?_
      refine x_iald C h (pc := 39) 3 0 rfl rfl (Nat.le_of_ble_eq_true rfl) g_5 dX1_arrangeByNeighbours_39 ?_
      obtain ⟨g_7, hf⟩ := og_some hf
      refine x_lshl C (pc := 40) g_7 dX1_arrangeByNeighbours_40 ?_
      refine x_ldc2 C (pc := 41) (x := 18446744073709551615#64) wk_X1_51 (by decide) dX1_arrangeByNeighbours_41 ?_
      refine x_lxor C (pc := 44) dX1_arrangeByNeighbours_44 ?_
      refine x_land C (pc := 45) dX1_arrangeByNeighbours_45 ?_
      obtain ⟨l1_8, el1_8, hf⟩ := ol_some hf
      refine x_topl el1_8 ?_
      refine lv_lstore_n hx hb (pc := 46) (lv' := [(1, lv l1_8), (0, .ref (b 13)), (3, iv l3)]) dX1_arrangeByNeighbours_46 rfl hl (Nat.le_of_ble_eq_true rfl) rfl (fun ls hl => ?_)
      obtain ⟨l3_9, el3_9, hf⟩ := ol_some hf
      refine x_iinc C (pc := 47) (k := 2) (lw' := [(3, iv l3_9), (1, lv l1_8), (0, .ref (b 13))]) dX1_arrangeByNeighbours_47 hl rfl el3_9 (Nat.le_of_ble_eq_true rfl) rfl (fun ls hl => ?_)
      refine lv_goto hx hb (pc := 50) (tgt := 10) dX1_arrangeByNeighbours_50 rfl ?_
      exact ih l1_8 l3_9 C_seq_6 _ _ _ (lv_sub hl [2, 1, 0] rfl) h hf
set_option maxHeartbeats 4000000 in
set_option maxRecDepth 100000 in
theorem c_co_arrangeByNeighbours (l : Launch) (D : va_G) (cI cJ cZ cO : ClassId) (b : Nat → Nat) (P_all : BitVec 64) (P_jr : BitVec 64) (P_jb : BitVec 64) (P_count : Int) (P_near : Int → BitVec 64) (C_seq : Int → Int) (N : Nat) (Res : (Int → Int)) (hf : f_co_arrangeByNeighbours N P_count P_near C_seq = some Res) : CoV l D (xT cI cJ cZ cO) yX1_arrangeByNeighbours cX1_arrangeByNeighbours 4 none rm_co_arrangeByNeighbours [.ref (b 13)] [((b 7), oP b P_all P_jr P_jb P_count), ((b 9), aJ cJ 49 P_near), ((b 13), oC b), ((b 14), aI cI 49 C_seq)] [((b 7), oP b P_all P_jr P_jb P_count), ((b 9), aJ cJ 49 P_near), ((b 13), oC b), ((b 14), aI cI 49 Res)] := by
  refine co_v (by decide) ⟨rfl, rfl⟩ (Nat.le_of_ble_eq_true rfl) ?_
  intro p e s m args below meth c A Q ls C hret hl h
  have hx := C.1.1
  have hb := C.1.2.1
  have hl : lv_has ls 4 [(0, .ref (b 13))] := hl
  unfold f_co_arrangeByNeighbours at hf
  refine lv_aload_n hx hb (pc := 0) dX1_arrangeByNeighbours_0 rfl (lv_at hl 0 rfl) ?_
  refine x_get C h (pc := 1) xf_X1_18 2 rfl (v := .ref (b 7)) rfl dX1_arrangeByNeighbours_1 ?_
  obtain ⟨q_1, hq_1, hf⟩ := ob_some hf
  refine x_callVl C h (pc := 4) hl (c_pa_everyPane l D cI cJ cZ cO b P_all P_jr P_jb P_count N q_1 hq_1) xv_X4_everyPane lk_X1_56 ⟨(Nat.le_of_ble_eq_true rfl), (Nat.le_of_ble_eq_true rfl)⟩ rfl [0] [1, 2, 3] (nw := 4) (wr := [((b 9), aJ cJ 49 P_near), ((b 13), oC b), ((b 14), aI cI 49 C_seq)]) (as := [(b 7), (b 9), (b 13), (b 14)]) (ws' := [((b 7), oP b P_all P_jr P_jb P_count), ((b 9), aJ cJ 49 P_near), ((b 13), oC b), ((b 14), aI cI 49 C_seq)]) rfl rfl rfl rfl rfl rfl rfl rfl rfl 0 rfl rfl rfl rfl (Nat.le_of_ble_eq_true rfl) dX1_arrangeByNeighbours_4 (fun H locs h => ?_)
  refine lv_lstore_n hx hb (pc := 7) (lv' := [(1, lv q_1), (0, .ref (b 13))]) dX1_arrangeByNeighbours_7 rfl hl (Nat.le_of_ble_eq_true rfl) rfl (fun ls hl => ?_)
  refine x_iconst C (pc := 8) dX1_arrangeByNeighbours_8 ?_
  refine lv_istore_n hx hb (pc := 9) (lv' := [(3, iv 0), (1, lv q_1), (0, .ref (b 13))]) dX1_arrangeByNeighbours_9 rfl hl (Nat.le_of_ble_eq_true rfl) rfl (fun ls hl => ?_)
  exact w_co_arrangeByNeighbours_10 C b P_all P_jr P_jb P_count P_near Res hret N N q_1 0 C_seq _ _ _ (lv_sub hl [2, 1, 0] rfl) h hf
abbrev rm_co_fewestNeighboursAmong : Room := { frames := 1, cells := 0, slots := 0, locals := 21 }
set_option maxHeartbeats 4000000 in
set_option maxRecDepth 100000 in
theorem w_co_fewestNeighboursAmong_9 {p : Program} {l : Launch} {e : Env} {s : State} {m : MethodId} {args : Array Value} {below : List Frame} {meth : Method} {c : Code} {Q : State → Prop} {D : va_G} {cI cJ cZ cO : ClassId} {A : Nat → Prop} {H0 : Heap} {w0 : Cond} (C : XC p s m args c cX1_fewestNeighboursAmong 7 RX1 w0 D (xT cI cJ cZ cO)) (b : Nat → Nat) (P_all : BitVec 64) (P_jr : BitVec 64) (P_jb : BitVec 64) (P_count : Int) (P_near : Int → BitVec 64) (Res : Int) (hret : XRI p l e rm_co_fewestNeighboursAmong s m args below meth c cX1_fewestNeighboursAmong D A H0 Q Res [((b 7), oP b P_all P_jr P_jb P_count), ((b 9), aJ cJ 49 P_near), ((b 13), oC b)]) (N : Nat) (l1 : BitVec 64) : ∀ (n : Nat) (l3 : Int) (l4 : Int) (l5 : Int) (ls : Array Slot) (H : Heap) (locs : List Loc), lv_has ls 7 [(0, .ref (b 13)), (1, lv l1), (3, iv l3), (4, iv l4), (5, iv l5)] → XH D A H0 [((b 7), oP b P_all P_jr P_jb P_count), ((b 9), aJ cJ 49 P_near), ((b 13), oC b)] H locs → f_co_fewestNeighboursAmong_9 N l1 P_count P_near n l3 l4 l5 = some Res → W p l e rm_co_fewestNeighboursAmong s m args below meth c H locs 0 0 Q (F0 m 9 ls []) := by
  have hx := C.1.1
  have hb := C.1.2.1
  intro n
  induction n with
  | zero => intro l3 l4 l5 ls H locs hl h hf; cases hf
  | succ n ih =>
    intro l3 l4 l5 ls H locs hl h hf
    rw [f_co_fewestNeighboursAmong_9.eq_2] at hf
    refine lv_iload hx hb (pc := 9) dX1_fewestNeighboursAmong_9 (lv_at hl 4 rfl) ?_
    refine lv_aload_n hx hb (pc := 11) dX1_fewestNeighboursAmong_11 rfl (lv_at hl 0 rfl) ?_
    refine x_get C h (pc := 12) xf_X1_18 2 rfl (v := .ref (b 7)) rfl dX1_fewestNeighboursAmong_12 ?_
    refine x_get C h (pc := 15) xf_X1_31 0 rfl (v := iv P_count) rfl dX1_fewestNeighboursAmong_15 ?_
    obtain ⟨g_1, hf⟩ := og_some hf
    obtain ⟨g_2, hf⟩ := og_some hf
    refine x_icmpge C (pc := 18) (tgt := 69) g_1 g_2 dX1_fewestNeighboursAmong_18 rfl (fun hc => ?_) (fun hc => ?_)
    · have hf := oi_t hf hc
      refine lv_iload_n hx hb (pc := 69) dX1_fewestNeighboursAmong_69 rfl (lv_at hl 2 rfl) ?_
      have e9 := Option.some.inj hf
      subst e9
      exact hret _ _ _ _ dX1_fewestNeighboursAmong_70 h
    · have hf := oi_f hf hc
      refine lv_aload_n hx hb (pc := 21) dX1_fewestNeighboursAmong_21 rfl (lv_at hl 0 rfl) ?_
      refine x_get C h (pc := 22) xf_X1_18 2 rfl (v := .ref (b 7)) rfl dX1_fewestNeighboursAmong_22 ?_
      refine x_get C h (pc := 25) xf_X1_47 0 rfl (v := .ref (b 9)) rfl dX1_fewestNeighboursAmong_25 ?_
      refine lv_iload hx hb (pc := 28) dX1_fewestNeighboursAmong_28 (lv_at hl 4 rfl) ?_
      obtain ⟨g_3, hf⟩ := og_some hf
      refine x_lald C h (pc := 30) 1 1 rfl rfl (Nat.le_of_ble_eq_true rfl) g_3 dX1_fewestNeighboursAmong_30 ?_
      refine lv_lload_n hx hb (pc := 31) dX1_fewestNeighboursAmong_31 rfl (lv_at hl 1 rfl) ?_
      refine x_land C (pc := 32) dX1_fewestNeighboursAmong_32 ?_
      refine x_callSi C h (pc := 33) hl (c_popc l D (xT cI cJ cZ cO) ((P_near l5) &&& l1)) xs_J13_bitCount_95d88 lk_X1_41 ⟨(Nat.le_of_ble_eq_true rfl), (Nat.le_of_ble_eq_true rfl)⟩ rfl [] [0, 1, 2] (nw := 3) (wr := [((b 7), oP b P_all P_jr P_jb P_count), ((b 9), aJ cJ 49 P_near), ((b 13), oC b)]) (as := [(b 7), (b 9), (b 13)]) (ws' := [((b 7), oP b P_all P_jr P_jb P_count), ((b 9), aJ cJ 49 P_near), ((b 13), oC b)]) rfl rfl rfl rfl rfl rfl rfl rfl rfl rfl (Nat.le_of_ble_eq_true rfl) dX1_fewestNeighboursAmong_33 (fun H locs h => ?_)
      obtain ⟨l6_4, el6_4, hf⟩ := ol_some hf
      refine x_topi el6_4 ?_
      refine lv_istore hx hb (pc := 36) (lv' := [(6, iv l6_4), (0, .ref (b 13)), (1, lv l1), (3, iv l3), (4, iv l4), (5, iv l5)]) dX1_fewestNeighboursAmong_36 hl (Nat.le_of_ble_eq_true rfl) rfl (fun ls hl => ?_)
      refine lv_lload_n hx hb (pc := 38) dX1_fewestNeighboursAmong_38 rfl (lv_at hl 2 rfl) ?_
      refine x_lconst C (pc := 39) (x := 1#64) rfl dX1_fewestNeighboursAmong_39 ?_
      refine lv_iload hx hb (pc := 40) dX1_fewestNeighboursAmong_40 (lv_at hl 5 rfl) ?_
      obtain ⟨g_5, hf⟩ := og_some hf
      obtain ⟨r_11, hrr_11, hf⟩ := ob_some hf
      have Jr_11 : ∀ (ls : Array Slot) (H : Heap) (locs : List Loc), lv_has ls 7 [(0, .ref (b 13)), (1, lv l1), (3, iv r_11.1), (4, iv r_11.2.1), (5, iv r_11.2.2)] → XH D A H0 [((b 7), oP b P_all P_jr P_jb P_count), ((b 9), aJ cJ 49 P_near), ((b 13), oC b)] H locs → W p l e rm_co_fewestNeighboursAmong s m args below meth c H locs 0 0 Q (F0 m 9 ls []) := by
        intro ls H locs hl h
        exact ih r_11.1 r_11.2.1 r_11.2.2 _ _ _ (lv_sub hl [0, 1, 2, 3, 4] rfl) h hf
      clear hf
      have hf := hrr_11
      refine x_lshl C (pc := 42) g_5 dX1_fewestNeighboursAmong_42 ?_
      refine x_land C (pc := 43) dX1_fewestNeighboursAmong_43 ?_
      refine x_lconst C (pc := 44) (x := 0#64) rfl dX1_fewestNeighboursAmong_44 ?_
      refine x_lcmpeq C (pc := 45) (tgt := 63) dX1_fewestNeighboursAmong_45 dX1_fewestNeighboursAmong_46 rfl (fun hc => ?_) (fun hc => ?_)
      · have hf := oi_t hf hc
        obtain ⟨l5_6, el5_6, hf⟩ := ol_some hf
        refine x_iinc C (pc := 63) (k := 5) (lw' := [(5, iv l5_6), (6, iv l6_4), (0, .ref (b 13)), (1, lv l1), (3, iv l3), (4, iv l4)]) dX1_fewestNeighboursAmong_63 hl rfl el5_6 (Nat.le_of_ble_eq_true rfl) rfl (fun ls hl => ?_)
        refine lv_goto hx hb (pc := 66) (tgt := 9) dX1_fewestNeighboursAmong_66 rfl ?_
        have e9 := Option.some.inj hf
        subst e9
        exact Jr_11 _ _ _ (lv_sub hl [2, 3, 4, 5, 0] rfl) h
      · have hf := oi_f hf hc
        refine lv_iload hx hb (pc := 49) dX1_fewestNeighboursAmong_49 (lv_at hl 0 rfl) ?_
        refine lv_iload hx hb (pc := 51) dX1_fewestNeighboursAmong_51 (lv_at hl 4 rfl) ?_
        obtain ⟨g_7, hf⟩ := og_some hf
        obtain ⟨g_8, hf⟩ := og_some hf
        refine x_icmpge C (pc := 53) (tgt := 63) g_7 g_8 dX1_fewestNeighboursAmong_53 rfl (fun hc => ?_) (fun hc => ?_)
        · have hf := oi_t hf hc
          obtain ⟨l5_9, el5_9, hf⟩ := ol_some hf
          refine x_iinc C (pc := 63) (k := 5) (lw' := [(5, iv l5_9), (6, iv l6_4), (0, .ref (b 13)), (1, lv l1), (3, iv l3), (4, iv l4)]) dX1_fewestNeighboursAmong_63 hl rfl el5_9 (Nat.le_of_ble_eq_true rfl) rfl (fun ls hl => ?_)
          refine lv_goto hx hb (pc := 66) (tgt := 9) dX1_fewestNeighboursAmong_66 rfl ?_
          have e9 := Option.some.inj hf
          subst e9
          exact Jr_11 _ _ _ (lv_sub hl [2, 3, 4, 5, 0] rfl) h
        · have hf := oi_f hf hc
          refine lv_iload hx hb (pc := 56) dX1_fewestNeighboursAmong_56 (lv_at hl 5 rfl) ?_
          refine lv_istore_n hx hb (pc := 58) (lv' := [(3, iv l5), (6, iv l6_4), (0, .ref (b 13)), (1, lv l1), (4, iv l4), (5, iv l5)]) dX1_fewestNeighboursAmong_58 rfl hl (Nat.le_of_ble_eq_true rfl) rfl (fun ls hl => ?_)
          refine lv_iload hx hb (pc := 59) dX1_fewestNeighboursAmong_59 (lv_at hl 1 rfl) ?_
          refine lv_istore hx hb (pc := 61) (lv' := [(4, iv l6_4), (3, iv l5), (6, iv l6_4), (0, .ref (b 13)), (1, lv l1), (5, iv l5)]) dX1_fewestNeighboursAmong_61 hl (Nat.le_of_ble_eq_true rfl) rfl (fun ls hl => ?_)
          obtain ⟨l5_10, el5_10, hf⟩ := ol_some hf
          refine x_iinc C (pc := 63) (k := 5) (lw' := [(5, iv l5_10), (4, iv l6_4), (3, iv l5), (6, iv l6_4), (0, .ref (b 13)), (1, lv l1)]) dX1_fewestNeighboursAmong_63 hl rfl el5_10 (Nat.le_of_ble_eq_true rfl) rfl (fun ls hl => ?_)
          refine lv_goto hx hb (pc := 66) (tgt := 9) dX1_fewestNeighboursAmong_66 rfl ?_
          have e9 := Option.some.inj hf
          subst e9
          exact Jr_11 _ _ _ (lv_sub hl [4, 5, 2, 1, 0] rfl) h
set_option maxHeartbeats 4000000 in
set_option maxRecDepth 100000 in
theorem c_co_fewestNeighboursAmong (l : Launch) (D : va_G) (cI cJ cZ cO : ClassId) (b : Nat → Nat) (P_all : BitVec 64) (P_jr : BitVec 64) (P_jb : BitVec 64) (P_count : Int) (P_near : Int → BitVec 64) (l1 : BitVec 64) (N : Nat) (Res : Int) (hf : f_co_fewestNeighboursAmong N l1 P_count P_near = some Res) : CoI l D (xT cI cJ cZ cO) yX1_fewestNeighboursAmong cX1_fewestNeighboursAmong 7 (some .int) rm_co_fewestNeighboursAmong [.ref (b 13), lv l1] [((b 7), oP b P_all P_jr P_jb P_count), ((b 9), aJ cJ 49 P_near), ((b 13), oC b)] Res [((b 7), oP b P_all P_jr P_jb P_count), ((b 9), aJ cJ 49 P_near), ((b 13), oC b)] := by
  refine co_i (by decide) ⟨rfl, rfl⟩ (Nat.le_of_ble_eq_true rfl) ?_
  intro p e s m args below meth c A Q ls C hret hl h
  have hx := C.1.1
  have hb := C.1.2.1
  have hl : lv_has ls 7 [(0, .ref (b 13)), (1, lv l1)] := hl
  unfold f_co_fewestNeighboursAmong at hf
  refine x_iconst C (pc := 0) dX1_fewestNeighboursAmong_0 ?_
  refine lv_istore_n hx hb (pc := 1) (lv' := [(3, iv 0), (0, .ref (b 13)), (1, lv l1)]) dX1_fewestNeighboursAmong_1 rfl hl (Nat.le_of_ble_eq_true rfl) rfl (fun ls hl => ?_)
  refine x_bipush C (pc := 2) dX1_fewestNeighboursAmong_2 (by decide) ?_
  refine lv_istore hx hb (pc := 4) (lv' := [(4, iv 49), (3, iv 0), (0, .ref (b 13)), (1, lv l1)]) dX1_fewestNeighboursAmong_4 hl (Nat.le_of_ble_eq_true rfl) rfl (fun ls hl => ?_)
  refine x_iconst C (pc := 6) dX1_fewestNeighboursAmong_6 ?_
  refine lv_istore hx hb (pc := 7) (lv' := [(5, iv 0), (4, iv 49), (3, iv 0), (0, .ref (b 13)), (1, lv l1)]) dX1_fewestNeighboursAmong_7 hl (Nat.le_of_ble_eq_true rfl) rfl (fun ls hl => ?_)
  exact w_co_fewestNeighboursAmong_9 C b P_all P_jr P_jb P_count P_near Res hret N l1 N 0 49 0 _ _ _ (lv_sub hl [3, 4, 2, 1, 0] rfl) h hf
abbrev rm_co_arrangeByRemoval : Room := { frames := 2, cells := 0, slots := 0, locals := 47 }
set_option maxHeartbeats 4000000 in
set_option maxRecDepth 100000 in
theorem w_co_arrangeByRemoval_18 {p : Program} {l : Launch} {e : Env} {s : State} {m : MethodId} {args : Array Value} {below : List Frame} {meth : Method} {c : Code} {Q : State → Prop} {D : va_G} {cI cJ cZ cO : ClassId} {A : Nat → Prop} {H0 : Heap} {w0 : Cond} (C : XC p s m args c cX1_arrangeByRemoval 4 RX1 w0 D (xT cI cJ cZ cO)) (b : Nat → Nat) (P_all : BitVec 64) (P_jr : BitVec 64) (P_jb : BitVec 64) (P_count : Int) (P_near : Int → BitVec 64) (Res : (Int → Int)) (hret : XRV p l e rm_co_arrangeByRemoval s m args below meth c cX1_arrangeByRemoval D A H0 Q [((b 7), oP b P_all P_jr P_jb P_count), ((b 9), aJ cJ 49 P_near), ((b 13), oC b), ((b 14), aI cI 49 Res)]) (N : Nat) : ∀ (n : Nat) (l1 : BitVec 64) (l3 : Int) (C_seq : Int → Int) (ls : Array Slot) (H : Heap) (locs : List Loc), lv_has ls 4 [(0, .ref (b 13)), (1, lv l1), (3, iv l3)] → XH D A H0 [((b 7), oP b P_all P_jr P_jb P_count), ((b 9), aJ cJ 49 P_near), ((b 13), oC b), ((b 14), aI cI 49 C_seq)] H locs → f_co_arrangeByRemoval_18 N P_count P_near n l1 l3 C_seq = some Res → W p l e rm_co_arrangeByRemoval s m args below meth c H locs 0 0 Q (F0 m 18 ls []) := by
  have hx := C.1.1
  have hb := C.1.2.1
  intro n
  induction n with
  | zero => intro l1 l3 C_seq ls H locs hl h hf; cases hf
  | succ n ih =>
    intro l1 l3 C_seq ls H locs hl h hf
    rw [f_co_arrangeByRemoval_18.eq_2] at hf
    refine lv_iload_n hx hb (pc := 18) dX1_arrangeByRemoval_18 rfl (lv_at hl 2 rfl) ?_
    obtain ⟨g_3, hf⟩ := og_some hf
    refine x_iflt C (pc := 19) (tgt := 54) g_3 dX1_arrangeByRemoval_19 rfl (fun hc => ?_) (fun hc => ?_)
    · have hf := oi_t hf hc
      have e9 := Option.some.inj hf
      subst e9
      exact hret _ _ _ _ dX1_arrangeByRemoval_54 h
    · have hf := oi_f hf hc
      refine lv_aload_n hx hb (pc := 22) dX1_arrangeByRemoval_22 rfl (lv_at hl 0 rfl) ?_
      refine x_get C h (pc := 23) xf_X1_9 2 rfl (v := .ref (b 14)) rfl dX1_arrangeByRemoval_23 ?_
      refine lv_iload_n hx hb (pc := 26) dX1_arrangeByRemoval_26 rfl (lv_at hl 2 rfl) ?_
      refine lv_aload_n hx hb (pc := 27) dX1_arrangeByRemoval_27 rfl (lv_at hl 0 rfl) ?_
      refine lv_lload_n hx hb (pc := 28) dX1_arrangeByRemoval_28 rfl (lv_at hl 1 rfl) ?_
      obtain ⟨q_4, hq_4, hf⟩ := ob_some hf
      refine x_callVi C h (pc := 29) hl (c_co_fewestNeighboursAmong l D cI cJ cZ cO b P_all P_jr P_jb P_count P_near l1 N q_4 hq_4) xv_X1_fewestNeighboursAmong lk_X1_63 ⟨(Nat.le_of_ble_eq_true rfl), (Nat.le_of_ble_eq_true rfl)⟩ rfl [0, 1, 2] [3] (nw := 4) (wr := [((b 14), aI cI 49 C_seq)]) (as := [(b 7), (b 9), (b 13), (b 14)]) (ws' := [((b 7), oP b P_all P_jr P_jb P_count), ((b 9), aJ cJ 49 P_near), ((b 13), oC b), ((b 14), aI cI 49 C_seq)]) rfl rfl rfl rfl rfl rfl rfl rfl rfl 2 rfl rfl rfl rfl (Nat.le_of_ble_eq_true rfl) dX1_arrangeByRemoval_29 (fun H locs h => ?_)
      obtain ⟨g_5, hf⟩ := og_some hf
      obtain ⟨C_seq_6, eC_seq_6, hf⟩ := ol_some hf
      refine x_iast C h (pc := 32) (ws' := [((b 7), oP b P_all P_jr P_jb P_count), ((b 9), aJ cJ 49 P_near), ((b 13), oC b), ((b 14), aI cI 49 C_seq_6)]) 3 0 rfl rfl (Nat.le_of_ble_eq_true rfl) g_5 eC_seq_6 rfl dX1_arrangeByRemoval_32 (fun H locs h => ?_)
      refine lv_lload_n hx hb (pc := 33) dX1_arrangeByRemoval_33 rfl (lv_at hl 1 rfl) ?_
      refine x_lconst C (pc := 34) (x := 1#64) rfl dX1_arrangeByRemoval_34 ?_
      refine lv_aload_n hx hb (pc := 35) dX1_arrangeByRemoval_35 rfl (lv_at hl 0 rfl) ?_
      refine x_get C h (pc := 36) xf_X1_9 2 rfl (v := .ref (b 14)) rfl dX1_arrangeByRemoval_36 ?_
      refine lv_iload_n hx hb (pc := 39) dX1_arrangeByRemoval_39 rfl (lv_at hl 2 rfl) ?_
      refine x_iald C h (pc := 40) 3 0 rfl rfl (Nat.le_of_ble_eq_true rfl) g_5 dX1_arrangeByRemoval_40 ?_
      obtain ⟨g_7, hf⟩ := og_some hf
      refine x_lshl C (pc := 41) g_7 dX1_arrangeByRemoval_41 ?_
      refine x_ldc2 C (pc := 42) (x := 18446744073709551615#64) wk_X1_51 (by decide) dX1_arrangeByRemoval_42 ?_
      refine x_lxor C (pc := 45) dX1_arrangeByRemoval_45 ?_
      refine x_land C (pc := 46) dX1_arrangeByRemoval_46 ?_
      obtain ⟨l1_8, el1_8, hf⟩ := ol_some hf
      refine x_topl el1_8 ?_
      refine lv_lstore_n hx hb (pc := 47) (lv' := [(1, lv l1_8), (0, .ref (b 13)), (3, iv l3)]) dX1_arrangeByRemoval_47 rfl hl (Nat.le_of_ble_eq_true rfl) rfl (fun ls hl => ?_)
      obtain ⟨l3_9, el3_9, hf⟩ := ol_some hf
      refine x_iinc C (pc := 48) (k := 2) (lw' := [(3, iv l3_9), (1, lv l1_8), (0, .ref (b 13))]) dX1_arrangeByRemoval_48 hl rfl el3_9 (Nat.le_of_ble_eq_true rfl) rfl (fun ls hl => ?_)
      refine lv_goto hx hb (pc := 51) (tgt := 18) dX1_arrangeByRemoval_51 rfl ?_
      exact ih l1_8 l3_9 C_seq_6 _ _ _ (lv_sub hl [2, 1, 0] rfl) h hf
set_option maxHeartbeats 4000000 in
set_option maxRecDepth 100000 in
theorem c_co_arrangeByRemoval (l : Launch) (D : va_G) (cI cJ cZ cO : ClassId) (b : Nat → Nat) (P_all : BitVec 64) (P_jr : BitVec 64) (P_jb : BitVec 64) (P_count : Int) (P_near : Int → BitVec 64) (C_seq : Int → Int) (N : Nat) (Res : (Int → Int)) (hf : f_co_arrangeByRemoval N P_count P_near C_seq = some Res) : CoV l D (xT cI cJ cZ cO) yX1_arrangeByRemoval cX1_arrangeByRemoval 4 none rm_co_arrangeByRemoval [.ref (b 13)] [((b 7), oP b P_all P_jr P_jb P_count), ((b 9), aJ cJ 49 P_near), ((b 13), oC b), ((b 14), aI cI 49 C_seq)] [((b 7), oP b P_all P_jr P_jb P_count), ((b 9), aJ cJ 49 P_near), ((b 13), oC b), ((b 14), aI cI 49 Res)] := by
  refine co_v (by decide) ⟨rfl, rfl⟩ (Nat.le_of_ble_eq_true rfl) ?_
  intro p e s m args below meth c A Q ls C hret hl h
  have hx := C.1.1
  have hb := C.1.2.1
  have hl : lv_has ls 4 [(0, .ref (b 13))] := hl
  unfold f_co_arrangeByRemoval at hf
  refine lv_aload_n hx hb (pc := 0) dX1_arrangeByRemoval_0 rfl (lv_at hl 0 rfl) ?_
  refine x_get C h (pc := 1) xf_X1_18 2 rfl (v := .ref (b 7)) rfl dX1_arrangeByRemoval_1 ?_
  obtain ⟨q_1, hq_1, hf⟩ := ob_some hf
  refine x_callVl C h (pc := 4) hl (c_pa_everyPane l D cI cJ cZ cO b P_all P_jr P_jb P_count N q_1 hq_1) xv_X4_everyPane lk_X1_56 ⟨(Nat.le_of_ble_eq_true rfl), (Nat.le_of_ble_eq_true rfl)⟩ rfl [0] [1, 2, 3] (nw := 4) (wr := [((b 9), aJ cJ 49 P_near), ((b 13), oC b), ((b 14), aI cI 49 C_seq)]) (as := [(b 7), (b 9), (b 13), (b 14)]) (ws' := [((b 7), oP b P_all P_jr P_jb P_count), ((b 9), aJ cJ 49 P_near), ((b 13), oC b), ((b 14), aI cI 49 C_seq)]) rfl rfl rfl rfl rfl rfl rfl rfl rfl 0 rfl rfl rfl rfl (Nat.le_of_ble_eq_true rfl) dX1_arrangeByRemoval_4 (fun H locs h => ?_)
  refine lv_lstore_n hx hb (pc := 7) (lv' := [(1, lv q_1), (0, .ref (b 13))]) dX1_arrangeByRemoval_7 rfl hl (Nat.le_of_ble_eq_true rfl) rfl (fun ls hl => ?_)
  refine lv_aload_n hx hb (pc := 8) dX1_arrangeByRemoval_8 rfl (lv_at hl 1 rfl) ?_
  refine x_get C h (pc := 9) xf_X1_18 2 rfl (v := .ref (b 7)) rfl dX1_arrangeByRemoval_9 ?_
  refine x_get C h (pc := 12) xf_X1_31 0 rfl (v := iv P_count) rfl dX1_arrangeByRemoval_12 ?_
  refine x_iconst C (pc := 15) dX1_arrangeByRemoval_15 ?_
  refine x_isub C (pc := 16) dX1_arrangeByRemoval_16 ?_
  obtain ⟨l3_2, el3_2, hf⟩ := ol_some hf
  refine x_topi el3_2 ?_
  refine lv_istore_n hx hb (pc := 17) (lv' := [(3, iv l3_2), (1, lv q_1), (0, .ref (b 13))]) dX1_arrangeByRemoval_17 rfl hl (Nat.le_of_ble_eq_true rfl) rfl (fun ls hl => ?_)
  exact w_co_arrangeByRemoval_18 C b P_all P_jr P_jb P_count P_near Res hret N N q_1 l3_2 C_seq _ _ _ (lv_sub hl [2, 1, 0] rfl) h hf
abbrev rm_co_smallestFree : Room := { frames := 2, cells := 0, slots := 0, locals := 42 }
set_option maxHeartbeats 4000000 in
set_option maxRecDepth 100000 in
theorem w_co_smallestFree_5 {p : Program} {l : Launch} {e : Env} {s : State} {m : MethodId} {args : Array Value} {below : List Frame} {meth : Method} {c : Code} {Q : State → Prop} {D : va_G} {cI cJ cZ cO : ClassId} {A : Nat → Prop} {H0 : Heap} {w0 : Cond} (C : XC p s m args c cX1_smallestFree 6 RX1 w0 D (xT cI cJ cZ cO)) (b : Nat → Nat) (P_all : BitVec 64) (P_jr : BitVec 64) (P_jb : BitVec 64) (P_count : Int) (P_near : Int → BitVec 64) (C_given : Int → Int) (Res : Int) (hret : XRI p l e rm_co_smallestFree s m args below meth c cX1_smallestFree D A H0 Q Res [((b 7), oP b P_all P_jr P_jb P_count), ((b 9), aJ cJ 49 P_near), ((b 13), oC b), ((b 15), aI cI 49 C_given)]) (N : Nat) (l1 : Int) : ∀ (n : Nat) (l2 : BitVec 64) (l4 : Int) (ls : Array Slot) (H : Heap) (locs : List Loc), lv_has ls 6 [(0, .ref (b 13)), (1, iv l1), (2, lv l2), (4, iv l4)] → XH D A H0 [((b 7), oP b P_all P_jr P_jb P_count), ((b 9), aJ cJ 49 P_near), ((b 13), oC b), ((b 15), aI cI 49 C_given)] H locs → f_co_smallestFree_5 N l1 P_count P_near C_given n l2 l4 = some Res → W p l e rm_co_smallestFree s m args below meth c H locs 0 0 Q (F0 m 5 ls []) := by
  have hx := C.1.1
  have hb := C.1.2.1
  intro n
  induction n with
  | zero => intro l2 l4 ls H locs hl h hf; cases hf
  | succ n ih =>
    intro l2 l4 ls H locs hl h hf
    rw [f_co_smallestFree_5.eq_2] at hf
    refine lv_iload hx hb (pc := 5) dX1_smallestFree_5 (lv_at hl 3 rfl) ?_
    refine lv_aload_n hx hb (pc := 7) dX1_smallestFree_7 rfl (lv_at hl 0 rfl) ?_
    refine x_get C h (pc := 8) xf_X1_18 2 rfl (v := .ref (b 7)) rfl dX1_smallestFree_8 ?_
    refine x_get C h (pc := 11) xf_X1_31 0 rfl (v := iv P_count) rfl dX1_smallestFree_11 ?_
    obtain ⟨g_16, hf⟩ := og_some hf
    obtain ⟨g_17, hf⟩ := og_some hf
    refine x_icmpge C (pc := 14) (tgt := 77) g_16 g_17 dX1_smallestFree_14 rfl (fun hc => ?_) (fun hc => ?_)
    · have hf := oi_t hf hc
      refine lv_lload_n hx hb (pc := 77) dX1_smallestFree_77 rfl (lv_at hl 2 rfl) ?_
      refine x_ldc2 C (pc := 78) (x := 18446744073709551615#64) wk_X1_51 (by decide) dX1_smallestFree_78 ?_
      refine x_lxor C (pc := 81) dX1_smallestFree_81 ?_
      obtain ⟨q_18, hq_18, hf⟩ := ob_some hf
      refine x_callSi C h (pc := 82) hl (c_ce_numberOfFirst l D cI cJ cZ cO (l2 ^^^ 18446744073709551615#64) N q_18 hq_18) xs_X0_numberOfFirst lk_X1_53 ⟨(Nat.le_of_ble_eq_true rfl), (Nat.le_of_ble_eq_true rfl)⟩ rfl [] [0, 1, 2, 3] (nw := 4) (wr := [((b 7), oP b P_all P_jr P_jb P_count), ((b 9), aJ cJ 49 P_near), ((b 13), oC b), ((b 15), aI cI 49 C_given)]) (as := [(b 7), (b 9), (b 13), (b 15)]) (ws' := [((b 7), oP b P_all P_jr P_jb P_count), ((b 9), aJ cJ 49 P_near), ((b 13), oC b), ((b 15), aI cI 49 C_given)]) rfl rfl rfl rfl rfl rfl rfl rfl rfl rfl (Nat.le_of_ble_eq_true rfl) dX1_smallestFree_82 (fun H locs h => ?_)
      have e9 := Option.some.inj hf
      subst e9
      exact hret _ _ _ _ dX1_smallestFree_85 h
    · have hf := oi_f hf hc
      refine lv_aload_n hx hb (pc := 17) dX1_smallestFree_17 rfl (lv_at hl 0 rfl) ?_
      refine x_get C h (pc := 18) xf_X1_18 2 rfl (v := .ref (b 7)) rfl dX1_smallestFree_18 ?_
      refine x_get C h (pc := 21) xf_X1_47 0 rfl (v := .ref (b 9)) rfl dX1_smallestFree_21 ?_
      refine lv_iload_n hx hb (pc := 24) dX1_smallestFree_24 rfl (lv_at hl 1 rfl) ?_
      obtain ⟨g_19, hf⟩ := og_some hf
      refine x_lald C h (pc := 25) 1 1 rfl rfl (Nat.le_of_ble_eq_true rfl) g_19 dX1_smallestFree_25 ?_
      refine x_lconst C (pc := 26) (x := 1#64) rfl dX1_smallestFree_26 ?_
      refine lv_iload hx hb (pc := 27) dX1_smallestFree_27 (lv_at hl 3 rfl) ?_
      obtain ⟨g_20, hf⟩ := og_some hf
      obtain ⟨r_21, hrr_21, hf⟩ := ob_some hf
      have Jr_21 : ∀ (ls : Array Slot) (H : Heap) (locs : List Loc), lv_has ls 6 [(0, .ref (b 13)), (1, iv l1), (2, lv l2), (4, iv l4)] → XH D A H0 [((b 7), oP b P_all P_jr P_jb P_count), ((b 9), aJ cJ 49 P_near), ((b 13), oC b), ((b 15), aI cI 49 C_given)] H locs → W p l e rm_co_smallestFree s m args below meth c H locs 0 0 Q (F0 m 41 ls [iv r_21]) := by
        intro ls H locs hl h
        refine lv_istore hx hb (pc := 41) (lv' := [(5, iv r_21), (0, .ref (b 13)), (1, iv l1), (2, lv l2), (4, iv l4)]) dX1_smallestFree_41 hl (Nat.le_of_ble_eq_true rfl) rfl (fun ls hl => ?_)
        refine lv_iload hx hb (pc := 43) dX1_smallestFree_43 (lv_at hl 0 rfl) ?_
        obtain ⟨g_22, hf⟩ := og_some hf
        obtain ⟨r_30, hrr_30, hf⟩ := ob_some hf
        have Jr_30 : ∀ (ls : Array Slot) (H : Heap) (locs : List Loc), lv_has ls 6 [(0, .ref (b 13)), (1, iv l1), (2, lv r_30.1), (4, iv r_30.2)] → XH D A H0 [((b 7), oP b P_all P_jr P_jb P_count), ((b 9), aJ cJ 49 P_near), ((b 13), oC b), ((b 15), aI cI 49 C_given)] H locs → W p l e rm_co_smallestFree s m args below meth c H locs 0 0 Q (F0 m 5 ls []) := by
          intro ls H locs hl h
          exact ih r_30.1 r_30.2 _ _ _ (lv_sub hl [0, 1, 2, 3] rfl) h hf
        clear hf
        have hf := hrr_30
        refine x_ifeq C (pc := 45) (tgt := 71) g_22 dX1_smallestFree_45 rfl (fun hc => ?_) (fun hc => ?_)
        · have hf := oi_t hf hc
          obtain ⟨l4_23, el4_23, hf⟩ := ol_some hf
          refine x_iinc C (pc := 71) (k := 4) (lw' := [(4, iv l4_23), (5, iv r_21), (0, .ref (b 13)), (1, iv l1), (2, lv l2)]) dX1_smallestFree_71 hl rfl el4_23 (Nat.le_of_ble_eq_true rfl) rfl (fun ls hl => ?_)
          refine lv_goto hx hb (pc := 74) (tgt := 5) dX1_smallestFree_74 rfl ?_
          have e9 := Option.some.inj hf
          subst e9
          exact Jr_30 _ _ _ (lv_sub hl [2, 3, 4, 0] rfl) h
        · have hf := oi_f hf hc
          refine lv_aload_n hx hb (pc := 48) dX1_smallestFree_48 rfl (lv_at hl 1 rfl) ?_
          refine x_get C h (pc := 49) xf_X1_15 2 rfl (v := .ref (b 15)) rfl dX1_smallestFree_49 ?_
          refine lv_iload hx hb (pc := 52) dX1_smallestFree_52 (lv_at hl 4 rfl) ?_
          obtain ⟨g_24, hf⟩ := og_some hf
          refine x_iald C h (pc := 54) 3 0 rfl rfl (Nat.le_of_ble_eq_true rfl) g_24 dX1_smallestFree_54 ?_
          refine x_iconst C (pc := 55) dX1_smallestFree_55 ?_
          obtain ⟨g_25, hf⟩ := og_some hf
          refine x_icmpeq C (pc := 56) (tgt := 71) g_25 ⟨by decide, by decide⟩ dX1_smallestFree_56 rfl (fun hc => ?_) (fun hc => ?_)
          · have hf := oi_t hf hc
            obtain ⟨l4_26, el4_26, hf⟩ := ol_some hf
            refine x_iinc C (pc := 71) (k := 4) (lw' := [(4, iv l4_26), (5, iv r_21), (0, .ref (b 13)), (1, iv l1), (2, lv l2)]) dX1_smallestFree_71 hl rfl el4_26 (Nat.le_of_ble_eq_true rfl) rfl (fun ls hl => ?_)
            refine lv_goto hx hb (pc := 74) (tgt := 5) dX1_smallestFree_74 rfl ?_
            have e9 := Option.some.inj hf
            subst e9
            exact Jr_30 _ _ _ (lv_sub hl [2, 3, 4, 0] rfl) h
          · have hf := oi_f hf hc
            refine lv_lload_n hx hb (pc := 59) dX1_smallestFree_59 rfl (lv_at hl 3 rfl) ?_
            refine x_lconst C (pc := 60) (x := 1#64) rfl dX1_smallestFree_60 ?_
            refine lv_aload_n hx hb (pc := 61) dX1_smallestFree_61 rfl (lv_at hl 1 rfl) ?_
            refine x_get C h (pc := 62) xf_X1_15 2 rfl (v := .ref (b 15)) rfl dX1_smallestFree_62 ?_
            refine lv_iload hx hb (pc := 65) dX1_smallestFree_65 (lv_at hl 4 rfl) ?_
            refine x_iald C h (pc := 67) 3 0 rfl rfl (Nat.le_of_ble_eq_true rfl) g_24 dX1_smallestFree_67 ?_
            obtain ⟨g_27, hf⟩ := og_some hf
            refine x_lshl C (pc := 68) g_27 dX1_smallestFree_68 ?_
            refine x_lor C (pc := 69) dX1_smallestFree_69 ?_
            obtain ⟨l2_28, el2_28, hf⟩ := ol_some hf
            refine x_topl el2_28 ?_
            refine lv_lstore_n hx hb (pc := 70) (lv' := [(2, lv l2_28), (5, iv r_21), (0, .ref (b 13)), (1, iv l1), (4, iv l4)]) dX1_smallestFree_70 rfl hl (Nat.le_of_ble_eq_true rfl) rfl (fun ls hl => ?_)
            obtain ⟨l4_29, el4_29, hf⟩ := ol_some hf
            refine x_iinc C (pc := 71) (k := 4) (lw' := [(4, iv l4_29), (2, lv l2_28), (5, iv r_21), (0, .ref (b 13)), (1, iv l1)]) dX1_smallestFree_71 hl rfl el4_29 (Nat.le_of_ble_eq_true rfl) rfl (fun ls hl => ?_)
            refine lv_goto hx hb (pc := 74) (tgt := 5) dX1_smallestFree_74 rfl ?_
            have e9 := Option.some.inj hf
            subst e9
            exact Jr_30 _ _ _ (lv_sub hl [3, 4, 1, 0] rfl) h
      clear hf
      have hf := hrr_21
      refine x_lshl C (pc := 29) g_20 dX1_smallestFree_29 ?_
      refine x_land C (pc := 30) dX1_smallestFree_30 ?_
      refine x_lconst C (pc := 31) (x := 0#64) rfl dX1_smallestFree_31 ?_
      refine x_lcmpeq C (pc := 32) (tgt := 40) dX1_smallestFree_32 dX1_smallestFree_33 rfl (fun hc => ?_) (fun hc => ?_)
      · have hf := oi_t hf hc
        refine x_iconst C (pc := 40) dX1_smallestFree_40 ?_
        have e9 := Option.some.inj hf
        subst e9
        exact Jr_21 _ _ _ (lv_sub hl [0, 1, 2, 3] rfl) h
      · have hf := oi_f hf hc
        refine x_iconst C (pc := 36) dX1_smallestFree_36 ?_
        refine lv_goto hx hb (pc := 37) (tgt := 41) dX1_smallestFree_37 rfl ?_
        have e9 := Option.some.inj hf
        subst e9
        exact Jr_21 _ _ _ (lv_sub hl [0, 1, 2, 3] rfl) h
set_option maxHeartbeats 4000000 in
set_option maxRecDepth 100000 in
theorem c_co_smallestFree (l : Launch) (D : va_G) (cI cJ cZ cO : ClassId) (b : Nat → Nat) (P_all : BitVec 64) (P_jr : BitVec 64) (P_jb : BitVec 64) (P_count : Int) (P_near : Int → BitVec 64) (C_given : Int → Int) (l1 : Int) (N : Nat) (Res : Int) (hf : f_co_smallestFree N l1 P_count P_near C_given = some Res) : CoI l D (xT cI cJ cZ cO) yX1_smallestFree cX1_smallestFree 6 (some .int) rm_co_smallestFree [.ref (b 13), iv l1] [((b 7), oP b P_all P_jr P_jb P_count), ((b 9), aJ cJ 49 P_near), ((b 13), oC b), ((b 15), aI cI 49 C_given)] Res [((b 7), oP b P_all P_jr P_jb P_count), ((b 9), aJ cJ 49 P_near), ((b 13), oC b), ((b 15), aI cI 49 C_given)] := by
  refine co_i (by decide) ⟨rfl, rfl⟩ (Nat.le_of_ble_eq_true rfl) ?_
  intro p e s m args below meth c A Q ls C hret hl h
  have hx := C.1.1
  have hb := C.1.2.1
  have hl : lv_has ls 6 [(0, .ref (b 13)), (1, iv l1)] := hl
  unfold f_co_smallestFree at hf
  refine x_lconst C (pc := 0) (x := 0#64) rfl dX1_smallestFree_0 ?_
  refine lv_lstore_n hx hb (pc := 1) (lv' := [(2, lv (0#64)), (0, .ref (b 13)), (1, iv l1)]) dX1_smallestFree_1 rfl hl (Nat.le_of_ble_eq_true rfl) rfl (fun ls hl => ?_)
  refine x_iconst C (pc := 2) dX1_smallestFree_2 ?_
  refine lv_istore hx hb (pc := 3) (lv' := [(4, iv 0), (2, lv (0#64)), (0, .ref (b 13)), (1, iv l1)]) dX1_smallestFree_3 hl (Nat.le_of_ble_eq_true rfl) rfl (fun ls hl => ?_)
  exact w_co_smallestFree_5 C b P_all P_jr P_jb P_count P_near C_given Res hret N l1 N (0#64) 0 _ _ _ (lv_sub hl [2, 3, 1, 0] rfl) h hf
abbrev rm_co_paint : Room := { frames := 3, cells := 0, slots := 0, locals := 70 }
set_option maxHeartbeats 4000000 in
set_option maxRecDepth 100000 in
theorem w_co_paint_58 {p : Program} {l : Launch} {e : Env} {s : State} {m : MethodId} {args : Array Value} {below : List Frame} {meth : Method} {c : Code} {Q : State → Prop} {D : va_G} {cI cJ cZ cO : ClassId} {A : Nat → Prop} {H0 : Heap} {w0 : Cond} (C : XC p s m args c cX1_paint 6 RX1 w0 D (xT cI cJ cZ cO)) (b : Nat → Nat) (P_all : BitVec 64) (P_jr : BitVec 64) (P_jb : BitVec 64) (P_count : Int) (P_near : Int → BitVec 64) (Res : Int × (Int → Int) × (Int → Int)) (hret : XRI p l e rm_co_paint s m args below meth c cX1_paint D A H0 Q Res.1 [((b 7), oP b P_all P_jr P_jb P_count), ((b 9), aJ cJ 49 P_near), ((b 13), oC b), ((b 14), aI cI 49 Res.2.1), ((b 15), aI cI 49 Res.2.2)]) (N : Nat) (C_seq : Int → Int) : ∀ (n : Nat) (l2 : BitVec 64) (l4 : Int) (C_given : Int → Int) (ls : Array Slot) (H : Heap) (locs : List Loc), lv_has ls 6 [(0, .ref (b 13)), (2, lv l2), (4, iv l4)] → XH D A H0 [((b 7), oP b P_all P_jr P_jb P_count), ((b 9), aJ cJ 49 P_near), ((b 13), oC b), ((b 14), aI cI 49 C_seq), ((b 15), aI cI 49 C_given)] H locs → f_co_paint_58 N C_seq P_count P_near n l2 l4 C_given = some Res → W p l e rm_co_paint s m args below meth c H locs 0 0 Q (F0 m 58 ls []) := by
  have hx := C.1.1
  have hb := C.1.2.1
  intro n
  induction n with
  | zero => intro l2 l4 C_given ls H locs hl h hf; cases hf
  | succ n ih =>
    intro l2 l4 C_given ls H locs hl h hf
    rw [f_co_paint_58.eq_2] at hf
    refine lv_iload hx hb (pc := 58) dX1_paint_58 (lv_at hl 2 rfl) ?_
    refine lv_aload_n hx hb (pc := 60) dX1_paint_60 rfl (lv_at hl 0 rfl) ?_
    refine x_get C h (pc := 61) xf_X1_18 2 rfl (v := .ref (b 7)) rfl dX1_paint_61 ?_
    refine x_get C h (pc := 64) xf_X1_31 0 rfl (v := iv P_count) rfl dX1_paint_64 ?_
    obtain ⟨g_11, hf⟩ := og_some hf
    obtain ⟨g_12, hf⟩ := og_some hf
    refine x_icmpge C (pc := 67) (tgt := 110) g_11 g_12 dX1_paint_67 rfl (fun hc => ?_) (fun hc => ?_)
    · have hf := oi_t hf hc
      refine lv_lload_n hx hb (pc := 110) dX1_paint_110 rfl (lv_at hl 1 rfl) ?_
      refine x_callSi C h (pc := 111) hl (c_popc l D (xT cI cJ cZ cO) l2) xs_J13_bitCount_95d88 lk_X1_41 ⟨(Nat.le_of_ble_eq_true rfl), (Nat.le_of_ble_eq_true rfl)⟩ rfl [] [0, 1, 2, 3, 4] (nw := 5) (wr := [((b 7), oP b P_all P_jr P_jb P_count), ((b 9), aJ cJ 49 P_near), ((b 13), oC b), ((b 14), aI cI 49 C_seq), ((b 15), aI cI 49 C_given)]) (as := [(b 7), (b 9), (b 13), (b 14), (b 15)]) (ws' := [((b 7), oP b P_all P_jr P_jb P_count), ((b 9), aJ cJ 49 P_near), ((b 13), oC b), ((b 14), aI cI 49 C_seq), ((b 15), aI cI 49 C_given)]) rfl rfl rfl rfl rfl rfl rfl rfl rfl rfl (Nat.le_of_ble_eq_true rfl) dX1_paint_111 (fun H locs h => ?_)
      have e9 := Option.some.inj hf
      subst e9
      exact hret _ _ _ _ dX1_paint_114 h
    · have hf := oi_f hf hc
      refine lv_aload_n hx hb (pc := 70) dX1_paint_70 rfl (lv_at hl 0 rfl) ?_
      refine x_get C h (pc := 71) xf_X1_9 2 rfl (v := .ref (b 14)) rfl dX1_paint_71 ?_
      refine lv_iload hx hb (pc := 74) dX1_paint_74 (lv_at hl 2 rfl) ?_
      obtain ⟨g_13, hf⟩ := og_some hf
      refine x_iald C h (pc := 76) 3 0 rfl rfl (Nat.le_of_ble_eq_true rfl) g_13 dX1_paint_76 ?_
      obtain ⟨l5_14, el5_14, hf⟩ := ol_some hf
      refine x_topi el5_14 ?_
      refine lv_istore hx hb (pc := 77) (lv' := [(5, iv l5_14), (0, .ref (b 13)), (2, lv l2), (4, iv l4)]) dX1_paint_77 hl (Nat.le_of_ble_eq_true rfl) rfl (fun ls hl => ?_)
      refine lv_aload_n hx hb (pc := 79) dX1_paint_79 rfl (lv_at hl 1 rfl) ?_
      refine x_get C h (pc := 80) xf_X1_15 2 rfl (v := .ref (b 15)) rfl dX1_paint_80 ?_
      refine lv_iload hx hb (pc := 83) dX1_paint_83 (lv_at hl 0 rfl) ?_
      refine lv_aload_n hx hb (pc := 85) dX1_paint_85 rfl (lv_at hl 1 rfl) ?_
      refine lv_iload hx hb (pc := 86) dX1_paint_86 (lv_at hl 0 rfl) ?_
      obtain ⟨q_15, hq_15, hf⟩ := ob_some hf
      refine x_callVi C h (pc := 88) hl (c_co_smallestFree l D cI cJ cZ cO b P_all P_jr P_jb P_count P_near C_given l5_14 N q_15 hq_15) xv_X1_smallestFree lk_X1_37 ⟨(Nat.le_of_ble_eq_true rfl), (Nat.le_of_ble_eq_true rfl)⟩ rfl [0, 1, 2, 4] [3] (nw := 5) (wr := [((b 14), aI cI 49 C_seq)]) (as := [(b 7), (b 9), (b 13), (b 14), (b 15)]) (ws' := [((b 7), oP b P_all P_jr P_jb P_count), ((b 9), aJ cJ 49 P_near), ((b 13), oC b), ((b 14), aI cI 49 C_seq), ((b 15), aI cI 49 C_given)]) rfl rfl rfl rfl rfl rfl rfl rfl rfl 2 rfl rfl rfl rfl (Nat.le_of_ble_eq_true rfl) dX1_paint_88 (fun H locs h => ?_)
      obtain ⟨g_16, hf⟩ := og_some hf
      obtain ⟨C_given_17, eC_given_17, hf⟩ := ol_some hf
      refine x_iast C h (pc := 91) (ws' := [((b 7), oP b P_all P_jr P_jb P_count), ((b 9), aJ cJ 49 P_near), ((b 13), oC b), ((b 14), aI cI 49 C_seq), ((b 15), aI cI 49 C_given_17)]) 4 0 rfl rfl (Nat.le_of_ble_eq_true rfl) g_16 eC_given_17 rfl dX1_paint_91 (fun H locs h => ?_)
      refine lv_lload_n hx hb (pc := 92) dX1_paint_92 rfl (lv_at hl 2 rfl) ?_
      refine x_lconst C (pc := 93) (x := 1#64) rfl dX1_paint_93 ?_
      refine lv_aload_n hx hb (pc := 94) dX1_paint_94 rfl (lv_at hl 1 rfl) ?_
      refine x_get C h (pc := 95) xf_X1_15 2 rfl (v := .ref (b 15)) rfl dX1_paint_95 ?_
      refine lv_iload hx hb (pc := 98) dX1_paint_98 (lv_at hl 0 rfl) ?_
      refine x_iald C h (pc := 100) 4 0 rfl rfl (Nat.le_of_ble_eq_true rfl) g_16 dX1_paint_100 ?_
      obtain ⟨g_18, hf⟩ := og_some hf
      refine x_lshl C (pc := 101) g_18 dX1_paint_101 ?_
      refine x_lor C (pc := 102) dX1_paint_102 ?_
      obtain ⟨l2_19, el2_19, hf⟩ := ol_some hf
      refine x_topl el2_19 ?_
      refine lv_lstore_n hx hb (pc := 103) (lv' := [(2, lv l2_19), (5, iv l5_14), (0, .ref (b 13)), (4, iv l4)]) dX1_paint_103 rfl hl (Nat.le_of_ble_eq_true rfl) rfl (fun ls hl => ?_)
      obtain ⟨l4_20, el4_20, hf⟩ := ol_some hf
      refine x_iinc C (pc := 104) (k := 3) (lw' := [(4, iv l4_20), (2, lv l2_19), (5, iv l5_14), (0, .ref (b 13))]) dX1_paint_104 hl rfl el4_20 (Nat.le_of_ble_eq_true rfl) rfl (fun ls hl => ?_)
      refine lv_goto hx hb (pc := 107) (tgt := 58) dX1_paint_107 rfl ?_
      exact ih l2_19 l4_20 C_given_17 _ _ _ (lv_sub hl [3, 1, 0] rfl) h hf
set_option maxHeartbeats 4000000 in
set_option maxRecDepth 100000 in
theorem w_co_paint_29 {p : Program} {l : Launch} {e : Env} {s : State} {m : MethodId} {args : Array Value} {below : List Frame} {meth : Method} {c : Code} {Q : State → Prop} {D : va_G} {cI cJ cZ cO : ClassId} {A : Nat → Prop} {H0 : Heap} {w0 : Cond} (C : XC p s m args c cX1_paint 6 RX1 w0 D (xT cI cJ cZ cO)) (b : Nat → Nat) (P_all : BitVec 64) (P_jr : BitVec 64) (P_jb : BitVec 64) (P_count : Int) (P_near : Int → BitVec 64) (Res : Int × (Int → Int) × (Int → Int)) (hret : XRI p l e rm_co_paint s m args below meth c cX1_paint D A H0 Q Res.1 [((b 7), oP b P_all P_jr P_jb P_count), ((b 9), aJ cJ 49 P_near), ((b 13), oC b), ((b 14), aI cI 49 Res.2.1), ((b 15), aI cI 49 Res.2.2)]) (N : Nat) (C_seq : Int → Int) : ∀ (n : Nat) (l2 : Int) (C_given : Int → Int) (ls : Array Slot) (H : Heap) (locs : List Loc), lv_has ls 6 [(0, .ref (b 13)), (2, iv l2)] → XH D A H0 [((b 7), oP b P_all P_jr P_jb P_count), ((b 9), aJ cJ 49 P_near), ((b 13), oC b), ((b 14), aI cI 49 C_seq), ((b 15), aI cI 49 C_given)] H locs → f_co_paint_29 N C_seq P_count P_near n l2 C_given = some Res → W p l e rm_co_paint s m args below meth c H locs 0 0 Q (F0 m 29 ls []) := by
  have hx := C.1.1
  have hb := C.1.2.1
  intro n
  induction n with
  | zero => intro l2 C_given ls H locs hl h hf; cases hf
  | succ n ih =>
    intro l2 C_given ls H locs hl h hf
    rw [f_co_paint_29.eq_2] at hf
    refine lv_iload_n hx hb (pc := 29) dX1_paint_29 rfl (lv_at hl 1 rfl) ?_
    refine lv_aload_n hx hb (pc := 30) dX1_paint_30 rfl (lv_at hl 0 rfl) ?_
    refine x_get C h (pc := 31) xf_X1_18 2 rfl (v := .ref (b 7)) rfl dX1_paint_31 ?_
    refine x_get C h (pc := 34) xf_X1_31 0 rfl (v := iv P_count) rfl dX1_paint_34 ?_
    obtain ⟨g_6, hf⟩ := og_some hf
    obtain ⟨g_7, hf⟩ := og_some hf
    refine x_icmpge C (pc := 37) (tgt := 53) g_6 g_7 dX1_paint_37 rfl (fun hc => ?_) (fun hc => ?_)
    · have hf := oi_t hf hc
      refine x_lconst C (pc := 53) (x := 0#64) rfl dX1_paint_53 ?_
      refine lv_lstore_n hx hb (pc := 54) (lv' := [(2, lv (0#64)), (0, .ref (b 13))]) dX1_paint_54 rfl hl (Nat.le_of_ble_eq_true rfl) rfl (fun ls hl => ?_)
      refine x_iconst C (pc := 55) dX1_paint_55 ?_
      refine lv_istore hx hb (pc := 56) (lv' := [(4, iv 0), (2, lv (0#64)), (0, .ref (b 13))]) dX1_paint_56 hl (Nat.le_of_ble_eq_true rfl) rfl (fun ls hl => ?_)
      exact w_co_paint_58 C b P_all P_jr P_jb P_count P_near Res hret N C_seq N (0#64) 0 C_given _ _ _ (lv_sub hl [2, 1, 0] rfl) h hf
    · have hf := oi_f hf hc
      refine lv_aload_n hx hb (pc := 40) dX1_paint_40 rfl (lv_at hl 0 rfl) ?_
      refine x_get C h (pc := 41) xf_X1_15 2 rfl (v := .ref (b 15)) rfl dX1_paint_41 ?_
      refine lv_iload_n hx hb (pc := 44) dX1_paint_44 rfl (lv_at hl 1 rfl) ?_
      refine x_iconst C (pc := 45) dX1_paint_45 ?_
      obtain ⟨g_8, hf⟩ := og_some hf
      obtain ⟨C_given_9, eC_given_9, hf⟩ := ol_some hf
      refine x_iast C h (pc := 46) (ws' := [((b 7), oP b P_all P_jr P_jb P_count), ((b 9), aJ cJ 49 P_near), ((b 13), oC b), ((b 14), aI cI 49 C_seq), ((b 15), aI cI 49 C_given_9)]) 4 0 rfl rfl (Nat.le_of_ble_eq_true rfl) g_8 eC_given_9 rfl dX1_paint_46 (fun H locs h => ?_)
      obtain ⟨l2_10, el2_10, hf⟩ := ol_some hf
      refine x_iinc C (pc := 47) (k := 1) (lw' := [(2, iv l2_10), (0, .ref (b 13))]) dX1_paint_47 hl rfl el2_10 (Nat.le_of_ble_eq_true rfl) rfl (fun ls hl => ?_)
      refine lv_goto hx hb (pc := 50) (tgt := 29) dX1_paint_50 rfl ?_
      exact ih l2_10 C_given_9 _ _ _ (lv_sub hl [1, 0] rfl) h hf
set_option maxHeartbeats 4000000 in
set_option maxRecDepth 100000 in
theorem c_co_paint (l : Launch) (D : va_G) (cI cJ cZ cO : ClassId) (b : Nat → Nat) (P_all : BitVec 64) (P_jr : BitVec 64) (P_jb : BitVec 64) (P_count : Int) (P_near : Int → BitVec 64) (C_seq : Int → Int) (C_given : Int → Int) (l1 : Int) (N : Nat) (Res : Int × (Int → Int) × (Int → Int)) (hf : f_co_paint N l1 P_count P_near C_seq C_given = some Res) : CoI l D (xT cI cJ cZ cO) yX1_paint cX1_paint 6 (some .int) rm_co_paint [.ref (b 13), iv l1] [((b 7), oP b P_all P_jr P_jb P_count), ((b 9), aJ cJ 49 P_near), ((b 13), oC b), ((b 14), aI cI 49 C_seq), ((b 15), aI cI 49 C_given)] Res.1 [((b 7), oP b P_all P_jr P_jb P_count), ((b 9), aJ cJ 49 P_near), ((b 13), oC b), ((b 14), aI cI 49 Res.2.1), ((b 15), aI cI 49 Res.2.2)] := by
  refine co_i (by decide) ⟨rfl, rfl⟩ (Nat.le_of_ble_eq_true rfl) ?_
  intro p e s m args below meth c A Q ls C hret hl h
  have hx := C.1.1
  have hb := C.1.2.1
  have hl : lv_has ls 6 [(0, .ref (b 13)), (1, iv l1)] := hl
  unfold f_co_paint at hf
  refine lv_iload_n hx hb (pc := 0) dX1_paint_0 rfl (lv_at hl 1 rfl) ?_
  obtain ⟨g_1, hf⟩ := og_some hf
  obtain ⟨r_5, hrr_5, hf⟩ := ob_some hf
  have Jr_5 : ∀ (ls : Array Slot) (H : Heap) (locs : List Loc), lv_has ls 6 [(0, .ref (b 13)), (2, iv 0)] → XH D A s.heap [((b 7), oP b P_all P_jr P_jb P_count), ((b 9), aJ cJ 49 P_near), ((b 13), oC b), ((b 14), aI cI 49 r_5), ((b 15), aI cI 49 C_given)] H locs → W p l e rm_co_paint s m args below meth c H locs 0 0 Q (F0 m 29 ls []) := by
    intro ls H locs hl h
    exact w_co_paint_29 C b P_all P_jr P_jb P_count P_near Res hret N r_5 N 0 C_given _ _ _ (lv_sub hl [0, 1] rfl) h hf
  clear hf
  have hf := hrr_5
  refine x_ifne C (pc := 1) (tgt := 11) g_1 dX1_paint_1 rfl (fun hc => ?_) (fun hc => ?_)
  · have hf := oi_f hf hc
    refine lv_iload_n hx hb (pc := 11) dX1_paint_11 rfl (lv_at hl 1 rfl) ?_
    refine x_iconst C (pc := 12) dX1_paint_12 ?_
    refine x_icmpne C (pc := 13) (tgt := 23) g_1 ⟨by decide, by decide⟩ dX1_paint_13 rfl (fun hc => ?_) (fun hc => ?_)
    · have hf := oi_f hf hc
      refine lv_aload_n hx hb (pc := 23) dX1_paint_23 rfl (lv_at hl 0 rfl) ?_
      obtain ⟨q_2, hq_2, hf⟩ := ob_some hf
      refine x_callVv C h (pc := 24) hl (c_co_arrangeByRemoval l D cI cJ cZ cO b P_all P_jr P_jb P_count P_near C_seq N q_2 hq_2) xv_X1_arrangeByRemoval lk_X1_28 ⟨(Nat.le_of_ble_eq_true rfl), (Nat.le_of_ble_eq_true rfl)⟩ rfl [0, 1, 2, 3] [4] (nw := 5) (wr := [((b 15), aI cI 49 C_given)]) (as := [(b 7), (b 9), (b 13), (b 14), (b 15)]) (ws' := [((b 7), oP b P_all P_jr P_jb P_count), ((b 9), aJ cJ 49 P_near), ((b 13), oC b), ((b 14), aI cI 49 q_2), ((b 15), aI cI 49 C_given)]) rfl rfl rfl rfl rfl rfl rfl rfl rfl 2 rfl rfl rfl rfl (Nat.le_of_ble_eq_true rfl) dX1_paint_24 (fun H locs h => ?_)
      refine x_iconst C (pc := 27) dX1_paint_27 ?_
      refine lv_istore_n hx hb (pc := 28) (lv' := [(2, iv 0), (0, .ref (b 13)), (1, iv l1)]) dX1_paint_28 rfl hl (Nat.le_of_ble_eq_true rfl) rfl (fun ls hl => ?_)
      have e9 := Option.some.inj hf
      subst e9
      exact Jr_5 _ _ _ (lv_sub hl [1, 0] rfl) h
    · have hf := oi_t hf hc
      refine lv_aload_n hx hb (pc := 16) dX1_paint_16 rfl (lv_at hl 0 rfl) ?_
      obtain ⟨q_3, hq_3, hf⟩ := ob_some hf
      refine x_callVv C h (pc := 17) hl (c_co_arrangeByNeighbours l D cI cJ cZ cO b P_all P_jr P_jb P_count P_near C_seq N q_3 hq_3) xv_X1_arrangeByNeighbours lk_X1_25 ⟨(Nat.le_of_ble_eq_true rfl), (Nat.le_of_ble_eq_true rfl)⟩ rfl [0, 1, 2, 3] [4] (nw := 5) (wr := [((b 15), aI cI 49 C_given)]) (as := [(b 7), (b 9), (b 13), (b 14), (b 15)]) (ws' := [((b 7), oP b P_all P_jr P_jb P_count), ((b 9), aJ cJ 49 P_near), ((b 13), oC b), ((b 14), aI cI 49 q_3), ((b 15), aI cI 49 C_given)]) rfl rfl rfl rfl rfl rfl rfl rfl rfl 2 rfl rfl rfl rfl (Nat.le_of_ble_eq_true rfl) dX1_paint_17 (fun H locs h => ?_)
      refine lv_goto hx hb (pc := 20) (tgt := 27) dX1_paint_20 rfl ?_
      refine x_iconst C (pc := 27) dX1_paint_27 ?_
      refine lv_istore_n hx hb (pc := 28) (lv' := [(2, iv 0), (0, .ref (b 13)), (1, iv l1)]) dX1_paint_28 rfl hl (Nat.le_of_ble_eq_true rfl) rfl (fun ls hl => ?_)
      have e9 := Option.some.inj hf
      subst e9
      exact Jr_5 _ _ _ (lv_sub hl [1, 0] rfl) h
  · have hf := oi_t hf hc
    refine lv_aload_n hx hb (pc := 4) dX1_paint_4 rfl (lv_at hl 0 rfl) ?_
    obtain ⟨q_4, hq_4, hf⟩ := ob_some hf
    refine x_callVv C h (pc := 5) hl (c_co_arrangeByNumber l D cI cJ cZ cO b P_all P_jr P_jb P_count C_seq N q_4 hq_4) xv_X1_arrangeByNumber lk_X1_22 ⟨(Nat.le_of_ble_eq_true rfl), (Nat.le_of_ble_eq_true rfl)⟩ rfl [0, 2, 3] [1, 4] (nw := 5) (wr := [((b 9), aJ cJ 49 P_near), ((b 15), aI cI 49 C_given)]) (as := [(b 7), (b 9), (b 13), (b 14), (b 15)]) (ws' := [((b 7), oP b P_all P_jr P_jb P_count), ((b 9), aJ cJ 49 P_near), ((b 13), oC b), ((b 14), aI cI 49 q_4), ((b 15), aI cI 49 C_given)]) rfl rfl rfl rfl rfl rfl rfl rfl rfl 2 rfl rfl rfl rfl (Nat.le_of_ble_eq_true rfl) dX1_paint_5 (fun H locs h => ?_)
    refine lv_goto hx hb (pc := 8) (tgt := 27) dX1_paint_8 rfl ?_
    refine x_iconst C (pc := 27) dX1_paint_27 ?_
    refine lv_istore_n hx hb (pc := 28) (lv' := [(2, iv 0), (0, .ref (b 13)), (1, iv l1)]) dX1_paint_28 rfl hl (Nat.le_of_ble_eq_true rfl) rfl (fun ls hl => ?_)
    have e9 := Option.some.inj hf
    subst e9
    exact Jr_5 _ _ _ (lv_sub hl [1, 0] rfl) h
