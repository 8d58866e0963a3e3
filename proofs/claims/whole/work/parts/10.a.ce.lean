abbrev rm_ce_number : Room := { frames := 0, cells := 0, slots := 0, locals := 0 }
set_option maxHeartbeats 4000000 in
set_option maxRecDepth 100000 in
theorem c_ce_number (l : Launch) (D : va_G) (cI cJ cZ cO : ClassId) (l0 : Int) (l1 : Int) (N : Nat) (Res : Int) (hf : f_ce_number N l0 l1 = some Res) : CoI l D (xT cI cJ cZ cO) yX0_number cX0_number 2 (some .int) rm_ce_number [iv l0, iv l1] [] Res [] := by
  refine co_i (by decide) ⟨rfl, rfl⟩ (Nat.le_of_ble_eq_true rfl) ?_
  intro p e s m args below meth c A Q ls C hret hl h
  have hx := C.1.1
  have hb := C.1.2.1
  have hl : lv_has ls 2 [(0, iv l0), (1, iv l1)] := hl
  unfold f_ce_number at hf
  refine lv_iload_n hx hb (pc := 0) dX0_number_0 rfl (lv_at hl 0 rfl) ?_
  refine x_bipush C (pc := 1) dX0_number_1 (by decide) ?_
  refine x_imul C (pc := 3) dX0_number_3 ?_
  refine lv_iload_n hx hb (pc := 4) dX0_number_4 rfl (lv_at hl 1 rfl) ?_
  refine x_iadd C (pc := 5) dX0_number_5 ?_
  have e9 := Option.some.inj hf
  subst e9
  exact hret _ _ _ _ dX0_number_6 h
abbrev rm_ce_only : Room := { frames := 1, cells := 0, slots := 0, locals := 21 }
set_option maxHeartbeats 4000000 in
set_option maxRecDepth 100000 in
theorem c_ce_only (l : Launch) (D : va_G) (cI cJ cZ cO : ClassId) (l0 : Int) (l1 : Int) (N : Nat) (Res : BitVec 64) (hf : f_ce_only N l0 l1 = some Res) : CoL l D (xT cI cJ cZ cO) yX0_only cX0_only 2 (some .long) rm_ce_only [iv l0, iv l1] [] Res [] := by
  refine co_l (by decide) ⟨rfl, rfl⟩ (Nat.le_of_ble_eq_true rfl) ?_
  intro p e s m args below meth c A Q ls C hret hl h
  have hx := C.1.1
  have hb := C.1.2.1
  have hl : lv_has ls 2 [(0, iv l0), (1, iv l1)] := hl
  unfold f_ce_only at hf
  refine x_lconst C (pc := 0) (x := 1#64) rfl dX0_only_0 ?_
  refine lv_iload_n hx hb (pc := 1) dX0_only_1 rfl (lv_at hl 0 rfl) ?_
  refine lv_iload_n hx hb (pc := 2) dX0_only_2 rfl (lv_at hl 1 rfl) ?_
  obtain ⟨q_1, hq_1, hf⟩ := ob_some hf
  refine x_callSi C h (pc := 3) hl (c_ce_number l D cI cJ cZ cO l0 l1 N q_1 hq_1) xs_X0_number lk_X0_9 ⟨(Nat.le_of_ble_eq_true rfl), (Nat.le_of_ble_eq_true rfl)⟩ rfl [] [] (nw := 0) (wr := []) (as := []) (ws' := []) rfl rfl rfl rfl rfl rfl rfl rfl rfl rfl (Nat.le_of_ble_eq_true rfl) dX0_only_3 (fun H locs h => ?_)
  obtain ⟨g_2, hf⟩ := og_some hf
  refine x_lshl C (pc := 6) g_2 dX0_only_6 ?_
  have e9 := Option.some.inj hf
  subst e9
  exact hret _ _ _ _ dX0_only_7 h
abbrev rm_ce_inRow : Room := { frames := 0, cells := 0, slots := 0, locals := 0 }
set_option maxHeartbeats 4000000 in
set_option maxRecDepth 100000 in
theorem c_ce_inRow (l : Launch) (D : va_G) (cI cJ cZ cO : ClassId) (l0 : Int) (N : Nat) (Res : BitVec 64) (hf : f_ce_inRow N l0 = some Res) : CoL l D (xT cI cJ cZ cO) yX0_inRow cX0_inRow 1 (some .long) rm_ce_inRow [iv l0] [] Res [] := by
  refine co_l (by decide) ⟨rfl, rfl⟩ (Nat.le_of_ble_eq_true rfl) ?_
  intro p e s m args below meth c A Q ls C hret hl h
  have hx := C.1.1
  have hb := C.1.2.1
  have hl : lv_has ls 1 [(0, iv l0)] := hl
  unfold f_ce_inRow at hf
  refine x_ldc2 C (pc := 0) (x := 127#64) wk_X0_13 (by decide) dX0_inRow_0 ?_
  refine lv_iload_n hx hb (pc := 3) dX0_inRow_3 rfl (lv_at hl 0 rfl) ?_
  refine x_bipush C (pc := 4) dX0_inRow_4 (by decide) ?_
  refine x_imul C (pc := 6) dX0_inRow_6 ?_
  obtain ⟨g_1, hf⟩ := og_some hf
  refine x_lshl C (pc := 7) g_1 dX0_inRow_7 ?_
  have e9 := Option.some.inj hf
  subst e9
  exact hret _ _ _ _ dX0_inRow_8 h
abbrev rm_ce_inColumn : Room := { frames := 0, cells := 0, slots := 0, locals := 0 }
set_option maxHeartbeats 4000000 in
set_option maxRecDepth 100000 in
theorem c_ce_inColumn (l : Launch) (D : va_G) (cI cJ cZ cO : ClassId) (l0 : Int) (N : Nat) (Res : BitVec 64) (hf : f_ce_inColumn N l0 = some Res) : CoL l D (xT cI cJ cZ cO) yX0_inColumn cX0_inColumn 1 (some .long) rm_ce_inColumn [iv l0] [] Res [] := by
  refine co_l (by decide) ⟨rfl, rfl⟩ (Nat.le_of_ble_eq_true rfl) ?_
  intro p e s m args below meth c A Q ls C hret hl h
  have hx := C.1.1
  have hb := C.1.2.1
  have hl : lv_has ls 1 [(0, iv l0)] := hl
  unfold f_ce_inColumn at hf
  refine x_ldc2 C (pc := 0) (x := 282578800148737#64) wk_X0_15 (by decide) dX0_inColumn_0 ?_
  refine lv_iload_n hx hb (pc := 3) dX0_inColumn_3 rfl (lv_at hl 0 rfl) ?_
  obtain ⟨g_1, hf⟩ := og_some hf
  refine x_lshl C (pc := 4) g_1 dX0_inColumn_4 ?_
  have e9 := Option.some.inj hf
  subst e9
  exact hret _ _ _ _ dX0_inColumn_5 h
abbrev rm_ce_block : Room := { frames := 0, cells := 0, slots := 0, locals := 0 }
set_option maxHeartbeats 4000000 in
set_option maxRecDepth 100000 in
theorem w_ce_block_19 {p : Program} {l : Launch} {e : Env} {s : State} {m : MethodId} {args : Array Value} {below : List Frame} {meth : Method} {c : Code} {Q : State → Prop} {D : va_G} {cI cJ cZ cO : ClassId} {A : Nat → Prop} {H0 : Heap} {w0 : Cond} (C : XC p s m args c cX0_block 9 RX0 w0 D (xT cI cJ cZ cO)) (Res : BitVec 64) (hret : XRL p l e rm_ce_block s m args below meth c cX0_block D A H0 Q Res []) (N : Nat) (l1 : Int) (l4 : BitVec 64) : ∀ (n : Nat) (l6 : BitVec 64) (l8 : Int) (ls : Array Slot) (H : Heap) (locs : List Loc), lv_has ls 9 [(1, iv l1), (4, lv l4), (6, lv l6), (8, iv l8)] → XH D A H0 [] H locs → f_ce_block_19 N l1 l4 n l6 l8 = some Res → W p l e rm_ce_block s m args below meth c H locs 0 0 Q (F0 m 19 ls []) := by
  have hx := C.1.1
  have hb := C.1.2.1
  intro n
  induction n with
  | zero => intro l6 l8 ls H locs hl h hf; cases hf
  | succ n ih =>
    intro l6 l8 ls H locs hl h hf
    rw [f_ce_block_19.eq_2] at hf
    refine lv_iload hx hb (pc := 19) dX0_block_19 (lv_at hl 3 rfl) ?_
    refine lv_iload_n hx hb (pc := 21) dX0_block_21 rfl (lv_at hl 0 rfl) ?_
    obtain ⟨g_4, hf⟩ := og_some hf
    obtain ⟨g_5, hf⟩ := og_some hf
    refine x_icmpgt C (pc := 22) (tgt := 44) g_4 g_5 dX0_block_22 rfl (fun hc => ?_) (fun hc => ?_)
    · have hf := oi_t hf hc
      refine lv_lload hx hb (pc := 44) dX0_block_44 (lv_at hl 2 rfl) ?_
      have e9 := Option.some.inj hf
      subst e9
      exact hret _ _ _ _ dX0_block_46 h
    · have hf := oi_f hf hc
      refine lv_lload hx hb (pc := 25) dX0_block_25 (lv_at hl 2 rfl) ?_
      refine lv_lload hx hb (pc := 27) dX0_block_27 (lv_at hl 1 rfl) ?_
      refine lv_iload hx hb (pc := 29) dX0_block_29 (lv_at hl 3 rfl) ?_
      refine x_bipush C (pc := 31) dX0_block_31 (by decide) ?_
      refine x_imul C (pc := 33) dX0_block_33 ?_
      obtain ⟨g_6, hf⟩ := og_some hf
      refine x_lshl C (pc := 34) g_6 dX0_block_34 ?_
      refine x_lor C (pc := 35) dX0_block_35 ?_
      obtain ⟨l6_7, el6_7, hf⟩ := ol_some hf
      refine x_topl el6_7 ?_
      refine lv_lstore hx hb (pc := 36) (lv' := [(6, lv l6_7), (1, iv l1), (4, lv l4), (8, iv l8)]) dX0_block_36 hl (Nat.le_of_ble_eq_true rfl) rfl (fun ls hl => ?_)
      obtain ⟨l8_8, el8_8, hf⟩ := ol_some hf
      refine x_iinc C (pc := 38) (k := 3) (lw' := [(8, iv l8_8), (6, lv l6_7), (1, iv l1), (4, lv l4)]) dX0_block_38 hl rfl el8_8 (Nat.le_of_ble_eq_true rfl) rfl (fun ls hl => ?_)
      refine lv_goto hx hb (pc := 41) (tgt := 19) dX0_block_41 rfl ?_
      exact ih l6_7 l8_8 _ _ _ (lv_sub hl [2, 3, 1, 0] rfl) h hf
set_option maxHeartbeats 4000000 in
set_option maxRecDepth 100000 in
theorem c_ce_block (l : Launch) (D : va_G) (cI cJ cZ cO : ClassId) (l0 : Int) (l1 : Int) (l2 : Int) (l3 : Int) (N : Nat) (Res : BitVec 64) (hf : f_ce_block N l0 l1 l2 l3 = some Res) : CoL l D (xT cI cJ cZ cO) yX0_block cX0_block 9 (some .long) rm_ce_block [iv l0, iv l1, iv l2, iv l3] [] Res [] := by
  refine co_l (by decide) ⟨rfl, rfl⟩ (Nat.le_of_ble_eq_true rfl) ?_
  intro p e s m args below meth c A Q ls C hret hl h
  have hx := C.1.1
  have hb := C.1.2.1
  have hl : lv_has ls 9 [(0, iv l0), (1, iv l1), (2, iv l2), (3, iv l3)] := hl
  unfold f_ce_block at hf
  refine x_lconst C (pc := 0) (x := 1#64) rfl dX0_block_0 ?_
  refine lv_iload_n hx hb (pc := 1) dX0_block_1 rfl (lv_at hl 3 rfl) ?_
  refine lv_iload_n hx hb (pc := 2) dX0_block_2 rfl (lv_at hl 2 rfl) ?_
  refine x_isub C (pc := 3) dX0_block_3 ?_
  refine x_iconst C (pc := 4) dX0_block_4 ?_
  refine x_iadd C (pc := 5) dX0_block_5 ?_
  obtain ⟨g_1, hf⟩ := og_some hf
  refine x_lshl C (pc := 6) g_1 dX0_block_6 ?_
  refine x_lconst C (pc := 7) (x := 1#64) rfl dX0_block_7 ?_
  refine x_lsub C (pc := 8) dX0_block_8 ?_
  refine lv_iload_n hx hb (pc := 9) dX0_block_9 rfl (lv_at hl 2 rfl) ?_
  obtain ⟨g_2, hf⟩ := og_some hf
  refine x_lshl C (pc := 10) g_2 dX0_block_10 ?_
  obtain ⟨l4_3, el4_3, hf⟩ := ol_some hf
  refine x_topl el4_3 ?_
  refine lv_lstore hx hb (pc := 11) (lv' := [(4, lv l4_3), (0, iv l0), (1, iv l1), (2, iv l2), (3, iv l3)]) dX0_block_11 hl (Nat.le_of_ble_eq_true rfl) rfl (fun ls hl => ?_)
  refine x_lconst C (pc := 13) (x := 0#64) rfl dX0_block_13 ?_
  refine lv_lstore hx hb (pc := 14) (lv' := [(6, lv (0#64)), (4, lv l4_3), (0, iv l0), (1, iv l1), (2, iv l2), (3, iv l3)]) dX0_block_14 hl (Nat.le_of_ble_eq_true rfl) rfl (fun ls hl => ?_)
  refine lv_iload_n hx hb (pc := 16) dX0_block_16 rfl (lv_at hl 2 rfl) ?_
  refine lv_istore hx hb (pc := 17) (lv' := [(8, iv l0), (6, lv (0#64)), (4, lv l4_3), (0, iv l0), (1, iv l1), (2, iv l2), (3, iv l3)]) dX0_block_17 hl (Nat.le_of_ble_eq_true rfl) rfl (fun ls hl => ?_)
  exact w_ce_block_19 C Res hret N l1 l4_3 N (0#64) l0 _ _ _ (lv_sub hl [4, 2, 1, 0] rfl) h hf
abbrev rm_ce_first : Room := { frames := 0, cells := 0, slots := 0, locals := 0 }
set_option maxHeartbeats 4000000 in
set_option maxRecDepth 100000 in
theorem c_ce_first (l : Launch) (D : va_G) (cI cJ cZ cO : ClassId) (l0 : BitVec 64) (N : Nat) (Res : BitVec 64) (hf : f_ce_first N l0 = some Res) : CoL l D (xT cI cJ cZ cO) yX0_first cX0_first 2 (some .long) rm_ce_first [lv l0] [] Res [] := by
  refine co_l (by decide) ⟨rfl, rfl⟩ (Nat.le_of_ble_eq_true rfl) ?_
  intro p e s m args below meth c A Q ls C hret hl h
  have hx := C.1.1
  have hb := C.1.2.1
  have hl : lv_has ls 2 [(0, lv l0)] := hl
  unfold f_ce_first at hf
  refine lv_lload_n hx hb (pc := 0) dX0_first_0 rfl (lv_at hl 0 rfl) ?_
  refine lv_lload_n hx hb (pc := 1) dX0_first_1 rfl (lv_at hl 0 rfl) ?_
  refine x_lneg C (pc := 2) dX0_first_2 ?_
  refine x_land C (pc := 3) dX0_first_3 ?_
  have e9 := Option.some.inj hf
  subst e9
  exact hret _ _ _ _ dX0_first_4 h
abbrev rm_ce_numberOfFirst : Room := { frames := 1, cells := 0, slots := 0, locals := 21 }
set_option maxHeartbeats 4000000 in
set_option maxRecDepth 100000 in
theorem c_ce_numberOfFirst (l : Launch) (D : va_G) (cI cJ cZ cO : ClassId) (l0 : BitVec 64) (N : Nat) (Res : Int) (hf : f_ce_numberOfFirst N l0 = some Res) : CoI l D (xT cI cJ cZ cO) yX0_numberOfFirst cX0_numberOfFirst 2 (some .int) rm_ce_numberOfFirst [lv l0] [] Res [] := by
  refine co_i (by decide) ⟨rfl, rfl⟩ (Nat.le_of_ble_eq_true rfl) ?_
  intro p e s m args below meth c A Q ls C hret hl h
  have hx := C.1.1
  have hb := C.1.2.1
  have hl : lv_has ls 2 [(0, lv l0)] := hl
  unfold f_ce_numberOfFirst at hf
  refine lv_lload_n hx hb (pc := 0) dX0_numberOfFirst_0 rfl (lv_at hl 0 rfl) ?_
  obtain ⟨q_1, hq_1, hf⟩ := ob_some hf
  refine x_callSl C h (pc := 1) hl (c_ce_first l D cI cJ cZ cO l0 N q_1 hq_1) xs_X0_first lk_X0_17 ⟨(Nat.le_of_ble_eq_true rfl), (Nat.le_of_ble_eq_true rfl)⟩ rfl [] [] (nw := 0) (wr := []) (as := []) (ws' := []) rfl rfl rfl rfl rfl rfl rfl rfl rfl rfl (Nat.le_of_ble_eq_true rfl) dX0_numberOfFirst_1 (fun H locs h => ?_)
  refine x_lconst C (pc := 4) (x := 1#64) rfl dX0_numberOfFirst_4 ?_
  refine x_lsub C (pc := 5) dX0_numberOfFirst_5 ?_
  refine x_callSi C h (pc := 6) hl (c_popc l D (xT cI cJ cZ cO) (q_1 - 1#64)) xs_J13_bitCount_95d88 lk_X0_21 ⟨(Nat.le_of_ble_eq_true rfl), (Nat.le_of_ble_eq_true rfl)⟩ rfl [] [] (nw := 0) (wr := []) (as := []) (ws' := []) rfl rfl rfl rfl rfl rfl rfl rfl rfl rfl (Nat.le_of_ble_eq_true rfl) dX0_numberOfFirst_6 (fun H locs h => ?_)
  have e9 := Option.some.inj hf
  subst e9
  exact hret _ _ _ _ dX0_numberOfFirst_9 h
abbrev rm_ce_pairsRight : Room := { frames := 0, cells := 0, slots := 0, locals := 0 }
set_option maxHeartbeats 4000000 in
set_option maxRecDepth 100000 in
theorem c_ce_pairsRight (l : Launch) (D : va_G) (cI cJ cZ cO : ClassId) (l0 : BitVec 64) (N : Nat) (Res : BitVec 64) (hf : f_ce_pairsRight N l0 = some Res) : CoL l D (xT cI cJ cZ cO) yX0_pairsRight cX0_pairsRight 2 (some .long) rm_ce_pairsRight [lv l0] [] Res [] := by
  refine co_l (by decide) ⟨rfl, rfl⟩ (Nat.le_of_ble_eq_true rfl) ?_
  intro p e s m args below meth c A Q ls C hret hl h
  have hx := C.1.1
  have hb := C.1.2.1
  have hl : lv_has ls 2 [(0, lv l0)] := hl
  unfold f_ce_pairsRight at hf
  refine lv_lload_n hx hb (pc := 0) dX0_pairsRight_0 rfl (lv_at hl 0 rfl) ?_
  refine lv_lload_n hx hb (pc := 1) dX0_pairsRight_1 rfl (lv_at hl 0 rfl) ?_
  refine x_iconst C (pc := 2) dX0_pairsRight_2 ?_
  refine x_lushr C (pc := 3) ⟨by decide, by decide⟩ dX0_pairsRight_3 ?_
  refine x_land C (pc := 4) dX0_pairsRight_4 ?_
  have e9 := Option.some.inj hf
  subst e9
  exact hret _ _ _ _ dX0_pairsRight_5 h
abbrev rm_ce_pairsBelow : Room := { frames := 0, cells := 0, slots := 0, locals := 0 }
set_option maxHeartbeats 4000000 in
set_option maxRecDepth 100000 in
theorem c_ce_pairsBelow (l : Launch) (D : va_G) (cI cJ cZ cO : ClassId) (l0 : BitVec 64) (N : Nat) (Res : BitVec 64) (hf : f_ce_pairsBelow N l0 = some Res) : CoL l D (xT cI cJ cZ cO) yX0_pairsBelow cX0_pairsBelow 2 (some .long) rm_ce_pairsBelow [lv l0] [] Res [] := by
  refine co_l (by decide) ⟨rfl, rfl⟩ (Nat.le_of_ble_eq_true rfl) ?_
  intro p e s m args below meth c A Q ls C hret hl h
  have hx := C.1.1
  have hb := C.1.2.1
  have hl : lv_has ls 2 [(0, lv l0)] := hl
  unfold f_ce_pairsBelow at hf
  refine lv_lload_n hx hb (pc := 0) dX0_pairsBelow_0 rfl (lv_at hl 0 rfl) ?_
  refine lv_lload_n hx hb (pc := 1) dX0_pairsBelow_1 rfl (lv_at hl 0 rfl) ?_
  refine x_bipush C (pc := 2) dX0_pairsBelow_2 (by decide) ?_
  refine x_lushr C (pc := 4) ⟨by decide, by decide⟩ dX0_pairsBelow_4 ?_
  refine x_land C (pc := 5) dX0_pairsBelow_5 ?_
  have e9 := Option.some.inj hf
  subst e9
  exact hret _ _ _ _ dX0_pairsBelow_6 h
abbrev rm_ce_countPairs : Room := { frames := 1, cells := 0, slots := 0, locals := 21 }
set_option maxHeartbeats 4000000 in
set_option maxRecDepth 100000 in
theorem c_ce_countPairs (l : Launch) (D : va_G) (cI cJ cZ cO : ClassId) (l0 : BitVec 64) (N : Nat) (Res : Int) (hf : f_ce_countPairs N l0 = some Res) : CoI l D (xT cI cJ cZ cO) yX0_countPairs cX0_countPairs 2 (some .int) rm_ce_countPairs [lv l0] [] Res [] := by
  refine co_i (by decide) ⟨rfl, rfl⟩ (Nat.le_of_ble_eq_true rfl) ?_
  intro p e s m args below meth c A Q ls C hret hl h
  have hx := C.1.1
  have hb := C.1.2.1
  have hl : lv_has ls 2 [(0, lv l0)] := hl
  unfold f_ce_countPairs at hf
  refine lv_lload_n hx hb (pc := 0) dX0_countPairs_0 rfl (lv_at hl 0 rfl) ?_
  obtain ⟨q_1, hq_1, hf⟩ := ob_some hf
  refine x_callSl C h (pc := 1) hl (c_ce_pairsRight l D cI cJ cZ cO l0 N q_1 hq_1) xs_X0_pairsRight lk_X0_27 ⟨(Nat.le_of_ble_eq_true rfl), (Nat.le_of_ble_eq_true rfl)⟩ rfl [] [] (nw := 0) (wr := []) (as := []) (ws' := []) rfl rfl rfl rfl rfl rfl rfl rfl rfl rfl (Nat.le_of_ble_eq_true rfl) dX0_countPairs_1 (fun H locs h => ?_)
  refine x_callSi C h (pc := 4) hl (c_popc l D (xT cI cJ cZ cO) q_1) xs_J13_bitCount_95d88 lk_X0_21 ⟨(Nat.le_of_ble_eq_true rfl), (Nat.le_of_ble_eq_true rfl)⟩ rfl [] [] (nw := 0) (wr := []) (as := []) (ws' := []) rfl rfl rfl rfl rfl rfl rfl rfl rfl rfl (Nat.le_of_ble_eq_true rfl) dX0_countPairs_4 (fun H locs h => ?_)
  refine lv_lload_n hx hb (pc := 7) dX0_countPairs_7 rfl (lv_at hl 0 rfl) ?_
  obtain ⟨q_2, hq_2, hf⟩ := ob_some hf
  refine x_callSl C h (pc := 8) hl (c_ce_pairsBelow l D cI cJ cZ cO l0 N q_2 hq_2) xs_X0_pairsBelow lk_X0_30 ⟨(Nat.le_of_ble_eq_true rfl), (Nat.le_of_ble_eq_true rfl)⟩ rfl [] [] (nw := 0) (wr := []) (as := []) (ws' := []) rfl rfl rfl rfl rfl rfl rfl rfl rfl rfl (Nat.le_of_ble_eq_true rfl) dX0_countPairs_8 (fun H locs h => ?_)
  refine x_callSi C h (pc := 11) hl (c_popc l D (xT cI cJ cZ cO) q_2) xs_J13_bitCount_95d88 lk_X0_21 ⟨(Nat.le_of_ble_eq_true rfl), (Nat.le_of_ble_eq_true rfl)⟩ rfl [] [] (nw := 0) (wr := []) (as := []) (ws' := []) rfl rfl rfl rfl rfl rfl rfl rfl rfl rfl (Nat.le_of_ble_eq_true rfl) dX0_countPairs_11 (fun H locs h => ?_)
  refine x_iadd C (pc := 14) dX0_countPairs_14 ?_
  have e9 := Option.some.inj hf
  subst e9
  exact hret _ _ _ _ dX0_countPairs_15 h
abbrev rm_ce_beside : Room := { frames := 0, cells := 0, slots := 0, locals := 0 }
set_option maxHeartbeats 4000000 in
set_option maxRecDepth 100000 in
theorem c_ce_beside (l : Launch) (D : va_G) (cI cJ cZ cO : ClassId) (l0 : BitVec 64) (N : Nat) (Res : BitVec 64) (hf : f_ce_beside N l0 = some Res) : CoL l D (xT cI cJ cZ cO) yX0_beside cX0_beside 2 (some .long) rm_ce_beside [lv l0] [] Res [] := by
  refine co_l (by decide) ⟨rfl, rfl⟩ (Nat.le_of_ble_eq_true rfl) ?_
  intro p e s m args below meth c A Q ls C hret hl h
  have hx := C.1.1
  have hb := C.1.2.1
  have hl : lv_has ls 2 [(0, lv l0)] := hl
  unfold f_ce_beside at hf
  refine lv_lload_n hx hb (pc := 0) dX0_beside_0 rfl (lv_at hl 0 rfl) ?_
  refine x_iconst C (pc := 1) dX0_beside_1 ?_
  refine x_lshl C (pc := 2) ⟨by decide, by decide⟩ dX0_beside_2 ?_
  refine lv_lload_n hx hb (pc := 3) dX0_beside_3 rfl (lv_at hl 0 rfl) ?_
  refine x_iconst C (pc := 4) dX0_beside_4 ?_
  refine x_lushr C (pc := 5) ⟨by decide, by decide⟩ dX0_beside_5 ?_
  refine x_lor C (pc := 6) dX0_beside_6 ?_
  refine lv_lload_n hx hb (pc := 7) dX0_beside_7 rfl (lv_at hl 0 rfl) ?_
  refine x_bipush C (pc := 8) dX0_beside_8 (by decide) ?_
  refine x_lshl C (pc := 10) ⟨by decide, by decide⟩ dX0_beside_10 ?_
  refine x_lor C (pc := 11) dX0_beside_11 ?_
  refine lv_lload_n hx hb (pc := 12) dX0_beside_12 rfl (lv_at hl 0 rfl) ?_
  refine x_bipush C (pc := 13) dX0_beside_13 (by decide) ?_
  refine x_lushr C (pc := 15) ⟨by decide, by decide⟩ dX0_beside_15 ?_
  refine x_lor C (pc := 16) dX0_beside_16 ?_
  have e9 := Option.some.inj hf
  subst e9
  exact hret _ _ _ _ dX0_beside_17 h
abbrev rm_ce_countInnerCorners : Room := { frames := 1, cells := 0, slots := 0, locals := 21 }
set_option maxHeartbeats 4000000 in
set_option maxRecDepth 100000 in
theorem c_ce_countInnerCorners (l : Launch) (D : va_G) (cI cJ cZ cO : ClassId) (l0 : BitVec 64) (N : Nat) (Res : Int) (hf : f_ce_countInnerCorners N l0 = some Res) : CoI l D (xT cI cJ cZ cO) yX0_countInnerCorners cX0_countInnerCorners 12 (some .int) rm_ce_countInnerCorners [lv l0] [] Res [] := by
  refine co_i (by decide) ⟨rfl, rfl⟩ (Nat.le_of_ble_eq_true rfl) ?_
  intro p e s m args below meth c A Q ls C hret hl h
  have hx := C.1.1
  have hb := C.1.2.1
  have hl : lv_has ls 12 [(0, lv l0)] := hl
  unfold f_ce_countInnerCorners at hf
  refine lv_lload_n hx hb (pc := 0) dX0_countInnerCorners_0 rfl (lv_at hl 0 rfl) ?_
  refine x_iconst C (pc := 1) dX0_countInnerCorners_1 ?_
  refine x_lushr C (pc := 2) ⟨by decide, by decide⟩ dX0_countInnerCorners_2 ?_
  obtain ⟨l2_1, el2_1, hf⟩ := ol_some hf
  refine x_topl el2_1 ?_
  refine lv_lstore_n hx hb (pc := 3) (lv' := [(2, lv l2_1), (0, lv l0)]) dX0_countInnerCorners_3 rfl hl (Nat.le_of_ble_eq_true rfl) rfl (fun ls hl => ?_)
  refine lv_lload_n hx hb (pc := 4) dX0_countInnerCorners_4 rfl (lv_at hl 1 rfl) ?_
  refine x_bipush C (pc := 5) dX0_countInnerCorners_5 (by decide) ?_
  refine x_lushr C (pc := 7) ⟨by decide, by decide⟩ dX0_countInnerCorners_7 ?_
  obtain ⟨l4_2, el4_2, hf⟩ := ol_some hf
  refine x_topl el4_2 ?_
  refine lv_lstore hx hb (pc := 8) (lv' := [(4, lv l4_2), (2, lv l2_1), (0, lv l0)]) dX0_countInnerCorners_8 hl (Nat.le_of_ble_eq_true rfl) rfl (fun ls hl => ?_)
  refine lv_lload_n hx hb (pc := 10) dX0_countInnerCorners_10 rfl (lv_at hl 2 rfl) ?_
  refine x_bipush C (pc := 11) dX0_countInnerCorners_11 (by decide) ?_
  refine x_lushr C (pc := 13) ⟨by decide, by decide⟩ dX0_countInnerCorners_13 ?_
  obtain ⟨l6_3, el6_3, hf⟩ := ol_some hf
  refine x_topl el6_3 ?_
  refine lv_lstore hx hb (pc := 14) (lv' := [(6, lv l6_3), (4, lv l4_2), (2, lv l2_1), (0, lv l0)]) dX0_countInnerCorners_14 hl (Nat.le_of_ble_eq_true rfl) rfl (fun ls hl => ?_)
  refine lv_lload_n hx hb (pc := 16) dX0_countInnerCorners_16 rfl (lv_at hl 3 rfl) ?_
  refine lv_lload_n hx hb (pc := 17) dX0_countInnerCorners_17 rfl (lv_at hl 2 rfl) ?_
  refine x_land C (pc := 18) dX0_countInnerCorners_18 ?_
  refine lv_lload hx hb (pc := 19) dX0_countInnerCorners_19 (lv_at hl 1 rfl) ?_
  refine lv_lload hx hb (pc := 21) dX0_countInnerCorners_21 (lv_at hl 0 rfl) ?_
  refine x_lxor C (pc := 23) dX0_countInnerCorners_23 ?_
  refine x_land C (pc := 24) dX0_countInnerCorners_24 ?_
  obtain ⟨l8_4, el8_4, hf⟩ := ol_some hf
  refine x_topl el8_4 ?_
  refine lv_lstore hx hb (pc := 25) (lv' := [(8, lv l8_4), (6, lv l6_3), (4, lv l4_2), (2, lv l2_1), (0, lv l0)]) dX0_countInnerCorners_25 hl (Nat.le_of_ble_eq_true rfl) rfl (fun ls hl => ?_)
  refine lv_lload_n hx hb (pc := 27) dX0_countInnerCorners_27 rfl (lv_at hl 4 rfl) ?_
  refine lv_lload_n hx hb (pc := 28) dX0_countInnerCorners_28 rfl (lv_at hl 3 rfl) ?_
  refine x_lxor C (pc := 29) dX0_countInnerCorners_29 ?_
  refine lv_lload hx hb (pc := 30) dX0_countInnerCorners_30 (lv_at hl 2 rfl) ?_
  refine x_land C (pc := 32) dX0_countInnerCorners_32 ?_
  refine lv_lload hx hb (pc := 33) dX0_countInnerCorners_33 (lv_at hl 1 rfl) ?_
  refine x_land C (pc := 35) dX0_countInnerCorners_35 ?_
  obtain ⟨l10_5, el10_5, hf⟩ := ol_some hf
  refine x_topl el10_5 ?_
  refine lv_lstore hx hb (pc := 36) (lv' := [(10, lv l10_5), (8, lv l8_4), (6, lv l6_3), (4, lv l4_2), (2, lv l2_1), (0, lv l0)]) dX0_countInnerCorners_36 hl (Nat.le_of_ble_eq_true rfl) rfl (fun ls hl => ?_)
  refine lv_lload hx hb (pc := 38) dX0_countInnerCorners_38 (lv_at hl 1 rfl) ?_
  refine lv_lload hx hb (pc := 40) dX0_countInnerCorners_40 (lv_at hl 0 rfl) ?_
  refine x_lor C (pc := 42) dX0_countInnerCorners_42 ?_
  refine x_callSi C h (pc := 43) hl (c_popc l D (xT cI cJ cZ cO) (l8_4 ||| l10_5)) xs_J13_bitCount_95d88 lk_X0_21 ⟨(Nat.le_of_ble_eq_true rfl), (Nat.le_of_ble_eq_true rfl)⟩ rfl [] [] (nw := 0) (wr := []) (as := []) (ws' := []) rfl rfl rfl rfl rfl rfl rfl rfl rfl rfl (Nat.le_of_ble_eq_true rfl) dX0_countInnerCorners_43 (fun H locs h => ?_)
  have e9 := Option.some.inj hf
  subst e9
  exact hret _ _ _ _ dX0_countInnerCorners_46 h
abbrev rm_ce_connected : Room := { frames := 0, cells := 0, slots := 0, locals := 0 }
set_option maxHeartbeats 4000000 in
set_option maxRecDepth 100000 in
theorem w_ce_connected_6 {p : Program} {l : Launch} {e : Env} {s : State} {m : MethodId} {args : Array Value} {below : List Frame} {meth : Method} {c : Code} {Q : State → Prop} {D : va_G} {cI cJ cZ cO : ClassId} {A : Nat → Prop} {H0 : Heap} {w0 : Cond} (C : XC p s m args c cX0_connected 11 RX0 w0 D (xT cI cJ cZ cO)) (Res : BitVec 64) (hret : XRL p l e rm_ce_connected s m args below meth c cX0_connected D A H0 Q Res []) (N : Nat) (l2 : BitVec 64) : ∀ (n : Nat) (l4 : BitVec 64) (l6 : Int) (ls : Array Slot) (H : Heap) (locs : List Loc), lv_has ls 11 [(2, lv l2), (4, lv l4), (6, iv l6)] → XH D A H0 [] H locs → f_ce_connected_6 N l2 n l4 l6 = some Res → W p l e rm_ce_connected s m args below meth c H locs 0 0 Q (F0 m 6 ls []) := by
  have hx := C.1.1
  have hb := C.1.2.1
  intro n
  induction n with
  | zero => intro l4 l6 ls H locs hl h hf; cases hf
  | succ n ih =>
    intro l4 l6 ls H locs hl h hf
    rw [f_ce_connected_6.eq_2] at hf
    refine lv_iload hx hb (pc := 6) dX0_connected_6 (lv_at hl 2 rfl) ?_
    refine x_bipush C (pc := 8) dX0_connected_8 (by decide) ?_
    obtain ⟨g_1, hf⟩ := og_some hf
    refine x_icmpge C (pc := 10) (tgt := 66) g_1 ⟨by decide, by decide⟩ dX0_connected_10 rfl (fun hc => ?_) (fun hc => ?_)
    · have hf := oi_t hf hc
      refine lv_lload hx hb (pc := 66) dX0_connected_66 (lv_at hl 1 rfl) ?_
      have e9 := Option.some.inj hf
      subst e9
      exact hret _ _ _ _ dX0_connected_68 h
    · have hf := oi_f hf hc
      refine lv_lload hx hb (pc := 13) dX0_connected_13 (lv_at hl 1 rfl) ?_
      refine lv_lload hx hb (pc := 15) dX0_connected_15 (lv_at hl 1 rfl) ?_
      refine x_iconst C (pc := 17) dX0_connected_17 ?_
      refine x_lshl C (pc := 18) ⟨by decide, by decide⟩ dX0_connected_18 ?_
      refine x_lor C (pc := 19) dX0_connected_19 ?_
      refine lv_lload hx hb (pc := 20) dX0_connected_20 (lv_at hl 1 rfl) ?_
      refine x_iconst C (pc := 22) dX0_connected_22 ?_
      refine x_lushr C (pc := 23) ⟨by decide, by decide⟩ dX0_connected_23 ?_
      refine x_lor C (pc := 24) dX0_connected_24 ?_
      obtain ⟨l7_2, el7_2, hf⟩ := ol_some hf
      refine x_topl el7_2 ?_
      refine lv_lstore hx hb (pc := 25) (lv' := [(7, lv l7_2), (2, lv l2), (4, lv l4), (6, iv l6)]) dX0_connected_25 hl (Nat.le_of_ble_eq_true rfl) rfl (fun ls hl => ?_)
      refine lv_lload hx hb (pc := 27) dX0_connected_27 (lv_at hl 0 rfl) ?_
      refine lv_lload hx hb (pc := 29) dX0_connected_29 (lv_at hl 0 rfl) ?_
      refine x_bipush C (pc := 31) dX0_connected_31 (by decide) ?_
      refine x_lshl C (pc := 33) ⟨by decide, by decide⟩ dX0_connected_33 ?_
      refine x_lor C (pc := 34) dX0_connected_34 ?_
      refine lv_lload hx hb (pc := 35) dX0_connected_35 (lv_at hl 0 rfl) ?_
      refine x_bipush C (pc := 37) dX0_connected_37 (by decide) ?_
      refine x_lushr C (pc := 39) ⟨by decide, by decide⟩ dX0_connected_39 ?_
      refine x_lor C (pc := 40) dX0_connected_40 ?_
      refine lv_lload_n hx hb (pc := 41) dX0_connected_41 rfl (lv_at hl 1 rfl) ?_
      refine x_land C (pc := 42) dX0_connected_42 ?_
      obtain ⟨l9_3, el9_3, hf⟩ := ol_some hf
      refine x_topl el9_3 ?_
      refine lv_lstore hx hb (pc := 43) (lv' := [(9, lv l9_3), (7, lv l7_2), (2, lv l2), (4, lv l4), (6, iv l6)]) dX0_connected_43 hl (Nat.le_of_ble_eq_true rfl) rfl (fun ls hl => ?_)
      refine lv_lload hx hb (pc := 45) dX0_connected_45 (lv_at hl 0 rfl) ?_
      refine lv_lload hx hb (pc := 47) dX0_connected_47 (lv_at hl 3 rfl) ?_
      refine x_lcmpne C (pc := 49) (tgt := 56) dX0_connected_49 dX0_connected_50 rfl (fun hc => ?_) (fun hc => ?_)
      · have hf := oi_f hf hc
        refine lv_lload hx hb (pc := 56) dX0_connected_56 (lv_at hl 0 rfl) ?_
        refine lv_lstore hx hb (pc := 58) (lv' := [(4, lv l9_3), (9, lv l9_3), (7, lv l7_2), (2, lv l2), (6, iv l6)]) dX0_connected_58 hl (Nat.le_of_ble_eq_true rfl) rfl (fun ls hl => ?_)
        obtain ⟨l6_4, el6_4, hf⟩ := ol_some hf
        refine x_iinc C (pc := 60) (k := 4) (lw' := [(6, iv l6_4), (4, lv l9_3), (9, lv l9_3), (7, lv l7_2), (2, lv l2)]) dX0_connected_60 hl rfl el6_4 (Nat.le_of_ble_eq_true rfl) rfl (fun ls hl => ?_)
        refine lv_goto hx hb (pc := 63) (tgt := 6) dX0_connected_63 rfl ?_
        exact ih l9_3 l6_4 _ _ _ (lv_sub hl [4, 1, 0] rfl) h hf
      · have hf := oi_t hf hc
        refine lv_goto hx hb (pc := 53) (tgt := 66) dX0_connected_53 rfl ?_
        refine lv_lload hx hb (pc := 66) dX0_connected_66 (lv_at hl 3 rfl) ?_
        have e9 := Option.some.inj hf
        subst e9
        exact hret _ _ _ _ dX0_connected_68 h
set_option maxHeartbeats 4000000 in
set_option maxRecDepth 100000 in
theorem c_ce_connected (l : Launch) (D : va_G) (cI cJ cZ cO : ClassId) (l0 : BitVec 64) (l2 : BitVec 64) (N : Nat) (Res : BitVec 64) (hf : f_ce_connected N l0 l2 = some Res) : CoL l D (xT cI cJ cZ cO) yX0_connected cX0_connected 11 (some .long) rm_ce_connected [lv l0, lv l2] [] Res [] := by
  refine co_l (by decide) ⟨rfl, rfl⟩ (Nat.le_of_ble_eq_true rfl) ?_
  intro p e s m args below meth c A Q ls C hret hl h
  have hx := C.1.1
  have hb := C.1.2.1
  have hl : lv_has ls 11 [(0, lv l0), (2, lv l2)] := hl
  unfold f_ce_connected at hf
  refine lv_lload_n hx hb (pc := 0) dX0_connected_0 rfl (lv_at hl 0 rfl) ?_
  refine lv_lstore hx hb (pc := 1) (lv' := [(4, lv l0), (0, lv l0), (2, lv l2)]) dX0_connected_1 hl (Nat.le_of_ble_eq_true rfl) rfl (fun ls hl => ?_)
  refine x_iconst C (pc := 3) dX0_connected_3 ?_
  refine lv_istore hx hb (pc := 4) (lv' := [(6, iv 0), (4, lv l0), (0, lv l0), (2, lv l2)]) dX0_connected_4 hl (Nat.le_of_ble_eq_true rfl) rfl (fun ls hl => ?_)
  exact w_ce_connected_6 C Res hret N l2 N l0 0 _ _ _ (lv_sub hl [3, 1, 0] rfl) h hf
abbrev rm_ce_countHoles : Room := { frames := 1, cells := 0, slots := 0, locals := 30 }
set_option maxHeartbeats 4000000 in
set_option maxRecDepth 100000 in
theorem w_ce_countHoles_59 {p : Program} {l : Launch} {e : Env} {s : State} {m : MethodId} {args : Array Value} {below : List Frame} {meth : Method} {c : Code} {Q : State → Prop} {D : va_G} {cI cJ cZ cO : ClassId} {A : Nat → Prop} {H0 : Heap} {w0 : Cond} (C : XC p s m args c cX0_countHoles 12 RX0 w0 D (xT cI cJ cZ cO)) (Res : Int) (hret : XRI p l e rm_ce_countHoles s m args below meth c cX0_countHoles D A H0 Q Res []) (N : Nat) : ∀ (n : Nat) (l8 : BitVec 64) (l10 : Int) (l11 : Int) (ls : Array Slot) (H : Heap) (locs : List Loc), lv_has ls 12 [(8, lv l8), (10, iv l10), (11, iv l11)] → XH D A H0 [] H locs → f_ce_countHoles_59 N n l8 l10 l11 = some Res → W p l e rm_ce_countHoles s m args below meth c H locs 0 0 Q (F0 m 59 ls []) := by
  have hx := C.1.1
  have hb := C.1.2.1
  intro n
  induction n with
  | zero => intro l8 l10 l11 ls H locs hl h hf; cases hf
  | succ n ih =>
    intro l8 l10 l11 ls H locs hl h hf
    rw [f_ce_countHoles_59.eq_2] at hf
    refine lv_iload hx hb (pc := 59) dX0_countHoles_59 (lv_at hl 2 rfl) ?_
    refine x_bipush C (pc := 61) dX0_countHoles_61 (by decide) ?_
    obtain ⟨g_5, hf⟩ := og_some hf
    refine x_icmpge C (pc := 63) (tgt := 101) g_5 ⟨by decide, by decide⟩ dX0_countHoles_63 rfl (fun hc => ?_) (fun hc => ?_)
    · have hf := oi_t hf hc
      refine lv_iload hx hb (pc := 101) dX0_countHoles_101 (lv_at hl 1 rfl) ?_
      have e9 := Option.some.inj hf
      subst e9
      exact hret _ _ _ _ dX0_countHoles_103 h
    · have hf := oi_f hf hc
      refine lv_lload hx hb (pc := 66) dX0_countHoles_66 (lv_at hl 0 rfl) ?_
      refine x_lconst C (pc := 68) (x := 0#64) rfl dX0_countHoles_68 ?_
      refine x_lcmpeq C (pc := 69) (tgt := 101) dX0_countHoles_69 dX0_countHoles_70 rfl (fun hc => ?_) (fun hc => ?_)
      · have hf := oi_t hf hc
        refine lv_iload hx hb (pc := 101) dX0_countHoles_101 (lv_at hl 1 rfl) ?_
        have e9 := Option.some.inj hf
        subst e9
        exact hret _ _ _ _ dX0_countHoles_103 h
      · have hf := oi_f hf hc
        refine lv_lload hx hb (pc := 73) dX0_countHoles_73 (lv_at hl 0 rfl) ?_
        refine lv_lload hx hb (pc := 75) dX0_countHoles_75 (lv_at hl 0 rfl) ?_
        obtain ⟨q_6, hq_6, hf⟩ := ob_some hf
        refine x_callSl C h (pc := 77) hl (c_ce_first l D cI cJ cZ cO l8 N q_6 hq_6) xs_X0_first lk_X0_17 ⟨(Nat.le_of_ble_eq_true rfl), (Nat.le_of_ble_eq_true rfl)⟩ rfl [] [] (nw := 0) (wr := []) (as := []) (ws' := []) rfl rfl rfl rfl rfl rfl rfl rfl rfl rfl (Nat.le_of_ble_eq_true rfl) dX0_countHoles_77 (fun H locs h => ?_)
        refine lv_lload hx hb (pc := 80) dX0_countHoles_80 (lv_at hl 0 rfl) ?_
        obtain ⟨q_7, hq_7, hf⟩ := ob_some hf
        refine x_callSl C h (pc := 82) hl (c_ce_connected l D cI cJ cZ cO q_6 l8 N q_7 hq_7) xs_X0_connected lk_X0_35 ⟨(Nat.le_of_ble_eq_true rfl), (Nat.le_of_ble_eq_true rfl)⟩ rfl [] [] (nw := 0) (wr := []) (as := []) (ws' := []) rfl rfl rfl rfl rfl rfl rfl rfl rfl rfl (Nat.le_of_ble_eq_true rfl) dX0_countHoles_82 (fun H locs h => ?_)
        refine x_ldc2 C (pc := 85) (x := 18446744073709551615#64) wk_X0_33 (by decide) dX0_countHoles_85 ?_
        refine x_lxor C (pc := 88) dX0_countHoles_88 ?_
        refine x_land C (pc := 89) dX0_countHoles_89 ?_
        obtain ⟨l8_8, el8_8, hf⟩ := ol_some hf
        refine x_topl el8_8 ?_
        refine lv_lstore hx hb (pc := 90) (lv' := [(8, lv l8_8), (10, iv l10), (11, iv l11)]) dX0_countHoles_90 hl (Nat.le_of_ble_eq_true rfl) rfl (fun ls hl => ?_)
        obtain ⟨l10_9, el10_9, hf⟩ := ol_some hf
        refine x_iinc C (pc := 92) (k := 1) (lw' := [(10, iv l10_9), (8, lv l8_8), (11, iv l11)]) dX0_countHoles_92 hl rfl el10_9 (Nat.le_of_ble_eq_true rfl) rfl (fun ls hl => ?_)
        obtain ⟨l11_10, el11_10, hf⟩ := ol_some hf
        refine x_iinc C (pc := 95) (k := 2) (lw' := [(11, iv l11_10), (10, iv l10_9), (8, lv l8_8)]) dX0_countHoles_95 hl rfl el11_10 (Nat.le_of_ble_eq_true rfl) rfl (fun ls hl => ?_)
        refine lv_goto hx hb (pc := 98) (tgt := 59) dX0_countHoles_98 rfl ?_
        exact ih l8_8 l10_9 l11_10 _ _ _ (lv_sub hl [2, 1, 0] rfl) h hf
set_option maxHeartbeats 4000000 in
set_option maxRecDepth 100000 in
theorem c_ce_countHoles (l : Launch) (D : va_G) (cI cJ cZ cO : ClassId) (l0 : BitVec 64) (l2 : BitVec 64) (N : Nat) (Res : Int) (hf : f_ce_countHoles N l0 l2 = some Res) : CoI l D (xT cI cJ cZ cO) yX0_countHoles cX0_countHoles 12 (some .int) rm_ce_countHoles [lv l0, lv l2] [] Res [] := by
  refine co_i (by decide) ⟨rfl, rfl⟩ (Nat.le_of_ble_eq_true rfl) ?_
  intro p e s m args below meth c A Q ls C hret hl h
  have hx := C.1.1
  have hb := C.1.2.1
  have hl : lv_has ls 12 [(0, lv l0), (2, lv l2)] := hl
  unfold f_ce_countHoles at hf
  refine lv_lload_n hx hb (pc := 0) dX0_countHoles_0 rfl (lv_at hl 1 rfl) ?_
  refine lv_lload_n hx hb (pc := 1) dX0_countHoles_1 rfl (lv_at hl 0 rfl) ?_
  refine x_ldc2 C (pc := 2) (x := 18446744073709551615#64) wk_X0_33 (by decide) dX0_countHoles_2 ?_
  refine x_lxor C (pc := 5) dX0_countHoles_5 ?_
  refine x_land C (pc := 6) dX0_countHoles_6 ?_
  obtain ⟨l4_1, el4_1, hf⟩ := ol_some hf
  refine x_topl el4_1 ?_
  refine lv_lstore hx hb (pc := 7) (lv' := [(4, lv l4_1), (0, lv l0), (2, lv l2)]) dX0_countHoles_7 hl (Nat.le_of_ble_eq_true rfl) rfl (fun ls hl => ?_)
  refine lv_lload_n hx hb (pc := 9) dX0_countHoles_9 rfl (lv_at hl 2 rfl) ?_
  refine lv_lload_n hx hb (pc := 10) dX0_countHoles_10 rfl (lv_at hl 2 rfl) ?_
  refine x_iconst C (pc := 11) dX0_countHoles_11 ?_
  refine x_lshl C (pc := 12) ⟨by decide, by decide⟩ dX0_countHoles_12 ?_
  refine x_land C (pc := 13) dX0_countHoles_13 ?_
  refine lv_lload_n hx hb (pc := 14) dX0_countHoles_14 rfl (lv_at hl 2 rfl) ?_
  refine x_iconst C (pc := 15) dX0_countHoles_15 ?_
  refine x_lushr C (pc := 16) ⟨by decide, by decide⟩ dX0_countHoles_16 ?_
  refine x_land C (pc := 17) dX0_countHoles_17 ?_
  refine lv_lload_n hx hb (pc := 18) dX0_countHoles_18 rfl (lv_at hl 2 rfl) ?_
  refine x_bipush C (pc := 19) dX0_countHoles_19 (by decide) ?_
  refine x_lshl C (pc := 21) ⟨by decide, by decide⟩ dX0_countHoles_21 ?_
  refine x_land C (pc := 22) dX0_countHoles_22 ?_
  refine lv_lload_n hx hb (pc := 23) dX0_countHoles_23 rfl (lv_at hl 2 rfl) ?_
  refine x_bipush C (pc := 24) dX0_countHoles_24 (by decide) ?_
  refine x_lushr C (pc := 26) ⟨by decide, by decide⟩ dX0_countHoles_26 ?_
  refine x_land C (pc := 27) dX0_countHoles_27 ?_
  obtain ⟨l6_2, el6_2, hf⟩ := ol_some hf
  refine x_topl el6_2 ?_
  refine lv_lstore hx hb (pc := 28) (lv' := [(6, lv l6_2), (4, lv l4_1), (0, lv l0), (2, lv l2)]) dX0_countHoles_28 hl (Nat.le_of_ble_eq_true rfl) rfl (fun ls hl => ?_)
  refine lv_lload hx hb (pc := 30) dX0_countHoles_30 (lv_at hl 1 rfl) ?_
  refine lv_lload hx hb (pc := 32) dX0_countHoles_32 (lv_at hl 1 rfl) ?_
  refine lv_lload hx hb (pc := 34) dX0_countHoles_34 (lv_at hl 0 rfl) ?_
  refine x_ldc2 C (pc := 36) (x := 18446744073709551615#64) wk_X0_33 (by decide) dX0_countHoles_36 ?_
  refine x_lxor C (pc := 39) dX0_countHoles_39 ?_
  refine x_land C (pc := 40) dX0_countHoles_40 ?_
  refine lv_lload hx hb (pc := 41) dX0_countHoles_41 (lv_at hl 1 rfl) ?_
  obtain ⟨q_3, hq_3, hf⟩ := ob_some hf
  refine x_callSl C h (pc := 43) hl (c_ce_connected l D cI cJ cZ cO (l4_1 &&& (l6_2 ^^^ 18446744073709551615#64)) l4_1 N q_3 hq_3) xs_X0_connected lk_X0_35 ⟨(Nat.le_of_ble_eq_true rfl), (Nat.le_of_ble_eq_true rfl)⟩ rfl [] [] (nw := 0) (wr := []) (as := []) (ws' := []) rfl rfl rfl rfl rfl rfl rfl rfl rfl rfl (Nat.le_of_ble_eq_true rfl) dX0_countHoles_43 (fun H locs h => ?_)
  refine x_ldc2 C (pc := 46) (x := 18446744073709551615#64) wk_X0_33 (by decide) dX0_countHoles_46 ?_
  refine x_lxor C (pc := 49) dX0_countHoles_49 ?_
  refine x_land C (pc := 50) dX0_countHoles_50 ?_
  obtain ⟨l8_4, el8_4, hf⟩ := ol_some hf
  refine x_topl el8_4 ?_
  refine lv_lstore hx hb (pc := 51) (lv' := [(8, lv l8_4), (6, lv l6_2), (4, lv l4_1), (0, lv l0), (2, lv l2)]) dX0_countHoles_51 hl (Nat.le_of_ble_eq_true rfl) rfl (fun ls hl => ?_)
  refine x_iconst C (pc := 53) dX0_countHoles_53 ?_
  refine lv_istore hx hb (pc := 54) (lv' := [(10, iv 0), (8, lv l8_4), (6, lv l6_2), (4, lv l4_1), (0, lv l0), (2, lv l2)]) dX0_countHoles_54 hl (Nat.le_of_ble_eq_true rfl) rfl (fun ls hl => ?_)
  refine x_iconst C (pc := 56) dX0_countHoles_56 ?_
  refine lv_istore hx hb (pc := 57) (lv' := [(11, iv 0), (10, iv 0), (8, lv l8_4), (6, lv l6_2), (4, lv l4_1), (0, lv l0), (2, lv l2)]) dX0_countHoles_57 hl (Nat.le_of_ble_eq_true rfl) rfl (fun ls hl => ?_)
  exact w_ce_countHoles_59 C Res hret N N l8_4 0 0 _ _ _ (lv_sub hl [2, 1, 0] rfl) h hf
