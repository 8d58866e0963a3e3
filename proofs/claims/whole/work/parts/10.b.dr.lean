abbrev rm_dr_copyFrom : Room := { frames := 1, cells := 0, slots := 0, locals := 60 }
set_option maxHeartbeats 4000000 in
set_option maxRecDepth 100000 in
theorem c_dr_copyFrom (l : Launch) (D : va_G) (cI cJ cZ cO : ClassId) (xD xDc xE xEc : Nat) (D_rows : Int) (D_cols : Int) (D_cr : BitVec 64) (D_cb : BitVec 64) (D_cl : Int) (D_kl : Int) (D_col : Int → Int) (E_rows : Int) (E_cols : Int) (E_cr : BitVec 64) (E_cb : BitVec 64) (E_cl : Int) (E_kl : Int) (E_col : Int → Int) (N : Nat) (Res : Int × Int × BitVec 64 × BitVec 64 × Int × Int × (Int → Int)) (hf : f_dr_copyFrom N D_rows D_cols D_cr D_cb D_cl D_kl D_col E_rows E_cols E_cr E_cb E_cl E_kl E_col = some Res) : CoV l D (xT cI cJ cZ cO) yX2_copyFrom cX2_copyFrom 2 none rm_dr_copyFrom [.ref xD, .ref xE] [(xD, oD xDc D_rows D_cols D_cr D_cb D_cl D_kl), (xDc, aI cI 56 D_col), (xE, oD xEc E_rows E_cols E_cr E_cb E_cl E_kl), (xEc, aI cI 56 E_col)] [(xD, oD xDc Res.1 Res.2.1 Res.2.2.1 Res.2.2.2.1 Res.2.2.2.2.1 Res.2.2.2.2.2.1), (xDc, aI cI 56 Res.2.2.2.2.2.2), (xE, oD xEc E_rows E_cols E_cr E_cb E_cl E_kl), (xEc, aI cI 56 E_col)] := by
  refine co_v (by decide) ⟨rfl, rfl⟩ (Nat.le_of_ble_eq_true rfl) ?_
  intro p e s m args below meth c A Q ls C hret hl h
  have hx := C.1.1
  have hb := C.1.2.1
  have hl : lv_has ls 2 [(0, .ref xD), (1, .ref xE)] := hl
  unfold f_dr_copyFrom at hf
  refine lv_aload_n hx hb (pc := 0) dX2_copyFrom_0 rfl (lv_at hl 0 rfl) ?_
  refine lv_aload_n hx hb (pc := 1) dX2_copyFrom_1 rfl (lv_at hl 1 rfl) ?_
  refine x_get C h (pc := 2) xf_X2_7 2 rfl (v := iv E_rows) rfl dX2_copyFrom_2 ?_
  refine x_puti C h (pc := 5) (ws' := [(xD, oD xDc E_rows D_cols D_cr D_cb D_cl D_kl), (xDc, aI cI 56 D_col), (xE, oD xEc E_rows E_cols E_cr E_cb E_cl E_kl), (xEc, aI cI 56 E_col)]) xf_X2_7 xp_X2 rfl 0 rfl rfl (Nat.le_of_ble_eq_true rfl) rfl dX2_copyFrom_5 (fun H locs h => ?_)
  refine lv_aload_n hx hb (pc := 8) dX2_copyFrom_8 rfl (lv_at hl 0 rfl) ?_
  refine lv_aload_n hx hb (pc := 9) dX2_copyFrom_9 rfl (lv_at hl 1 rfl) ?_
  refine x_get C h (pc := 10) xf_X2_13 2 rfl (v := iv E_cols) rfl dX2_copyFrom_10 ?_
  refine x_puti C h (pc := 13) (ws' := [(xD, oD xDc E_rows E_cols D_cr D_cb D_cl D_kl), (xDc, aI cI 56 D_col), (xE, oD xEc E_rows E_cols E_cr E_cb E_cl E_kl), (xEc, aI cI 56 E_col)]) xf_X2_13 xp_X2 rfl 0 rfl rfl (Nat.le_of_ble_eq_true rfl) rfl dX2_copyFrom_13 (fun H locs h => ?_)
  refine lv_aload_n hx hb (pc := 16) dX2_copyFrom_16 rfl (lv_at hl 1 rfl) ?_
  refine x_get C h (pc := 17) xf_X2_18 2 rfl (v := .ref xEc) rfl dX2_copyFrom_17 ?_
  refine x_iconst C (pc := 20) dX2_copyFrom_20 ?_
  refine lv_aload_n hx hb (pc := 21) dX2_copyFrom_21 rfl (lv_at hl 0 rfl) ?_
  refine x_get C h (pc := 22) xf_X2_18 0 rfl (v := .ref xDc) rfl dX2_copyFrom_22 ?_
  refine x_iconst C (pc := 25) dX2_copyFrom_25 ?_
  refine x_bipush C (pc := 26) dX2_copyFrom_26 (by decide) ?_
  obtain ⟨D_col_1, eD_col_1, hf⟩ := ol_some hf
  refine x_copy C h (pc := 28) (ws' := [(xD, oD xDc E_rows E_cols D_cr D_cb D_cl D_kl), (xDc, aI cI 56 D_col_1), (xE, oD xEc E_rows E_cols E_cr E_cb E_cl E_kl), (xEc, aI cI 56 E_col)]) hl lk_X2_35 ⟨(Nat.le_of_ble_eq_true rfl), (Nat.le_of_ble_eq_true rfl)⟩ 3 1 rfl rfl eD_col_1 rfl dX2_copyFrom_28 (fun H locs h => ?_)
  refine lv_aload_n hx hb (pc := 31) dX2_copyFrom_31 rfl (lv_at hl 0 rfl) ?_
  refine lv_aload_n hx hb (pc := 32) dX2_copyFrom_32 rfl (lv_at hl 1 rfl) ?_
  refine x_get C h (pc := 33) xf_X2_22 2 rfl (v := lv E_cr) rfl dX2_copyFrom_33 ?_
  refine x_putl C h (pc := 36) (ws' := [(xD, oD xDc E_rows E_cols E_cr D_cb D_cl D_kl), (xDc, aI cI 56 D_col_1), (xE, oD xEc E_rows E_cols E_cr E_cb E_cl E_kl), (xEc, aI cI 56 E_col)]) xf_X2_22 xp_X2 rfl 0 rfl rfl (Nat.le_of_ble_eq_true rfl) rfl dX2_copyFrom_36 (fun H locs h => ?_)
  refine lv_aload_n hx hb (pc := 39) dX2_copyFrom_39 rfl (lv_at hl 0 rfl) ?_
  refine lv_aload_n hx hb (pc := 40) dX2_copyFrom_40 rfl (lv_at hl 1 rfl) ?_
  refine x_get C h (pc := 41) xf_X2_26 2 rfl (v := lv E_cb) rfl dX2_copyFrom_41 ?_
  refine x_putl C h (pc := 44) (ws' := [(xD, oD xDc E_rows E_cols E_cr E_cb D_cl D_kl), (xDc, aI cI 56 D_col_1), (xE, oD xEc E_rows E_cols E_cr E_cb E_cl E_kl), (xEc, aI cI 56 E_col)]) xf_X2_26 xp_X2 rfl 0 rfl rfl (Nat.le_of_ble_eq_true rfl) rfl dX2_copyFrom_44 (fun H locs h => ?_)
  refine lv_aload_n hx hb (pc := 47) dX2_copyFrom_47 rfl (lv_at hl 0 rfl) ?_
  refine lv_aload_n hx hb (pc := 48) dX2_copyFrom_48 rfl (lv_at hl 1 rfl) ?_
  refine x_get C h (pc := 49) xf_X2_29 2 rfl (v := iv E_cl) rfl dX2_copyFrom_49 ?_
  refine x_puti C h (pc := 52) (ws' := [(xD, oD xDc E_rows E_cols E_cr E_cb E_cl D_kl), (xDc, aI cI 56 D_col_1), (xE, oD xEc E_rows E_cols E_cr E_cb E_cl E_kl), (xEc, aI cI 56 E_col)]) xf_X2_29 xp_X2 rfl 0 rfl rfl (Nat.le_of_ble_eq_true rfl) rfl dX2_copyFrom_52 (fun H locs h => ?_)
  refine lv_aload_n hx hb (pc := 55) dX2_copyFrom_55 rfl (lv_at hl 0 rfl) ?_
  refine lv_aload_n hx hb (pc := 56) dX2_copyFrom_56 rfl (lv_at hl 1 rfl) ?_
  refine x_get C h (pc := 57) xf_X2_32 2 rfl (v := iv E_kl) rfl dX2_copyFrom_57 ?_
  refine x_puti C h (pc := 60) (ws' := [(xD, oD xDc E_rows E_cols E_cr E_cb E_cl E_kl), (xDc, aI cI 56 D_col_1), (xE, oD xEc E_rows E_cols E_cr E_cb E_cl E_kl), (xEc, aI cI 56 E_col)]) xf_X2_32 xp_X2 rfl 0 rfl rfl (Nat.le_of_ble_eq_true rfl) rfl dX2_copyFrom_60 (fun H locs h => ?_)
  have e9 := Option.some.inj hf
  subst e9
  exact hret _ _ _ _ dX2_copyFrom_63 h
abbrev rm_dr_hasCell : Room := { frames := 0, cells := 0, slots := 0, locals := 0 }
set_option maxHeartbeats 4000000 in
set_option maxRecDepth 100000 in
theorem c_dr_hasCell (l : Launch) (D : va_G) (cI cJ cZ cO : ClassId) (xD xDc : Nat) (D_rows : Int) (D_cols : Int) (D_cr : BitVec 64) (D_cb : BitVec 64) (D_cl : Int) (D_kl : Int) (l1 : Int) (l2 : Int) (N : Nat) (Res : Int) (hf : f_dr_hasCell N l1 l2 D_rows D_cols = some Res) : CoI l D (xT cI cJ cZ cO) yX2_hasCell cX2_hasCell 3 (some .boolean) rm_dr_hasCell [.ref xD, iv l1, iv l2] [(xD, oD xDc D_rows D_cols D_cr D_cb D_cl D_kl)] Res [(xD, oD xDc D_rows D_cols D_cr D_cb D_cl D_kl)] := by
  refine co_z (by decide) ⟨rfl, rfl⟩ (Nat.le_of_ble_eq_true rfl) ?_
  intro p e s m args below meth c A Q ls C hret hl h
  have hx := C.1.1
  have hb := C.1.2.1
  have hl : lv_has ls 3 [(0, .ref xD), (1, iv l1), (2, iv l2)] := hl
  unfold f_dr_hasCell at hf
  refine lv_iload_n hx hb (pc := 0) dX2_hasCell_0 rfl (lv_at hl 1 rfl) ?_
  obtain ⟨g_1, hf⟩ := og_some hf
  refine x_iflt C (pc := 1) (tgt := 28) g_1 dX2_hasCell_1 rfl (fun hc => ?_) (fun hc => ?_)
  · have hf := oi_t hf hc
    refine x_iconst C (pc := 28) dX2_hasCell_28 ?_
    have e9 := Option.some.inj hf
    subst e9
    exact hret _ _ _ _ (Or.inl rfl) dX2_hasCell_29 h
  · have hf := oi_f hf hc
    refine lv_iload_n hx hb (pc := 4) dX2_hasCell_4 rfl (lv_at hl 1 rfl) ?_
    refine lv_aload_n hx hb (pc := 5) dX2_hasCell_5 rfl (lv_at hl 0 rfl) ?_
    refine x_get C h (pc := 6) xf_X2_7 0 rfl (v := iv D_rows) rfl dX2_hasCell_6 ?_
    obtain ⟨g_2, hf⟩ := og_some hf
    refine x_icmpge C (pc := 9) (tgt := 28) g_1 g_2 dX2_hasCell_9 rfl (fun hc => ?_) (fun hc => ?_)
    · have hf := oi_t hf hc
      refine x_iconst C (pc := 28) dX2_hasCell_28 ?_
      have e9 := Option.some.inj hf
      subst e9
      exact hret _ _ _ _ (Or.inl rfl) dX2_hasCell_29 h
    · have hf := oi_f hf hc
      refine lv_iload_n hx hb (pc := 12) dX2_hasCell_12 rfl (lv_at hl 2 rfl) ?_
      obtain ⟨g_3, hf⟩ := og_some hf
      refine x_iflt C (pc := 13) (tgt := 28) g_3 dX2_hasCell_13 rfl (fun hc => ?_) (fun hc => ?_)
      · have hf := oi_t hf hc
        refine x_iconst C (pc := 28) dX2_hasCell_28 ?_
        have e9 := Option.some.inj hf
        subst e9
        exact hret _ _ _ _ (Or.inl rfl) dX2_hasCell_29 h
      · have hf := oi_f hf hc
        refine lv_iload_n hx hb (pc := 16) dX2_hasCell_16 rfl (lv_at hl 2 rfl) ?_
        refine lv_aload_n hx hb (pc := 17) dX2_hasCell_17 rfl (lv_at hl 0 rfl) ?_
        refine x_get C h (pc := 18) xf_X2_13 0 rfl (v := iv D_cols) rfl dX2_hasCell_18 ?_
        obtain ⟨g_4, hf⟩ := og_some hf
        refine x_icmpge C (pc := 21) (tgt := 28) g_3 g_4 dX2_hasCell_21 rfl (fun hc => ?_) (fun hc => ?_)
        · have hf := oi_t hf hc
          refine x_iconst C (pc := 28) dX2_hasCell_28 ?_
          have e9 := Option.some.inj hf
          subst e9
          exact hret _ _ _ _ (Or.inl rfl) dX2_hasCell_29 h
        · have hf := oi_f hf hc
          refine x_iconst C (pc := 24) dX2_hasCell_24 ?_
          refine lv_goto hx hb (pc := 25) (tgt := 29) dX2_hasCell_25 rfl ?_
          have e9 := Option.some.inj hf
          subst e9
          exact hret _ _ _ _ (Or.inr rfl) dX2_hasCell_29 h
abbrev rm_dr_hasPair : Room := { frames := 1, cells := 0, slots := 0, locals := 22 }
set_option maxHeartbeats 4000000 in
set_option maxRecDepth 100000 in
theorem c_dr_hasPair (l : Launch) (D : va_G) (cI cJ cZ cO : ClassId) (xD xDc : Nat) (D_rows : Int) (D_cols : Int) (D_cr : BitVec 64) (D_cb : BitVec 64) (D_cl : Int) (D_kl : Int) (l1 : Int) (l2 : Int) (l3 : Int) (N : Nat) (Res : Int) (hf : f_dr_hasPair N l1 l2 l3 D_rows D_cols = some Res) : CoI l D (xT cI cJ cZ cO) yX2_hasPair cX2_hasPair 4 (some .boolean) rm_dr_hasPair [.ref xD, iv l1, iv l2, iv l3] [(xD, oD xDc D_rows D_cols D_cr D_cb D_cl D_kl)] Res [(xD, oD xDc D_rows D_cols D_cr D_cb D_cl D_kl)] := by
  refine co_z (by decide) ⟨rfl, rfl⟩ (Nat.le_of_ble_eq_true rfl) ?_
  intro p e s m args below meth c A Q ls C hret hl h
  have hx := C.1.1
  have hb := C.1.2.1
  have hl : lv_has ls 4 [(0, .ref xD), (1, iv l1), (2, iv l2), (3, iv l3)] := hl
  unfold f_dr_hasPair at hf
  refine lv_aload_n hx hb (pc := 0) dX2_hasPair_0 rfl (lv_at hl 0 rfl) ?_
  refine lv_iload_n hx hb (pc := 1) dX2_hasPair_1 rfl (lv_at hl 1 rfl) ?_
  refine lv_iload_n hx hb (pc := 2) dX2_hasPair_2 rfl (lv_at hl 2 rfl) ?_
  obtain ⟨q_1, hq_1, hf⟩ := ob_some hf
  refine x_callVi C h (pc := 3) hl (c_dr_hasCell l D cI cJ cZ cO xD xDc D_rows D_cols D_cr D_cb D_cl D_kl l1 l2 N q_1 hq_1) xv_X2_hasCell lk_X2_41 ⟨(Nat.le_of_ble_eq_true rfl), (Nat.le_of_ble_eq_true rfl)⟩ rfl [0] [] (nw := 1) (wr := []) (as := [xD]) (ws' := [(xD, oD xDc D_rows D_cols D_cr D_cb D_cl D_kl)]) rfl rfl rfl rfl rfl rfl rfl rfl rfl 0 rfl rfl rfl rfl (Nat.le_of_ble_eq_true rfl) dX2_hasPair_3 (fun H locs h => ?_)
  obtain ⟨g_2, hf⟩ := og_some hf
  refine x_ifne C (pc := 6) (tgt := 11) g_2 dX2_hasPair_6 rfl (fun hc => ?_) (fun hc => ?_)
  · have hf := oi_f hf hc
    refine lv_iload_n hx hb (pc := 11) dX2_hasPair_11 rfl (lv_at hl 3 rfl) ?_
    obtain ⟨g_3, hf⟩ := og_some hf
    refine x_ifne C (pc := 12) (tgt := 31) g_3 dX2_hasPair_12 rfl (fun hc => ?_) (fun hc => ?_)
    · have hf := oi_f hf hc
      refine lv_iload_n hx hb (pc := 31) dX2_hasPair_31 rfl (lv_at hl 3 rfl) ?_
      refine x_iconst C (pc := 32) dX2_hasPair_32 ?_
      refine x_icmpne C (pc := 33) (tgt := 50) g_3 ⟨by decide, by decide⟩ dX2_hasPair_33 rfl (fun hc => ?_) (fun hc => ?_)
      · have hf := oi_f hf hc
        refine x_iconst C (pc := 50) dX2_hasPair_50 ?_
        have e9 := Option.some.inj hf
        subst e9
        exact hret _ _ _ _ (Or.inl rfl) dX2_hasPair_51 h
      · have hf := oi_t hf hc
        refine lv_iload_n hx hb (pc := 36) dX2_hasPair_36 rfl (lv_at hl 1 rfl) ?_
        refine x_iconst C (pc := 37) dX2_hasPair_37 ?_
        refine x_iadd C (pc := 38) dX2_hasPair_38 ?_
        refine lv_aload_n hx hb (pc := 39) dX2_hasPair_39 rfl (lv_at hl 0 rfl) ?_
        refine x_get C h (pc := 40) xf_X2_7 0 rfl (v := iv D_rows) rfl dX2_hasPair_40 ?_
        obtain ⟨g_4, hf⟩ := og_some hf
        obtain ⟨g_5, hf⟩ := og_some hf
        refine x_icmpge C (pc := 43) (tgt := 50) g_4 g_5 dX2_hasPair_43 rfl (fun hc => ?_) (fun hc => ?_)
        · have hf := oi_t hf hc
          refine x_iconst C (pc := 50) dX2_hasPair_50 ?_
          have e9 := Option.some.inj hf
          subst e9
          exact hret _ _ _ _ (Or.inl rfl) dX2_hasPair_51 h
        · have hf := oi_f hf hc
          refine x_iconst C (pc := 46) dX2_hasPair_46 ?_
          refine lv_goto hx hb (pc := 47) (tgt := 51) dX2_hasPair_47 rfl ?_
          have e9 := Option.some.inj hf
          subst e9
          exact hret _ _ _ _ (Or.inr rfl) dX2_hasPair_51 h
    · have hf := oi_t hf hc
      refine lv_iload_n hx hb (pc := 15) dX2_hasPair_15 rfl (lv_at hl 2 rfl) ?_
      refine x_iconst C (pc := 16) dX2_hasPair_16 ?_
      refine x_iadd C (pc := 17) dX2_hasPair_17 ?_
      refine lv_aload_n hx hb (pc := 18) dX2_hasPair_18 rfl (lv_at hl 0 rfl) ?_
      refine x_get C h (pc := 19) xf_X2_13 0 rfl (v := iv D_cols) rfl dX2_hasPair_19 ?_
      obtain ⟨g_6, hf⟩ := og_some hf
      obtain ⟨g_7, hf⟩ := og_some hf
      refine x_icmpge C (pc := 22) (tgt := 29) g_6 g_7 dX2_hasPair_22 rfl (fun hc => ?_) (fun hc => ?_)
      · have hf := oi_t hf hc
        refine x_iconst C (pc := 29) dX2_hasPair_29 ?_
        have e9 := Option.some.inj hf
        subst e9
        exact hret _ _ _ _ (Or.inl rfl) dX2_hasPair_30 h
      · have hf := oi_f hf hc
        refine x_iconst C (pc := 25) dX2_hasPair_25 ?_
        refine lv_goto hx hb (pc := 26) (tgt := 30) dX2_hasPair_26 rfl ?_
        have e9 := Option.some.inj hf
        subst e9
        exact hret _ _ _ _ (Or.inr rfl) dX2_hasPair_30 h
  · have hf := oi_t hf hc
    refine x_iconst C (pc := 9) dX2_hasPair_9 ?_
    have e9 := Option.some.inj hf
    subst e9
    exact hret _ _ _ _ (Or.inl rfl) dX2_hasPair_10 h
abbrev rm_dr_hasCut : Room := { frames := 2, cells := 0, slots := 0, locals := 42 }
set_option maxHeartbeats 4000000 in
set_option maxRecDepth 100000 in
theorem c_dr_hasCut (l : Launch) (D : va_G) (cI cJ cZ cO : ClassId) (xD xDc : Nat) (D_rows : Int) (D_cols : Int) (D_cr : BitVec 64) (D_cb : BitVec 64) (D_cl : Int) (D_kl : Int) (l1 : Int) (l2 : Int) (l3 : Int) (N : Nat) (Res : Int) (hf : f_dr_hasCut N l1 l2 l3 D_cr D_cb = some Res) : CoI l D (xT cI cJ cZ cO) yX2_hasCut cX2_hasCut 6 (some .boolean) rm_dr_hasCut [.ref xD, iv l1, iv l2, iv l3] [(xD, oD xDc D_rows D_cols D_cr D_cb D_cl D_kl)] Res [(xD, oD xDc D_rows D_cols D_cr D_cb D_cl D_kl)] := by
  refine co_z (by decide) ⟨rfl, rfl⟩ (Nat.le_of_ble_eq_true rfl) ?_
  intro p e s m args below meth c A Q ls C hret hl h
  have hx := C.1.1
  have hb := C.1.2.1
  have hl : lv_has ls 6 [(0, .ref xD), (1, iv l1), (2, iv l2), (3, iv l3)] := hl
  unfold f_dr_hasCut at hf
  refine lv_iload_n hx hb (pc := 0) dX2_hasCut_0 rfl (lv_at hl 3 rfl) ?_
  obtain ⟨g_4, hf⟩ := og_some hf
  obtain ⟨r_5, hrr_5, hf⟩ := ob_some hf
  have Jr_5 : ∀ (ls : Array Slot) (H : Heap) (locs : List Loc), lv_has ls 6 [(1, iv l1), (2, iv l2)] → XH D A s.heap [(xD, oD xDc D_rows D_cols D_cr D_cb D_cl D_kl)] H locs → W p l e rm_dr_hasCut s m args below meth c H locs 0 0 Q (F0 m 15 ls [lv r_5]) := by
    intro ls H locs hl h
    refine lv_lstore hx hb (pc := 15) (lv' := [(4, lv r_5), (1, iv l1), (2, iv l2)]) dX2_hasCut_15 hl (Nat.le_of_ble_eq_true rfl) rfl (fun ls hl => ?_)
    refine lv_lload hx hb (pc := 17) dX2_hasCut_17 (lv_at hl 0 rfl) ?_
    refine lv_iload_n hx hb (pc := 19) dX2_hasCut_19 rfl (lv_at hl 1 rfl) ?_
    refine lv_iload_n hx hb (pc := 20) dX2_hasCut_20 rfl (lv_at hl 2 rfl) ?_
    obtain ⟨q_6, hq_6, hf⟩ := ob_some hf
    refine x_callSl C h (pc := 21) hl (c_ce_only l D cI cJ cZ cO l1 l2 N q_6 hq_6) xs_X0_only lk_X2_45 ⟨(Nat.le_of_ble_eq_true rfl), (Nat.le_of_ble_eq_true rfl)⟩ rfl [] [0] (nw := 1) (wr := [(xD, oD xDc D_rows D_cols D_cr D_cb D_cl D_kl)]) (as := [xD]) (ws' := [(xD, oD xDc D_rows D_cols D_cr D_cb D_cl D_kl)]) rfl rfl rfl rfl rfl rfl rfl rfl rfl rfl (Nat.le_of_ble_eq_true rfl) dX2_hasCut_21 (fun H locs h => ?_)
    refine x_land C (pc := 24) dX2_hasCut_24 ?_
    refine x_lconst C (pc := 25) (x := 0#64) rfl dX2_hasCut_25 ?_
    refine x_lcmpeq C (pc := 26) (tgt := 34) dX2_hasCut_26 dX2_hasCut_27 rfl (fun hc => ?_) (fun hc => ?_)
    · have hf := oi_t hf hc
      refine x_iconst C (pc := 34) dX2_hasCut_34 ?_
      have e9 := Option.some.inj hf
      subst e9
      exact hret _ _ _ _ (Or.inl rfl) dX2_hasCut_35 h
    · have hf := oi_f hf hc
      refine x_iconst C (pc := 30) dX2_hasCut_30 ?_
      refine lv_goto hx hb (pc := 31) (tgt := 35) dX2_hasCut_31 rfl ?_
      have e9 := Option.some.inj hf
      subst e9
      exact hret _ _ _ _ (Or.inr rfl) dX2_hasCut_35 h
  clear hf
  have hf := hrr_5
  refine x_ifne C (pc := 1) (tgt := 11) g_4 dX2_hasCut_1 rfl (fun hc => ?_) (fun hc => ?_)
  · have hf := oi_f hf hc
    refine lv_aload_n hx hb (pc := 11) dX2_hasCut_11 rfl (lv_at hl 0 rfl) ?_
    refine x_get C h (pc := 12) xf_X2_26 0 rfl (v := lv D_cb) rfl dX2_hasCut_12 ?_
    have e9 := Option.some.inj hf
    subst e9
    exact Jr_5 _ _ _ (lv_sub hl [1, 2] rfl) h
  · have hf := oi_t hf hc
    refine lv_aload_n hx hb (pc := 4) dX2_hasCut_4 rfl (lv_at hl 0 rfl) ?_
    refine x_get C h (pc := 5) xf_X2_22 0 rfl (v := lv D_cr) rfl dX2_hasCut_5 ?_
    refine lv_goto hx hb (pc := 8) (tgt := 15) dX2_hasCut_8 rfl ?_
    have e9 := Option.some.inj hf
    subst e9
    exact Jr_5 _ _ _ (lv_sub hl [1, 2] rfl) h
abbrev rm_dr_flip : Room := { frames := 2, cells := 0, slots := 0, locals := 42 }
set_option maxHeartbeats 4000000 in
set_option maxRecDepth 100000 in
theorem c_dr_flip (l : Launch) (D : va_G) (cI cJ cZ cO : ClassId) (xD xDc : Nat) (D_rows : Int) (D_cols : Int) (D_cr : BitVec 64) (D_cb : BitVec 64) (D_cl : Int) (D_kl : Int) (l1 : Int) (l2 : Int) (l3 : Int) (N : Nat) (Res : BitVec 64 × BitVec 64) (hf : f_dr_flip N l1 l2 l3 D_cr D_cb = some Res) : CoV l D (xT cI cJ cZ cO) yX2_flip cX2_flip 4 none rm_dr_flip [.ref xD, iv l1, iv l2, iv l3] [(xD, oD xDc D_rows D_cols D_cr D_cb D_cl D_kl)] [(xD, oD xDc D_rows D_cols Res.1 Res.2 D_cl D_kl)] := by
  refine co_v (by decide) ⟨rfl, rfl⟩ (Nat.le_of_ble_eq_true rfl) ?_
  intro p e s m args below meth c A Q ls C hret hl h
  have hx := C.1.1
  have hb := C.1.2.1
  have hl : lv_has ls 4 [(0, .ref xD), (1, iv l1), (2, iv l2), (3, iv l3)] := hl
  unfold f_dr_flip at hf
  refine lv_iload_n hx hb (pc := 0) dX2_flip_0 rfl (lv_at hl 3 rfl) ?_
  obtain ⟨g_1, hf⟩ := og_some hf
  refine x_ifne C (pc := 1) (tgt := 21) g_1 dX2_flip_1 rfl (fun hc => ?_) (fun hc => ?_)
  · have hf := oi_f hf hc
    refine lv_aload_n hx hb (pc := 21) dX2_flip_21 rfl (lv_at hl 0 rfl) ?_
    refine lv_dup hx hb (pc := 22) dX2_flip_22 rfl ?_
    refine x_get C h (pc := 23) xf_X2_26 0 rfl (v := lv D_cb) rfl dX2_flip_23 ?_
    refine lv_iload_n hx hb (pc := 26) dX2_flip_26 rfl (lv_at hl 1 rfl) ?_
    refine lv_iload_n hx hb (pc := 27) dX2_flip_27 rfl (lv_at hl 2 rfl) ?_
    obtain ⟨q_2, hq_2, hf⟩ := ob_some hf
    refine x_callSl C h (pc := 28) hl (c_ce_only l D cI cJ cZ cO l1 l2 N q_2 hq_2) xs_X0_only lk_X2_45 ⟨(Nat.le_of_ble_eq_true rfl), (Nat.le_of_ble_eq_true rfl)⟩ rfl [] [0] (nw := 1) (wr := [(xD, oD xDc D_rows D_cols D_cr D_cb D_cl D_kl)]) (as := [xD]) (ws' := [(xD, oD xDc D_rows D_cols D_cr D_cb D_cl D_kl)]) rfl rfl rfl rfl rfl rfl rfl rfl rfl rfl (Nat.le_of_ble_eq_true rfl) dX2_flip_28 (fun H locs h => ?_)
    refine x_lxor C (pc := 31) dX2_flip_31 ?_
    obtain ⟨D_cb_3, eD_cb_3, hf⟩ := ol_some hf
    refine x_topl eD_cb_3 ?_
    refine x_putl C h (pc := 32) (ws' := [(xD, oD xDc D_rows D_cols D_cr D_cb_3 D_cl D_kl)]) xf_X2_26 xp_X2 rfl 0 rfl rfl (Nat.le_of_ble_eq_true rfl) rfl dX2_flip_32 (fun H locs h => ?_)
    have e9 := Option.some.inj hf
    subst e9
    exact hret _ _ _ _ dX2_flip_35 h
  · have hf := oi_t hf hc
    refine lv_aload_n hx hb (pc := 4) dX2_flip_4 rfl (lv_at hl 0 rfl) ?_
    refine lv_dup hx hb (pc := 5) dX2_flip_5 rfl ?_
    refine x_get C h (pc := 6) xf_X2_22 0 rfl (v := lv D_cr) rfl dX2_flip_6 ?_
    refine lv_iload_n hx hb (pc := 9) dX2_flip_9 rfl (lv_at hl 1 rfl) ?_
    refine lv_iload_n hx hb (pc := 10) dX2_flip_10 rfl (lv_at hl 2 rfl) ?_
    obtain ⟨q_4, hq_4, hf⟩ := ob_some hf
    refine x_callSl C h (pc := 11) hl (c_ce_only l D cI cJ cZ cO l1 l2 N q_4 hq_4) xs_X0_only lk_X2_45 ⟨(Nat.le_of_ble_eq_true rfl), (Nat.le_of_ble_eq_true rfl)⟩ rfl [] [0] (nw := 1) (wr := [(xD, oD xDc D_rows D_cols D_cr D_cb D_cl D_kl)]) (as := [xD]) (ws' := [(xD, oD xDc D_rows D_cols D_cr D_cb D_cl D_kl)]) rfl rfl rfl rfl rfl rfl rfl rfl rfl rfl (Nat.le_of_ble_eq_true rfl) dX2_flip_11 (fun H locs h => ?_)
    refine x_lxor C (pc := 14) dX2_flip_14 ?_
    obtain ⟨D_cr_5, eD_cr_5, hf⟩ := ol_some hf
    refine x_topl eD_cr_5 ?_
    refine x_putl C h (pc := 15) (ws' := [(xD, oD xDc D_rows D_cols D_cr_5 D_cb D_cl D_kl)]) xf_X2_22 xp_X2 rfl 0 rfl rfl (Nat.le_of_ble_eq_true rfl) rfl dX2_flip_15 (fun H locs h => ?_)
    refine lv_goto hx hb (pc := 18) (tgt := 35) dX2_flip_18 rfl ?_
    have e9 := Option.some.inj hf
    subst e9
    exact hret _ _ _ _ dX2_flip_35 h
abbrev rm_dr_countCuts : Room := { frames := 1, cells := 0, slots := 0, locals := 21 }
set_option maxHeartbeats 4000000 in
set_option maxRecDepth 100000 in
theorem c_dr_countCuts (l : Launch) (D : va_G) (cI cJ cZ cO : ClassId) (xD xDc : Nat) (D_rows : Int) (D_cols : Int) (D_cr : BitVec 64) (D_cb : BitVec 64) (D_cl : Int) (D_kl : Int) (N : Nat) (Res : Int) (hf : f_dr_countCuts N D_cr D_cb = some Res) : CoI l D (xT cI cJ cZ cO) yX2_countCuts cX2_countCuts 1 (some .int) rm_dr_countCuts [.ref xD] [(xD, oD xDc D_rows D_cols D_cr D_cb D_cl D_kl)] Res [(xD, oD xDc D_rows D_cols D_cr D_cb D_cl D_kl)] := by
  refine co_i (by decide) ⟨rfl, rfl⟩ (Nat.le_of_ble_eq_true rfl) ?_
  intro p e s m args below meth c A Q ls C hret hl h
  have hx := C.1.1
  have hb := C.1.2.1
  have hl : lv_has ls 1 [(0, .ref xD)] := hl
  unfold f_dr_countCuts at hf
  refine lv_aload_n hx hb (pc := 0) dX2_countCuts_0 rfl (lv_at hl 0 rfl) ?_
  refine x_get C h (pc := 1) xf_X2_22 0 rfl (v := lv D_cr) rfl dX2_countCuts_1 ?_
  refine x_callSi C h (pc := 4) hl (c_popc l D (xT cI cJ cZ cO) D_cr) xs_J13_bitCount_95d88 lk_X2_49 ⟨(Nat.le_of_ble_eq_true rfl), (Nat.le_of_ble_eq_true rfl)⟩ rfl [] [0] (nw := 1) (wr := [(xD, oD xDc D_rows D_cols D_cr D_cb D_cl D_kl)]) (as := [xD]) (ws' := [(xD, oD xDc D_rows D_cols D_cr D_cb D_cl D_kl)]) rfl rfl rfl rfl rfl rfl rfl rfl rfl rfl (Nat.le_of_ble_eq_true rfl) dX2_countCuts_4 (fun H locs h => ?_)
  refine lv_aload_n hx hb (pc := 7) dX2_countCuts_7 rfl (lv_at hl 0 rfl) ?_
  refine x_get C h (pc := 8) xf_X2_26 0 rfl (v := lv D_cb) rfl dX2_countCuts_8 ?_
  refine x_callSi C h (pc := 11) hl (c_popc l D (xT cI cJ cZ cO) D_cb) xs_J13_bitCount_95d88 lk_X2_49 ⟨(Nat.le_of_ble_eq_true rfl), (Nat.le_of_ble_eq_true rfl)⟩ rfl [] [0] (nw := 1) (wr := [(xD, oD xDc D_rows D_cols D_cr D_cb D_cl D_kl)]) (as := [xD]) (ws' := [(xD, oD xDc D_rows D_cols D_cr D_cb D_cl D_kl)]) rfl rfl rfl rfl rfl rfl rfl rfl rfl rfl (Nat.le_of_ble_eq_true rfl) dX2_countCuts_11 (fun H locs h => ?_)
  refine x_iadd C (pc := 14) dX2_countCuts_14 ?_
  have e9 := Option.some.inj hf
  subst e9
  exact hret _ _ _ _ dX2_countCuts_15 h
abbrev rm_dr_joined : Room := { frames := 2, cells := 0, slots := 0, locals := 45 }
set_option maxHeartbeats 4000000 in
set_option maxRecDepth 100000 in
theorem w_dr_joined_28 {p : Program} {l : Launch} {e : Env} {s : State} {m : MethodId} {args : Array Value} {below : List Frame} {meth : Method} {c : Code} {Q : State → Prop} {D : va_G} {cI cJ cZ cO : ClassId} {A : Nat → Prop} {H0 : Heap} {w0 : Cond} (C : XC p s m args c cX2_joined 8 RX2 w0 D (xT cI cJ cZ cO)) (xD xDc : Nat) (D_rows : Int) (D_cols : Int) (D_cr : BitVec 64) (D_cb : BitVec 64) (D_cl : Int) (D_kl : Int) (D_col : Int → Int) (Res : BitVec 64) (hret : XRL p l e rm_dr_joined s m args below meth c cX2_joined D A H0 Q Res [(xD, oD xDc D_rows D_cols D_cr D_cb D_cl D_kl), (xDc, aI cI 56 D_col)]) (N : Nat) (l1 : Int) (l2 : Int) (l5 : Int) (k16 : BitVec 64 → Int → Option (BitVec 64)) (hk16 : ∀ (l3' : BitVec 64) (l5' : Int) (ls : Array Slot) (H : Heap) (locs : List Loc), lv_has ls 8 [(0, .ref xD), (1, iv l1), (2, iv l2), (3, lv l3'), (5, iv l5')] → XH D A H0 [(xD, oD xDc D_rows D_cols D_cr D_cb D_cl D_kl), (xDc, aI cI 56 D_col)] H locs → k16 l3' l5' = some Res → W p l e rm_dr_joined s m args below meth c H locs 0 0 Q (F0 m 16 ls [])) : ∀ (n : Nat) (l3 : BitVec 64) (l6 : Int) (ls : Array Slot) (H : Heap) (locs : List Loc), lv_has ls 8 [(0, .ref xD), (1, iv l1), (2, iv l2), (3, lv l3), (5, iv l5), (6, iv l6)] → XH D A H0 [(xD, oD xDc D_rows D_cols D_cr D_cb D_cl D_kl), (xDc, aI cI 56 D_col)] H locs → f_dr_joined_28 N l1 l2 l5 D_rows D_cols D_cr D_cb D_col k16 n l3 l6 = some Res → W p l e rm_dr_joined s m args below meth c H locs 0 0 Q (F0 m 28 ls []) := by
  have hx := C.1.1
  have hb := C.1.2.1
  intro n
  induction n with
  | zero => intro l3 l6 ls H locs hl h hf; cases hf
  | succ n ih =>
    intro l3 l6 ls H locs hl h hf
    rw [f_dr_joined_28.eq_2] at hf
    refine lv_iload hx hb (pc := 28) dX2_joined_28 (lv_at hl 5 rfl) ?_
    refine lv_aload_n hx hb (pc := 30) dX2_joined_30 rfl (lv_at hl 0 rfl) ?_
    refine x_get C h (pc := 31) xf_X2_13 0 rfl (v := iv D_cols) rfl dX2_joined_31 ?_
    obtain ⟨g_29, hf⟩ := og_some hf
    obtain ⟨g_30, hf⟩ := og_some hf
    refine x_icmpge C (pc := 34) (tgt := 90) g_29 g_30 dX2_joined_34 rfl (fun hc => ?_) (fun hc => ?_)
    · have hf := oi_t hf hc
      obtain ⟨l5_31, el5_31, hf⟩ := ol_some hf
      refine x_iinc C (pc := 90) (k := 4) (lw' := [(5, iv l5_31), (0, .ref xD), (1, iv l1), (2, iv l2), (3, lv l3), (6, iv l6)]) dX2_joined_90 hl rfl el5_31 (Nat.le_of_ble_eq_true rfl) rfl (fun ls hl => ?_)
      refine lv_goto hx hb (pc := 93) (tgt := 16) dX2_joined_93 rfl ?_
      exact hk16 l3 l5_31 _ _ _ (lv_sub hl [1, 2, 3, 4, 0] rfl) h hf
    · have hf := oi_f hf hc
      refine lv_iload hx hb (pc := 37) dX2_joined_37 (lv_at hl 4 rfl) ?_
      refine lv_iload hx hb (pc := 39) dX2_joined_39 (lv_at hl 5 rfl) ?_
      obtain ⟨q_32, hq_32, hf⟩ := ob_some hf
      refine x_callSi C h (pc := 41) hl (c_ce_number l D cI cJ cZ cO l5 l6 N q_32 hq_32) xs_X0_number lk_X2_55 ⟨(Nat.le_of_ble_eq_true rfl), (Nat.le_of_ble_eq_true rfl)⟩ rfl [] [0, 1] (nw := 2) (wr := [(xD, oD xDc D_rows D_cols D_cr D_cb D_cl D_kl), (xDc, aI cI 56 D_col)]) (as := [xD, xDc]) (ws' := [(xD, oD xDc D_rows D_cols D_cr D_cb D_cl D_kl), (xDc, aI cI 56 D_col)]) rfl rfl rfl rfl rfl rfl rfl rfl rfl rfl (Nat.le_of_ble_eq_true rfl) dX2_joined_41 (fun H locs h => ?_)
      refine lv_istore hx hb (pc := 44) (lv' := [(7, iv q_32), (0, .ref xD), (1, iv l1), (2, iv l2), (3, lv l3), (5, iv l5), (6, iv l6)]) dX2_joined_44 hl (Nat.le_of_ble_eq_true rfl) rfl (fun ls hl => ?_)
      refine lv_aload_n hx hb (pc := 46) dX2_joined_46 rfl (lv_at hl 1 rfl) ?_
      refine lv_iload hx hb (pc := 47) dX2_joined_47 (lv_at hl 5 rfl) ?_
      refine lv_iload hx hb (pc := 49) dX2_joined_49 (lv_at hl 6 rfl) ?_
      refine lv_iload_n hx hb (pc := 51) dX2_joined_51 rfl (lv_at hl 2 rfl) ?_
      obtain ⟨q_33, hq_33, hf⟩ := ob_some hf
      refine x_callVi C h (pc := 52) hl (c_dr_hasPair l D cI cJ cZ cO xD xDc D_rows D_cols D_cr D_cb D_cl D_kl l5 l6 l1 N q_33 hq_33) xv_X2_hasPair lk_X2_59 ⟨(Nat.le_of_ble_eq_true rfl), (Nat.le_of_ble_eq_true rfl)⟩ rfl [0] [1] (nw := 2) (wr := [(xDc, aI cI 56 D_col)]) (as := [xD, xDc]) (ws' := [(xD, oD xDc D_rows D_cols D_cr D_cb D_cl D_kl), (xDc, aI cI 56 D_col)]) rfl rfl rfl rfl rfl rfl rfl rfl rfl 0 rfl rfl rfl rfl (Nat.le_of_ble_eq_true rfl) dX2_joined_52 (fun H locs h => ?_)
      obtain ⟨g_34, hf⟩ := og_some hf
      obtain ⟨r_44, hrr_44, hf⟩ := ob_some hf
      have Jr_44 : ∀ (ls : Array Slot) (H : Heap) (locs : List Loc), lv_has ls 8 [(0, .ref xD), (1, iv l1), (2, iv l2), (3, lv r_44.1), (5, iv l5), (6, iv r_44.2)] → XH D A H0 [(xD, oD xDc D_rows D_cols D_cr D_cb D_cl D_kl), (xDc, aI cI 56 D_col)] H locs → W p l e rm_dr_joined s m args below meth c H locs 0 0 Q (F0 m 28 ls []) := by
        intro ls H locs hl h
        exact ih r_44.1 r_44.2 _ _ _ (lv_sub hl [0, 1, 2, 3, 4, 5] rfl) h hf
      clear hf
      have hf := hrr_44
      refine x_ifeq C (pc := 55) (tgt := 84) g_34 dX2_joined_55 rfl (fun hc => ?_) (fun hc => ?_)
      · have hf := oi_t hf hc
        obtain ⟨l6_35, el6_35, hf⟩ := ol_some hf
        refine x_iinc C (pc := 84) (k := 6) (lw' := [(6, iv l6_35), (7, iv q_32), (0, .ref xD), (1, iv l1), (2, iv l2), (3, lv l3), (5, iv l5)]) dX2_joined_84 hl rfl el6_35 (Nat.le_of_ble_eq_true rfl) rfl (fun ls hl => ?_)
        refine lv_goto hx hb (pc := 87) (tgt := 28) dX2_joined_87 rfl ?_
        have e9 := Option.some.inj hf
        subst e9
        exact Jr_44 _ _ _ (lv_sub hl [2, 3, 4, 5, 6, 0] rfl) h
      · have hf := oi_f hf hc
        refine lv_aload_n hx hb (pc := 58) dX2_joined_58 rfl (lv_at hl 1 rfl) ?_
        refine x_get C h (pc := 59) xf_X2_18 0 rfl (v := .ref xDc) rfl dX2_joined_59 ?_
        refine lv_iload hx hb (pc := 62) dX2_joined_62 (lv_at hl 0 rfl) ?_
        obtain ⟨g_36, hf⟩ := og_some hf
        refine x_iald C h (pc := 64) 1 0 rfl rfl (Nat.le_of_ble_eq_true rfl) g_36 dX2_joined_64 ?_
        refine lv_aload_n hx hb (pc := 65) dX2_joined_65 rfl (lv_at hl 1 rfl) ?_
        refine x_get C h (pc := 66) xf_X2_18 0 rfl (v := .ref xDc) rfl dX2_joined_66 ?_
        refine lv_iload hx hb (pc := 69) dX2_joined_69 (lv_at hl 0 rfl) ?_
        refine lv_iload_n hx hb (pc := 71) dX2_joined_71 rfl (lv_at hl 3 rfl) ?_
        refine x_iadd C (pc := 72) dX2_joined_72 ?_
        obtain ⟨g_37, hf⟩ := og_some hf
        refine x_iald C h (pc := 73) 1 0 rfl rfl (Nat.le_of_ble_eq_true rfl) g_37 dX2_joined_73 ?_
        obtain ⟨g_38, hf⟩ := og_some hf
        obtain ⟨g_39, hf⟩ := og_some hf
        refine x_icmpne C (pc := 74) (tgt := 84) g_38 g_39 dX2_joined_74 rfl (fun hc => ?_) (fun hc => ?_)
        · have hf := oi_f hf hc
          obtain ⟨l6_40, el6_40, hf⟩ := ol_some hf
          refine x_iinc C (pc := 84) (k := 6) (lw' := [(6, iv l6_40), (7, iv q_32), (0, .ref xD), (1, iv l1), (2, iv l2), (3, lv l3), (5, iv l5)]) dX2_joined_84 hl rfl el6_40 (Nat.le_of_ble_eq_true rfl) rfl (fun ls hl => ?_)
          refine lv_goto hx hb (pc := 87) (tgt := 28) dX2_joined_87 rfl ?_
          have e9 := Option.some.inj hf
          subst e9
          exact Jr_44 _ _ _ (lv_sub hl [2, 3, 4, 5, 6, 0] rfl) h
        · have hf := oi_t hf hc
          refine lv_lload_n hx hb (pc := 77) dX2_joined_77 rfl (lv_at hl 4 rfl) ?_
          refine x_lconst C (pc := 78) (x := 1#64) rfl dX2_joined_78 ?_
          refine lv_iload hx hb (pc := 79) dX2_joined_79 (lv_at hl 0 rfl) ?_
          obtain ⟨g_41, hf⟩ := og_some hf
          refine x_lshl C (pc := 81) g_41 dX2_joined_81 ?_
          refine x_lor C (pc := 82) dX2_joined_82 ?_
          obtain ⟨l3_42, el3_42, hf⟩ := ol_some hf
          refine x_topl el3_42 ?_
          refine lv_lstore_n hx hb (pc := 83) (lv' := [(3, lv l3_42), (7, iv q_32), (0, .ref xD), (1, iv l1), (2, iv l2), (5, iv l5), (6, iv l6)]) dX2_joined_83 rfl hl (Nat.le_of_ble_eq_true rfl) rfl (fun ls hl => ?_)
          obtain ⟨l6_43, el6_43, hf⟩ := ol_some hf
          refine x_iinc C (pc := 84) (k := 6) (lw' := [(6, iv l6_43), (3, lv l3_42), (7, iv q_32), (0, .ref xD), (1, iv l1), (2, iv l2), (5, iv l5)]) dX2_joined_84 hl rfl el6_43 (Nat.le_of_ble_eq_true rfl) rfl (fun ls hl => ?_)
          refine lv_goto hx hb (pc := 87) (tgt := 28) dX2_joined_87 rfl ?_
          have e9 := Option.some.inj hf
          subst e9
          exact Jr_44 _ _ _ (lv_sub hl [3, 4, 5, 1, 6, 0] rfl) h
set_option maxHeartbeats 4000000 in
set_option maxRecDepth 100000 in
theorem w_dr_joined_16 {p : Program} {l : Launch} {e : Env} {s : State} {m : MethodId} {args : Array Value} {below : List Frame} {meth : Method} {c : Code} {Q : State → Prop} {D : va_G} {cI cJ cZ cO : ClassId} {A : Nat → Prop} {H0 : Heap} {w0 : Cond} (C : XC p s m args c cX2_joined 8 RX2 w0 D (xT cI cJ cZ cO)) (xD xDc : Nat) (D_rows : Int) (D_cols : Int) (D_cr : BitVec 64) (D_cb : BitVec 64) (D_cl : Int) (D_kl : Int) (D_col : Int → Int) (Res : BitVec 64) (hret : XRL p l e rm_dr_joined s m args below meth c cX2_joined D A H0 Q Res [(xD, oD xDc D_rows D_cols D_cr D_cb D_cl D_kl), (xDc, aI cI 56 D_col)]) (N : Nat) (l1 : Int) (l2 : Int) : ∀ (n : Nat) (l3 : BitVec 64) (l5 : Int) (ls : Array Slot) (H : Heap) (locs : List Loc), lv_has ls 8 [(0, .ref xD), (1, iv l1), (2, iv l2), (3, lv l3), (5, iv l5)] → XH D A H0 [(xD, oD xDc D_rows D_cols D_cr D_cb D_cl D_kl), (xDc, aI cI 56 D_col)] H locs → f_dr_joined_16 N l1 l2 D_rows D_cols D_cr D_cb D_col n l3 l5 = some Res → W p l e rm_dr_joined s m args below meth c H locs 0 0 Q (F0 m 16 ls []) := by
  have hx := C.1.1
  have hb := C.1.2.1
  intro n
  induction n with
  | zero => intro l3 l5 ls H locs hl h hf; cases hf
  | succ n ih =>
    intro l3 l5 ls H locs hl h hf
    rw [f_dr_joined_16.eq_2] at hf
    refine lv_iload hx hb (pc := 16) dX2_joined_16 (lv_at hl 4 rfl) ?_
    refine lv_aload_n hx hb (pc := 18) dX2_joined_18 rfl (lv_at hl 0 rfl) ?_
    refine x_get C h (pc := 19) xf_X2_7 0 rfl (v := iv D_rows) rfl dX2_joined_19 ?_
    obtain ⟨g_25, hf⟩ := og_some hf
    obtain ⟨g_26, hf⟩ := og_some hf
    refine x_icmpge C (pc := 22) (tgt := 96) g_25 g_26 dX2_joined_22 rfl (fun hc => ?_) (fun hc => ?_)
    · have hf := oi_t hf hc
      refine lv_lload_n hx hb (pc := 96) dX2_joined_96 rfl (lv_at hl 3 rfl) ?_
      refine lv_iload_n hx hb (pc := 97) dX2_joined_97 rfl (lv_at hl 1 rfl) ?_
      obtain ⟨g_27, hf⟩ := og_some hf
      obtain ⟨r_28, hrr_28, hf⟩ := ob_some hf
      have Jr_28 : ∀ (ls : Array Slot) (H : Heap) (locs : List Loc), lv_has ls 8 [] → XH D A H0 [(xD, oD xDc D_rows D_cols D_cr D_cb D_cl D_kl), (xDc, aI cI 56 D_col)] H locs → W p l e rm_dr_joined s m args below meth c H locs 0 0 Q (F0 m 112 ls [lv r_28, lv l3]) := by
        intro ls H locs hl h
        refine x_ldc2 C (pc := 112) (x := 18446744073709551615#64) wk_X2_63 (by decide) dX2_joined_112 ?_
        refine x_lxor C (pc := 115) dX2_joined_115 ?_
        refine x_land C (pc := 116) dX2_joined_116 ?_
        have e9 := Option.some.inj hf
        subst e9
        exact hret _ _ _ _ dX2_joined_117 h
      clear hf
      have hf := hrr_28
      refine x_ifne C (pc := 98) (tgt := 108) g_27 dX2_joined_98 rfl (fun hc => ?_) (fun hc => ?_)
      · have hf := oi_f hf hc
        refine lv_aload_n hx hb (pc := 108) dX2_joined_108 rfl (lv_at hl 0 rfl) ?_
        refine x_get C h (pc := 109) xf_X2_26 0 rfl (v := lv D_cb) rfl dX2_joined_109 ?_
        have e9 := Option.some.inj hf
        subst e9
        exact Jr_28 _ _ _ (lv_sub hl [] rfl) h
      · have hf := oi_t hf hc
        refine lv_aload_n hx hb (pc := 101) dX2_joined_101 rfl (lv_at hl 0 rfl) ?_
        refine x_get C h (pc := 102) xf_X2_22 0 rfl (v := lv D_cr) rfl dX2_joined_102 ?_
        refine lv_goto hx hb (pc := 105) (tgt := 112) dX2_joined_105 rfl ?_
        have e9 := Option.some.inj hf
        subst e9
        exact Jr_28 _ _ _ (lv_sub hl [] rfl) h
    · have hf := oi_f hf hc
      refine x_iconst C (pc := 25) dX2_joined_25 ?_
      refine lv_istore hx hb (pc := 26) (lv' := [(6, iv 0), (0, .ref xD), (1, iv l1), (2, iv l2), (3, lv l3), (5, iv l5)]) dX2_joined_26 hl (Nat.le_of_ble_eq_true rfl) rfl (fun ls hl => ?_)
      exact w_dr_joined_28 C xD xDc D_rows D_cols D_cr D_cb D_cl D_kl D_col Res hret N l1 l2 l5 (f_dr_joined_16 N l1 l2 D_rows D_cols D_cr D_cb D_col n) ih N l3 0 _ _ _ (lv_sub hl [1, 2, 3, 4, 5, 0] rfl) h hf
set_option maxHeartbeats 4000000 in
set_option maxRecDepth 100000 in
theorem c_dr_joined (l : Launch) (D : va_G) (cI cJ cZ cO : ClassId) (xD xDc : Nat) (D_rows : Int) (D_cols : Int) (D_cr : BitVec 64) (D_cb : BitVec 64) (D_cl : Int) (D_kl : Int) (D_col : Int → Int) (l1 : Int) (N : Nat) (Res : BitVec 64) (hf : f_dr_joined N l1 D_rows D_cols D_cr D_cb D_col = some Res) : CoL l D (xT cI cJ cZ cO) yX2_joined cX2_joined 8 (some .long) rm_dr_joined [.ref xD, iv l1] [(xD, oD xDc D_rows D_cols D_cr D_cb D_cl D_kl), (xDc, aI cI 56 D_col)] Res [(xD, oD xDc D_rows D_cols D_cr D_cb D_cl D_kl), (xDc, aI cI 56 D_col)] := by
  refine co_l (by decide) ⟨rfl, rfl⟩ (Nat.le_of_ble_eq_true rfl) ?_
  intro p e s m args below meth c A Q ls C hret hl h
  have hx := C.1.1
  have hb := C.1.2.1
  have hl : lv_has ls 8 [(0, .ref xD), (1, iv l1)] := hl
  unfold f_dr_joined at hf
  refine lv_iload_n hx hb (pc := 0) dX2_joined_0 rfl (lv_at hl 1 rfl) ?_
  obtain ⟨g_23, hf⟩ := og_some hf
  obtain ⟨r_24, hrr_24, hf⟩ := ob_some hf
  have Jr_24 : ∀ (ls : Array Slot) (H : Heap) (locs : List Loc), lv_has ls 8 [(0, .ref xD), (1, iv l1)] → XH D A s.heap [(xD, oD xDc D_rows D_cols D_cr D_cb D_cl D_kl), (xDc, aI cI 56 D_col)] H locs → W p l e rm_dr_joined s m args below meth c H locs 0 0 Q (F0 m 10 ls [iv r_24]) := by
    intro ls H locs hl h
    refine lv_istore_n hx hb (pc := 10) (lv' := [(2, iv r_24), (0, .ref xD), (1, iv l1)]) dX2_joined_10 rfl hl (Nat.le_of_ble_eq_true rfl) rfl (fun ls hl => ?_)
    refine x_lconst C (pc := 11) (x := 0#64) rfl dX2_joined_11 ?_
    refine lv_lstore_n hx hb (pc := 12) (lv' := [(3, lv (0#64)), (2, iv r_24), (0, .ref xD), (1, iv l1)]) dX2_joined_12 rfl hl (Nat.le_of_ble_eq_true rfl) rfl (fun ls hl => ?_)
    refine x_iconst C (pc := 13) dX2_joined_13 ?_
    refine lv_istore hx hb (pc := 14) (lv' := [(5, iv 0), (3, lv (0#64)), (2, iv r_24), (0, .ref xD), (1, iv l1)]) dX2_joined_14 hl (Nat.le_of_ble_eq_true rfl) rfl (fun ls hl => ?_)
    exact w_dr_joined_16 C xD xDc D_rows D_cols D_cr D_cb D_cl D_kl D_col Res hret N l1 r_24 N (0#64) 0 _ _ _ (lv_sub hl [3, 4, 2, 1, 0] rfl) h hf
  clear hf
  have hf := hrr_24
  refine x_ifne C (pc := 1) (tgt := 8) g_23 dX2_joined_1 rfl (fun hc => ?_) (fun hc => ?_)
  · have hf := oi_f hf hc
    refine x_bipush C (pc := 8) dX2_joined_8 (by decide) ?_
    have e9 := Option.some.inj hf
    subst e9
    exact Jr_24 _ _ _ (lv_sub hl [0, 1] rfl) h
  · have hf := oi_t hf hc
    refine x_iconst C (pc := 4) dX2_joined_4 ?_
    refine lv_goto hx hb (pc := 5) (tgt := 10) dX2_joined_5 rfl ?_
    have e9 := Option.some.inj hf
    subst e9
    exact Jr_24 _ _ _ (lv_sub hl [0, 1] rfl) h
