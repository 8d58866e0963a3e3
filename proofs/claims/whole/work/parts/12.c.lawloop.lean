def AllSteps_0 (N : Nat) (Inv : GSt → MSt → Prop) : Prop := ST_appendCharacter N Inv ∧ ST_clearText N Inv ∧ ST_loadDrawing N Inv ∧ ST_setColour N Inv ∧ ST_rows N Inv ∧ ST_columns N Inv ∧ ST_colourAt N Inv ∧ ST_addCut N Inv
def AllSteps_1 (N : Nat) (Inv : GSt → MSt → Prop) : Prop := ST_removeCut N Inv ∧ ST_looseCuts N Inv ∧ ST_removeLooseCuts N Inv ∧ ST_paneCount N Inv ∧ ST_paneAt N Inv ∧ ST_paneSize N Inv ∧ ST_innerCorners N Inv ∧ ST_holes N Inv
def AllSteps_2 (N : Nat) (Inv : GSt → MSt → Prop) : Prop := ST_canBeCut N Inv ∧ ST_cuttableCount N Inv ∧ ST_neighbourCount N Inv ∧ ST_leadLength N Inv ∧ ST_setCellLimit N Inv ∧ ST_setCornerLimit N Inv ∧ ST_splitPieces N Inv ∧ ST_splitLead N Inv
def AllSteps_3 (N : Nat) (Inv : GSt → MSt → Prop) : Prop := ST_applySplit N Inv ∧ ST_equalNeighbours N Inv ∧ ST_colourCount N Inv ∧ ST_suggestedColour N Inv ∧ ST_bestOrder N Inv ∧ ST_largestClique N Inv ∧ ST_undo N Inv
set_option maxHeartbeats 8000000 in
set_option maxRecDepth 100000 in
theorem law_loop {p : Program} {l : Launch} {e : Env} {s : State} {m : MethodId} {below : List Frame} {meth : Method} {c : Code} {Q : State → Prop} {D : va_G} {cI cJ cZ cO : ClassId} {A : Nat → Prop} {H0 : Heap} {w0 : Cond} {bs L : Nat} {xs : Nat → Int32} (C : XC p s m #[Value.ref bs] c cL_law 4 RL w0 D (xT cI cJ cZ cO)) (hX : va_X bs L xs s H0) (hbl : bs < H0.size) (hbA : ¬ A bs) (hL : L ≤ 2048) (N : Nat) (Inv : GSt → MSt → Prop) (h0 : AllSteps_0 N Inv) (h1 : AllSteps_1 N Inv) (h2 : AllSteps_2 N Inv) (h3 : AllSteps_3 N Inv) (a b : Nat → Nat) (hend : ∀ (ls : Array Slot) (H : Heap) (locs : List Loc) (ws : va_W), XH D A H0 ws H locs → W p l e room_1 s m #[Value.ref bs] below meth c H locs 51 14137 Q (F0 m 851 ls [])) : ∀ (n i : Nat) (g : GSt) (μ : MSt) (ls : Array Slot) (H : Heap) (locs : List Loc), L < i + n → i ≤ L + 4 → Inv g μ → lv_has ls 4 [(0, .ref bs), (1, .ref (b 0)), (2, .ref (a 0)), (3, iv (i : Int))] → XH D A H0 (wS cI cJ cZ cO b a g μ) H locs → W p l e room_1 s m #[Value.ref bs] below meth c H locs 51 14137 Q (F0 m 18 ls []) := by
  have hx := C.1.1
  have hb := C.1.2.1
  intro n
  induction n with
  | zero =>
    intro i g μ ls H locs h1 h2 hI hl h
    refine lv_iload_n hx hb (pc := 18) dL_law_18 rfl (lv_at hl 3 rfl) ?_
    refine lv_aload_n hx hb (pc := 19) dL_law_19 rfl (lv_at hl 0 rfl) ?_
    refine x_slen C h (pc := 20) hX hbl hbA dL_law_20 ?_
    refine x_iconst C (pc := 21) dL_law_21 ?_
    refine x_isub C (pc := 22) dL_law_22 ?_
    refine x_icmpgt C (pc := 23) (tgt := 851) ⟨by omega, by omega⟩ ⟨by omega, by omega⟩ dL_law_23 rfl (fun _ => hend _ _ _ _ h) (fun hc => ?_)
    omega
  | succ n ih =>
    intro i g μ ls H locs hn hi4 hI hl h
    refine lv_iload_n hx hb (pc := 18) dL_law_18 rfl (lv_at hl 3 rfl) ?_
    refine lv_aload_n hx hb (pc := 19) dL_law_19 rfl (lv_at hl 0 rfl) ?_
    refine x_slen C h (pc := 20) hX hbl hbA dL_law_20 ?_
    refine x_iconst C (pc := 21) dL_law_21 ?_
    refine x_isub C (pc := 22) dL_law_22 ?_
    refine x_icmpgt C (pc := 23) (tgt := 851) ⟨by omega, by omega⟩ ⟨by omega, by omega⟩ dL_law_23 rfl (fun _ => hend _ _ _ _ h) (fun hc => ?_)
    have hi : i + 4 ≤ L := by omega
    have hK : ∀ (g : GSt) (μ : MSt) (ls : Array Slot) (H : Heap) (locs : List Loc), Inv g μ → lv_has ls 4 [(0, .ref bs), (1, .ref (b 0)), (2, .ref (a 0)), (3, iv (i : Int))] → XH D A H0 (wS cI cJ cZ cO b a g μ) H locs → W p l e room_1 s m #[Value.ref bs] below meth c H locs 51 14137 Q (F0 m 845 ls []) := by
      intro g μ ls H locs hI hl h
      refine x_iinc C (pc := 845) (k := 3) (z' := ((i + 4 : Nat) : Int)) (lw' := [(3, iv ((i + 4 : Nat) : Int)), (0, .ref bs), (1, .ref (b 0)), (2, .ref (a 0))]) dL_law_845 hl rfl (by omega) (Nat.le_of_ble_eq_true rfl) rfl (fun ls hl => ?_)
      refine lv_goto hx hb (pc := 848) (tgt := 18) dL_law_848 rfl ?_
      exact ih (i + 4) g μ ls H locs (by omega) (by omega) hI (lv_sub hl [1, 2, 3, 0] rfl) h
    refine lv_aload_n hx hb (pc := 26) dL_law_26 rfl (lv_at hl 0 rfl) ?_
    refine lv_iload_n hx hb (pc := 27) dL_law_27 rfl (lv_at hl 3 rfl) ?_
    refine x_sld C h (pc := 28) hX hbl hbA (by omega) (k := i) rfl (by omega) dL_law_28 ?_
    refine x_bipush C (pc := 29) dL_law_29 (by decide) ?_
    refine lv_iand hx hb (pc := 31) dL_law_31 ?_
    obtain ⟨j, hj, ej⟩ := pk_andE (Int32.ofInt (xs i).toInt) (m := Int32.ofInt 31) 5 (by decide)
    rw [ej]
    clear ej
    rcases (show j = 0 ∨ j = 1 ∨ j = 2 ∨ j = 3 ∨ j = 4 ∨ j = 5 ∨ j = 6 ∨ j = 7 ∨ j = 8 ∨ j = 9 ∨ j = 10 ∨ j = 11 ∨ j = 12 ∨ j = 13 ∨ j = 14 ∨ j = 15 ∨ j = 16 ∨ j = 17 ∨ j = 18 ∨ j = 19 ∨ j = 20 ∨ j = 21 ∨ j = 22 ∨ j = 23 ∨ j = 24 ∨ j = 25 ∨ j = 26 ∨ j = 27 ∨ j = 28 ∨ j = 29 ∨ j = 30 ∨ j = 31 by omega) with rfl | rfl | rfl | rfl | rfl | rfl | rfl | rfl | rfl | rfl | rfl | rfl | rfl | rfl | rfl | rfl | rfl | rfl | rfl | rfl | rfl | rfl | rfl | rfl | rfl | rfl | rfl | rfl | rfl | rfl | rfl | rfl
    · refine lv_tableIn hx hb (pc := 32) (tgt := 172) dL_law_32 (by decide) (by decide) rfl rfl ?_
      exact lc_appendCharacter C hX hbl hbA hL N Inv h0.1 a b i hi hK g μ ls H locs hI hl h
    · refine lv_tableIn hx hb (pc := 32) (tgt := 195) dL_law_32 (by decide) (by decide) rfl rfl ?_
      exact lc_clearText C hX hbl hbA hL N Inv h0.2.1 a b i hi hK g μ ls H locs hI hl h
    · refine lv_tableIn hx hb (pc := 32) (tgt := 208) dL_law_32 (by decide) (by decide) rfl rfl ?_
      exact lc_loadDrawing C hX hbl hbA hL N Inv h0.2.2.1 a b i hi hK g μ ls H locs hI hl h
    · refine lv_tableIn hx hb (pc := 32) (tgt := 221) dL_law_32 (by decide) (by decide) rfl rfl ?_
      exact lc_setColour C hX hbl hbA hL N Inv h0.2.2.2.1 a b i hi hK g μ ls H locs hI hl h
    · refine lv_tableIn hx hb (pc := 32) (tgt := 264) dL_law_32 (by decide) (by decide) rfl rfl ?_
      exact lc_rows C hX hbl hbA hL N Inv h0.2.2.2.2.1 a b i hi hK g μ ls H locs hI hl h
    · refine lv_tableIn hx hb (pc := 32) (tgt := 277) dL_law_32 (by decide) (by decide) rfl rfl ?_
      exact lc_columns C hX hbl hbA hL N Inv h0.2.2.2.2.2.1 a b i hi hK g μ ls H locs hI hl h
    · refine lv_tableIn hx hb (pc := 32) (tgt := 290) dL_law_32 (by decide) (by decide) rfl rfl ?_
      exact lc_colourAt C hX hbl hbA hL N Inv h0.2.2.2.2.2.2.1 a b i hi hK g μ ls H locs hI hl h
    · refine lv_tableIn hx hb (pc := 32) (tgt := 323) dL_law_32 (by decide) (by decide) rfl rfl ?_
      exact lc_addCut C hX hbl hbA hL N Inv h0.2.2.2.2.2.2.2 a b i hi hK g μ ls H locs hI hl h
    · refine lv_tableIn hx hb (pc := 32) (tgt := 366) dL_law_32 (by decide) (by decide) rfl rfl ?_
      exact lc_removeCut C hX hbl hbA hL N Inv h1.1 a b i hi hK g μ ls H locs hI hl h
    · refine lv_tableIn hx hb (pc := 32) (tgt := 409) dL_law_32 (by decide) (by decide) rfl rfl ?_
      exact lc_looseCuts C hX hbl hbA hL N Inv h1.2.1 a b i hi hK g μ ls H locs hI hl h
    · refine lv_tableIn hx hb (pc := 32) (tgt := 422) dL_law_32 (by decide) (by decide) rfl rfl ?_
      exact lc_removeLooseCuts C hX hbl hbA hL N Inv h1.2.2.1 a b i hi hK g μ ls H locs hI hl h
    · refine lv_tableIn hx hb (pc := 32) (tgt := 435) dL_law_32 (by decide) (by decide) rfl rfl ?_
      exact lc_paneCount C hX hbl hbA hL N Inv h1.2.2.2.1 a b i hi hK g μ ls H locs hI hl h
    · refine lv_tableIn hx hb (pc := 32) (tgt := 448) dL_law_32 (by decide) (by decide) rfl rfl ?_
      exact lc_paneAt C hX hbl hbA hL N Inv h1.2.2.2.2.1 a b i hi hK g μ ls H locs hI hl h
    · refine lv_tableIn hx hb (pc := 32) (tgt := 481) dL_law_32 (by decide) (by decide) rfl rfl ?_
      exact lc_paneSize C hX hbl hbA hL N Inv h1.2.2.2.2.2.1 a b i hi hK g μ ls H locs hI hl h
    · refine lv_tableIn hx hb (pc := 32) (tgt := 504) dL_law_32 (by decide) (by decide) rfl rfl ?_
      exact lc_innerCorners C hX hbl hbA hL N Inv h1.2.2.2.2.2.2.1 a b i hi hK g μ ls H locs hI hl h
    · refine lv_tableIn hx hb (pc := 32) (tgt := 527) dL_law_32 (by decide) (by decide) rfl rfl ?_
      exact lc_holes C hX hbl hbA hL N Inv h1.2.2.2.2.2.2.2 a b i hi hK g μ ls H locs hI hl h
    · refine lv_tableIn hx hb (pc := 32) (tgt := 550) dL_law_32 (by decide) (by decide) rfl rfl ?_
      exact lc_canBeCut C hX hbl hbA hL N Inv h2.1 a b i hi hK g μ ls H locs hI hl h
    · refine lv_tableIn hx hb (pc := 32) (tgt := 573) dL_law_32 (by decide) (by decide) rfl rfl ?_
      exact lc_cuttableCount C hX hbl hbA hL N Inv h2.2.1 a b i hi hK g μ ls H locs hI hl h
    · refine lv_tableIn hx hb (pc := 32) (tgt := 586) dL_law_32 (by decide) (by decide) rfl rfl ?_
      exact lc_neighbourCount C hX hbl hbA hL N Inv h2.2.2.1 a b i hi hK g μ ls H locs hI hl h
    · refine lv_tableIn hx hb (pc := 32) (tgt := 609) dL_law_32 (by decide) (by decide) rfl rfl ?_
      exact lc_leadLength C hX hbl hbA hL N Inv h2.2.2.2.1 a b i hi hK g μ ls H locs hI hl h
    · refine lv_tableIn hx hb (pc := 32) (tgt := 622) dL_law_32 (by decide) (by decide) rfl rfl ?_
      exact lc_setCellLimit C hX hbl hbA hL N Inv h2.2.2.2.2.1 a b i hi hK g μ ls H locs hI hl h
    · refine lv_tableIn hx hb (pc := 32) (tgt := 645) dL_law_32 (by decide) (by decide) rfl rfl ?_
      exact lc_setCornerLimit C hX hbl hbA hL N Inv h2.2.2.2.2.2.1 a b i hi hK g μ ls H locs hI hl h
    · refine lv_tableIn hx hb (pc := 32) (tgt := 668) dL_law_32 (by decide) (by decide) rfl rfl ?_
      exact lc_splitPieces C hX hbl hbA hL N Inv h2.2.2.2.2.2.2.1 a b i hi hK g μ ls H locs hI hl h
    · refine lv_tableIn hx hb (pc := 32) (tgt := 691) dL_law_32 (by decide) (by decide) rfl rfl ?_
      exact lc_splitLead C hX hbl hbA hL N Inv h2.2.2.2.2.2.2.2 a b i hi hK g μ ls H locs hI hl h
    · refine lv_tableIn hx hb (pc := 32) (tgt := 714) dL_law_32 (by decide) (by decide) rfl rfl ?_
      exact lc_applySplit C hX hbl hbA hL N Inv h3.1 a b i hi hK g μ ls H locs hI hl h
    · refine lv_tableIn hx hb (pc := 32) (tgt := 737) dL_law_32 (by decide) (by decide) rfl rfl ?_
      exact lc_equalNeighbours C hX hbl hbA hL N Inv h3.2.1 a b i hi hK g μ ls H locs hI hl h
    · refine lv_tableIn hx hb (pc := 32) (tgt := 750) dL_law_32 (by decide) (by decide) rfl rfl ?_
      exact lc_colourCount C hX hbl hbA hL N Inv h3.2.2.1 a b i hi hK g μ ls H locs hI hl h
    · refine lv_tableIn hx hb (pc := 32) (tgt := 773) dL_law_32 (by decide) (by decide) rfl rfl ?_
      exact lc_suggestedColour C hX hbl hbA hL N Inv h3.2.2.2.1 a b i hi hK g μ ls H locs hI hl h
    · refine lv_tableIn hx hb (pc := 32) (tgt := 806) dL_law_32 (by decide) (by decide) rfl rfl ?_
      exact lc_bestOrder C hX hbl hbA hL N Inv h3.2.2.2.2.1 a b i hi hK g μ ls H locs hI hl h
    · refine lv_tableIn hx hb (pc := 32) (tgt := 819) dL_law_32 (by decide) (by decide) rfl rfl ?_
      exact lc_largestClique C hX hbl hbA hL N Inv h3.2.2.2.2.2.1 a b i hi hK g μ ls H locs hI hl h
    · refine lv_tableIn hx hb (pc := 32) (tgt := 832) dL_law_32 (by decide) (by decide) rfl rfl ?_
      exact lc_undo C hX hbl hbA hL N Inv h3.2.2.2.2.2.2 a b i hi hK g μ ls H locs hI hl h
    · refine lv_tableOut hx hb (pc := 32) (tgt := 845) dL_law_32 (Or.inr (by decide)) rfl ?_
      exact hK g μ ls H locs hI hl h
