/-! ===== PURE: the invariant, and the thirty-one steps ===== -/
def IV (N : Nat) (g : GSt) (m : MSt) : Prop := TX (g.1) (g.2.1) (m.2.1) (m.2.2.2.2.2.2.2.2.2.2.2.1) ∧ CORE N (g.2.2.1) (g.2.2.2.1) (g.2.2.2.2.1) (g.2.2.2.2.2.1) (g.2.2.2.2.2.2.1) (g.2.2.2.2.2.2.2.1) (g.2.2.2.2.2.2.2.2.1) (g.2.2.2.2.2.2.2.2.2.1) (g.2.2.2.2.2.2.2.2.2.2.1) (g.2.2.2.2.2.2.2.2.2.2.2.1) (g.2.2.2.2.2.2.2.2.2.2.2.2.1) (g.2.2.2.2.2.2.2.2.2.2.2.2.2.1) (g.2.2.2.2.2.2.2.2.2.2.2.2.2.2.1) (g.2.2.2.2.2.2.2.2.2.2.2.2.2.2.2.1) (g.2.2.2.2.2.2.2.2.2.2.2.2.2.2.2.2.1) (g.2.2.2.2.2.2.2.2.2.2.2.2.2.2.2.2.2.1) (g.2.2.2.2.2.2.2.2.2.2.2.2.2.2.2.2.2.2.1) (g.2.2.2.2.2.2.2.2.2.2.2.2.2.2.2.2.2.2.2.1) (g.2.2.2.2.2.2.2.2.2.2.2.2.2.2.2.2.2.2.2.2.1) (g.2.2.2.2.2.2.2.2.2.2.2.2.2.2.2.2.2.2.2.2.2.1) (g.2.2.2.2.2.2.2.2.2.2.2.2.2.2.2.2.2.2.2.2.2.2.1) (g.2.2.2.2.2.2.2.2.2.2.2.2.2.2.2.2.2.2.2.2.2.2.2.1) (g.2.2.2.2.2.2.2.2.2.2.2.2.2.2.2.2.2.2.2.2.2.2.2.2.1) (g.2.2.2.2.2.2.2.2.2.2.2.2.2.2.2.2.2.2.2.2.2.2.2.2.2.1) (g.2.2.2.2.2.2.2.2.2.2.2.2.2.2.2.2.2.2.2.2.2.2.2.2.2.2.1) (g.2.2.2.2.2.2.2.2.2.2.2.2.2.2.2.2.2.2.2.2.2.2.2.2.2.2.2.1) (g.2.2.2.2.2.2.2.2.2.2.2.2.2.2.2.2.2.2.2.2.2.2.2.2.2.2.2.2.1) (g.2.2.2.2.2.2.2.2.2.2.2.2.2.2.2.2.2.2.2.2.2.2.2.2.2.2.2.2.2.1) (g.2.2.2.2.2.2.2.2.2.2.2.2.2.2.2.2.2.2.2.2.2.2.2.2.2.2.2.2.2.2.1) (g.2.2.2.2.2.2.2.2.2.2.2.2.2.2.2.2.2.2.2.2.2.2.2.2.2.2.2.2.2.2.2.1) (m.1) (m.2.2.2.2.2.2.2.2.2.1) (m.2.2.2.2.2.2.2.2.2.2.1)
theorem st_appendCharacter {N : Nat} (hN : 4000 ≤ N) : ST_appendCharacter N (IV N) := by
  intro T_len T_ch D_rows D_cols D_cr D_cb D_cl D_kl D_col H_next H_count K_rows K_cols K_cr K_cb K_cl K_kl K_col P_all P_jr P_jb P_count P_cells P_near S_planned S_cells S_top S_bottom S_left S_right S_w S_l C_seq C_given M_edits M_typed M_readRows M_readColumns M_top M_bottom M_left M_right M_panes M_now M_past M_text M_read M_queue M_pane M_fragment M_size M_seen M_near M_nearMany M_pieces M_leads M_line M_waiting M_sequence M_isGone M_number z1 h0 hz1
  have h : TX T_len T_ch M_typed M_text ∧ CORE N D_rows D_cols D_cr D_cb D_cl D_kl D_col H_next H_count K_rows K_cols K_cr K_cb K_cl K_kl K_col P_all P_jr P_jb P_count P_cells P_near S_planned S_cells S_top S_bottom S_left S_right S_w S_l M_edits M_now M_past := h0
  obtain ⟨hT, hC⟩ := h
  obtain ⟨Rg, Rm, a, b, c, d⟩ := qu_appendCharacter (N := N) hT hz1
  exact ⟨Rg, Rm, a, b, c, And.intro d hC⟩
theorem st_clearText {N : Nat} (hN : 4000 ≤ N) : ST_clearText N (IV N) := by
  intro T_len T_ch D_rows D_cols D_cr D_cb D_cl D_kl D_col H_next H_count K_rows K_cols K_cr K_cb K_cl K_kl K_col P_all P_jr P_jb P_count P_cells P_near S_planned S_cells S_top S_bottom S_left S_right S_w S_l C_seq C_given M_edits M_typed M_readRows M_readColumns M_top M_bottom M_left M_right M_panes M_now M_past M_text M_read M_queue M_pane M_fragment M_size M_seen M_near M_nearMany M_pieces M_leads M_line M_waiting M_sequence M_isGone M_number  h0 
  have h : TX T_len T_ch M_typed M_text ∧ CORE N D_rows D_cols D_cr D_cb D_cl D_kl D_col H_next H_count K_rows K_cols K_cr K_cb K_cl K_kl K_col P_all P_jr P_jb P_count P_cells P_near S_planned S_cells S_top S_bottom S_left S_right S_w S_l M_edits M_now M_past := h0
  obtain ⟨hT, hC⟩ := h
  exact ⟨(T_len, 0), (M_typed, 0), rfl, rfl, hT.1, And.intro ⟨rfl, Int.le_refl _, (by show (0 : Int) ≤ 80; decide), fun i i1 i2 => by have i3 : i < 0 := i2; omega⟩ hC⟩
theorem st_loadDrawing {N : Nat} (hN : 4000 ≤ N) : ST_loadDrawing N (IV N) := by
  intro T_len T_ch D_rows D_cols D_cr D_cb D_cl D_kl D_col H_next H_count K_rows K_cols K_cr K_cb K_cl K_kl K_col P_all P_jr P_jb P_count P_cells P_near S_planned S_cells S_top S_bottom S_left S_right S_w S_l C_seq C_given M_edits M_typed M_readRows M_readColumns M_top M_bottom M_left M_right M_panes M_now M_past M_text M_read M_queue M_pane M_fragment M_size M_seen M_near M_nearMany M_pieces M_leads M_line M_waiting M_sequence M_isGone M_number  h0 
  have h : TX T_len T_ch M_typed M_text ∧ CORE N D_rows D_cols D_cr D_cb D_cl D_kl D_col H_next H_count K_rows K_cols K_cr K_cb K_cl K_kl K_col P_all P_jr P_jb P_count P_cells P_near S_planned S_cells S_top S_bottom S_left S_right S_w S_l M_edits M_now M_past := h0
  obtain ⟨hT, hC⟩ := h
  obtain ⟨Rg, Rm, a, b, c, d, e⟩ := qu_loadDrawing hN hC hT M_readRows M_readColumns M_top M_bottom M_left M_right M_panes M_read M_queue M_pane M_size
  exact ⟨Rg, Rm, a, b, c, And.intro d e⟩
theorem st_setColour {N : Nat} (hN : 4000 ≤ N) : ST_setColour N (IV N) := by
  intro T_len T_ch D_rows D_cols D_cr D_cb D_cl D_kl D_col H_next H_count K_rows K_cols K_cr K_cb K_cl K_kl K_col P_all P_jr P_jb P_count P_cells P_near S_planned S_cells S_top S_bottom S_left S_right S_w S_l C_seq C_given M_edits M_typed M_readRows M_readColumns M_top M_bottom M_left M_right M_panes M_now M_past M_text M_read M_queue M_pane M_fragment M_size M_seen M_near M_nearMany M_pieces M_leads M_line M_waiting M_sequence M_isGone M_number z1 z2 z3 h0 hz1 hz2 hz3
  have h : TX T_len T_ch M_typed M_text ∧ CORE N D_rows D_cols D_cr D_cb D_cl D_kl D_col H_next H_count K_rows K_cols K_cr K_cb K_cl K_kl K_col P_all P_jr P_jb P_count P_cells P_near S_planned S_cells S_top S_bottom S_left S_right S_w S_l M_edits M_now M_past := h0
  obtain ⟨hT, hC⟩ := h
  obtain ⟨Rg, Rm, a, b, c, d⟩ := qu_setColour hN hC hz1 hz2 hz3
  exact ⟨Rg, Rm, a, b, c, And.intro hT d⟩
theorem st_addCut {N : Nat} (hN : 4000 ≤ N) : ST_addCut N (IV N) := by
  intro T_len T_ch D_rows D_cols D_cr D_cb D_cl D_kl D_col H_next H_count K_rows K_cols K_cr K_cb K_cl K_kl K_col P_all P_jr P_jb P_count P_cells P_near S_planned S_cells S_top S_bottom S_left S_right S_w S_l C_seq C_given M_edits M_typed M_readRows M_readColumns M_top M_bottom M_left M_right M_panes M_now M_past M_text M_read M_queue M_pane M_fragment M_size M_seen M_near M_nearMany M_pieces M_leads M_line M_waiting M_sequence M_isGone M_number z1 z2 z3 h0 hz1 hz2 hz3
  have h : TX T_len T_ch M_typed M_text ∧ CORE N D_rows D_cols D_cr D_cb D_cl D_kl D_col H_next H_count K_rows K_cols K_cr K_cb K_cl K_kl K_col P_all P_jr P_jb P_count P_cells P_near S_planned S_cells S_top S_bottom S_left S_right S_w S_l M_edits M_now M_past := h0
  obtain ⟨hT, hC⟩ := h
  obtain ⟨Rg, Rm, a, b, c, d⟩ := qu_addCut hN hC hz1 hz2 hz3
  exact ⟨Rg, Rm, a, b, c, And.intro hT d⟩
theorem st_removeCut {N : Nat} (hN : 4000 ≤ N) : ST_removeCut N (IV N) := by
  intro T_len T_ch D_rows D_cols D_cr D_cb D_cl D_kl D_col H_next H_count K_rows K_cols K_cr K_cb K_cl K_kl K_col P_all P_jr P_jb P_count P_cells P_near S_planned S_cells S_top S_bottom S_left S_right S_w S_l C_seq C_given M_edits M_typed M_readRows M_readColumns M_top M_bottom M_left M_right M_panes M_now M_past M_text M_read M_queue M_pane M_fragment M_size M_seen M_near M_nearMany M_pieces M_leads M_line M_waiting M_sequence M_isGone M_number z1 z2 z3 h0 hz1 hz2 hz3
  have h : TX T_len T_ch M_typed M_text ∧ CORE N D_rows D_cols D_cr D_cb D_cl D_kl D_col H_next H_count K_rows K_cols K_cr K_cb K_cl K_kl K_col P_all P_jr P_jb P_count P_cells P_near S_planned S_cells S_top S_bottom S_left S_right S_w S_l M_edits M_now M_past := h0
  obtain ⟨hT, hC⟩ := h
  obtain ⟨Rg, Rm, a, b, c, d⟩ := qu_removeCut hN hC hz1 hz2 hz3
  exact ⟨Rg, Rm, a, b, c, And.intro hT d⟩
theorem st_setCellLimit {N : Nat} (hN : 4000 ≤ N) : ST_setCellLimit N (IV N) := by
  intro T_len T_ch D_rows D_cols D_cr D_cb D_cl D_kl D_col H_next H_count K_rows K_cols K_cr K_cb K_cl K_kl K_col P_all P_jr P_jb P_count P_cells P_near S_planned S_cells S_top S_bottom S_left S_right S_w S_l C_seq C_given M_edits M_typed M_readRows M_readColumns M_top M_bottom M_left M_right M_panes M_now M_past M_text M_read M_queue M_pane M_fragment M_size M_seen M_near M_nearMany M_pieces M_leads M_line M_waiting M_sequence M_isGone M_number z1 h0 hz1
  have h : TX T_len T_ch M_typed M_text ∧ CORE N D_rows D_cols D_cr D_cb D_cl D_kl D_col H_next H_count K_rows K_cols K_cr K_cb K_cl K_kl K_col P_all P_jr P_jb P_count P_cells P_near S_planned S_cells S_top S_bottom S_left S_right S_w S_l M_edits M_now M_past := h0
  obtain ⟨hT, hC⟩ := h
  obtain ⟨Rg, Rm, a, b, c, d⟩ := qu_setCellLimit hN hC hz1
  exact ⟨Rg, Rm, a, b, c, And.intro hT d⟩
theorem st_setCornerLimit {N : Nat} (hN : 4000 ≤ N) : ST_setCornerLimit N (IV N) := by
  intro T_len T_ch D_rows D_cols D_cr D_cb D_cl D_kl D_col H_next H_count K_rows K_cols K_cr K_cb K_cl K_kl K_col P_all P_jr P_jb P_count P_cells P_near S_planned S_cells S_top S_bottom S_left S_right S_w S_l C_seq C_given M_edits M_typed M_readRows M_readColumns M_top M_bottom M_left M_right M_panes M_now M_past M_text M_read M_queue M_pane M_fragment M_size M_seen M_near M_nearMany M_pieces M_leads M_line M_waiting M_sequence M_isGone M_number z1 h0 hz1
  have h : TX T_len T_ch M_typed M_text ∧ CORE N D_rows D_cols D_cr D_cb D_cl D_kl D_col H_next H_count K_rows K_cols K_cr K_cb K_cl K_kl K_col P_all P_jr P_jb P_count P_cells P_near S_planned S_cells S_top S_bottom S_left S_right S_w S_l M_edits M_now M_past := h0
  obtain ⟨hT, hC⟩ := h
  obtain ⟨Rg, Rm, a, b, c, d⟩ := qu_setCornerLimit hN hC hz1
  exact ⟨Rg, Rm, a, b, c, And.intro hT d⟩
theorem st_undo {N : Nat} (hN : 4000 ≤ N) : ST_undo N (IV N) := by
  intro T_len T_ch D_rows D_cols D_cr D_cb D_cl D_kl D_col H_next H_count K_rows K_cols K_cr K_cb K_cl K_kl K_col P_all P_jr P_jb P_count P_cells P_near S_planned S_cells S_top S_bottom S_left S_right S_w S_l C_seq C_given M_edits M_typed M_readRows M_readColumns M_top M_bottom M_left M_right M_panes M_now M_past M_text M_read M_queue M_pane M_fragment M_size M_seen M_near M_nearMany M_pieces M_leads M_line M_waiting M_sequence M_isGone M_number  h0 
  have h : TX T_len T_ch M_typed M_text ∧ CORE N D_rows D_cols D_cr D_cb D_cl D_kl D_col H_next H_count K_rows K_cols K_cr K_cb K_cl K_kl K_col P_all P_jr P_jb P_count P_cells P_near S_planned S_cells S_top S_bottom S_left S_right S_w S_l M_edits M_now M_past := h0
  obtain ⟨hT, hC⟩ := h
  obtain ⟨Rg, Rm, a, b, c, d⟩ := qu_undo hN hC 
  exact ⟨Rg, Rm, a, b, c, And.intro hT d⟩
theorem st_rows {N : Nat} (hN : 4000 ≤ N) : ST_rows N (IV N) := by
  intro T_len T_ch D_rows D_cols D_cr D_cb D_cl D_kl D_col H_next H_count K_rows K_cols K_cr K_cb K_cl K_kl K_col P_all P_jr P_jb P_count P_cells P_near S_planned S_cells S_top S_bottom S_left S_right S_w S_l C_seq C_given M_edits M_typed M_readRows M_readColumns M_top M_bottom M_left M_right M_panes M_now M_past M_text M_read M_queue M_pane M_fragment M_size M_seen M_near M_nearMany M_pieces M_leads M_line M_waiting M_sequence M_isGone M_number  h0 
  have h : TX T_len T_ch M_typed M_text ∧ CORE N D_rows D_cols D_cr D_cb D_cl D_kl D_col H_next H_count K_rows K_cols K_cr K_cb K_cl K_kl K_col P_all P_jr P_jb P_count P_cells P_near S_planned S_cells S_top S_bottom S_left S_right S_w S_l M_edits M_now M_past := h0
  obtain ⟨hT, hC⟩ := h
  have hC0 := hC
  obtain ⟨hH, ⟨R, C, hd, hP⟩, hS⟩ := hC0
  exact ⟨D_rows, M_now 0, rfl, rfl, hd.1.trans hd.2.2.1.symm, And.intro hT hC⟩
theorem st_columns {N : Nat} (hN : 4000 ≤ N) : ST_columns N (IV N) := by
  intro T_len T_ch D_rows D_cols D_cr D_cb D_cl D_kl D_col H_next H_count K_rows K_cols K_cr K_cb K_cl K_kl K_col P_all P_jr P_jb P_count P_cells P_near S_planned S_cells S_top S_bottom S_left S_right S_w S_l C_seq C_given M_edits M_typed M_readRows M_readColumns M_top M_bottom M_left M_right M_panes M_now M_past M_text M_read M_queue M_pane M_fragment M_size M_seen M_near M_nearMany M_pieces M_leads M_line M_waiting M_sequence M_isGone M_number  h0 
  have h : TX T_len T_ch M_typed M_text ∧ CORE N D_rows D_cols D_cr D_cb D_cl D_kl D_col H_next H_count K_rows K_cols K_cr K_cb K_cl K_kl K_col P_all P_jr P_jb P_count P_cells P_near S_planned S_cells S_top S_bottom S_left S_right S_w S_l M_edits M_now M_past := h0
  obtain ⟨hT, hC⟩ := h
  have hC0 := hC
  obtain ⟨hH, ⟨R, C, hd, hP⟩, hS⟩ := hC0
  exact ⟨D_cols, M_now 1, rfl, rfl, hd.2.1.trans hd.2.2.2.1.symm, And.intro hT hC⟩
theorem st_colourAt {N : Nat} (hN : 4000 ≤ N) : ST_colourAt N (IV N) := by
  intro T_len T_ch D_rows D_cols D_cr D_cb D_cl D_kl D_col H_next H_count K_rows K_cols K_cr K_cb K_cl K_kl K_col P_all P_jr P_jb P_count P_cells P_near S_planned S_cells S_top S_bottom S_left S_right S_w S_l C_seq C_given M_edits M_typed M_readRows M_readColumns M_top M_bottom M_left M_right M_panes M_now M_past M_text M_read M_queue M_pane M_fragment M_size M_seen M_near M_nearMany M_pieces M_leads M_line M_waiting M_sequence M_isGone M_number z1 z2 h0 hz1 hz2
  have h : TX T_len T_ch M_typed M_text ∧ CORE N D_rows D_cols D_cr D_cb D_cl D_kl D_col H_next H_count K_rows K_cols K_cr K_cb K_cl K_kl K_col P_all P_jr P_jb P_count P_cells P_near S_planned S_cells S_top S_bottom S_left S_right S_w S_l M_edits M_now M_past := h0
  obtain ⟨hT, hC⟩ := h
  have hC0 := hC
  obtain ⟨hH, ⟨R, C, hd, hP⟩, hS⟩ := hC0
  obtain ⟨cnt, -, -, -, hM, -⟩ := hP
  obtain ⟨Rg, Rm, a, b, c⟩ := qu_colourAt (N := N) hd hz1 hz2 ⟨_, _, hM⟩
  exact ⟨Rg, Rm, a, b, c, And.intro hT hC⟩
theorem st_looseCuts {N : Nat} (hN : 4000 ≤ N) : ST_looseCuts N (IV N) := by
  intro T_len T_ch D_rows D_cols D_cr D_cb D_cl D_kl D_col H_next H_count K_rows K_cols K_cr K_cb K_cl K_kl K_col P_all P_jr P_jb P_count P_cells P_near S_planned S_cells S_top S_bottom S_left S_right S_w S_l C_seq C_given M_edits M_typed M_readRows M_readColumns M_top M_bottom M_left M_right M_panes M_now M_past M_text M_read M_queue M_pane M_fragment M_size M_seen M_near M_nearMany M_pieces M_leads M_line M_waiting M_sequence M_isGone M_number  h0 
  have h : TX T_len T_ch M_typed M_text ∧ CORE N D_rows D_cols D_cr D_cb D_cl D_kl D_col H_next H_count K_rows K_cols K_cr K_cb K_cl K_kl K_col P_all P_jr P_jb P_count P_cells P_near S_planned S_cells S_top S_bottom S_left S_right S_w S_l M_edits M_now M_past := h0
  obtain ⟨hT, hC⟩ := h
  have hC0 := hC
  obtain ⟨hH, ⟨R, C, hd, hP⟩, hS⟩ := hC0
  obtain ⟨Rg, Rm, a, b, c⟩ := qu_looseCuts hN hd hP M_top M_bottom M_left M_right M_panes M_queue M_pane M_size
  exact ⟨Rg, Rm, a, b, c, And.intro hT hC⟩
theorem st_removeLooseCuts {N : Nat} (hN : 4000 ≤ N) : ST_removeLooseCuts N (IV N) := by
  intro T_len T_ch D_rows D_cols D_cr D_cb D_cl D_kl D_col H_next H_count K_rows K_cols K_cr K_cb K_cl K_kl K_col P_all P_jr P_jb P_count P_cells P_near S_planned S_cells S_top S_bottom S_left S_right S_w S_l C_seq C_given M_edits M_typed M_readRows M_readColumns M_top M_bottom M_left M_right M_panes M_now M_past M_text M_read M_queue M_pane M_fragment M_size M_seen M_near M_nearMany M_pieces M_leads M_line M_waiting M_sequence M_isGone M_number  h0 
  have h : TX T_len T_ch M_typed M_text ∧ CORE N D_rows D_cols D_cr D_cb D_cl D_kl D_col H_next H_count K_rows K_cols K_cr K_cb K_cl K_kl K_col P_all P_jr P_jb P_count P_cells P_near S_planned S_cells S_top S_bottom S_left S_right S_w S_l M_edits M_now M_past := h0
  obtain ⟨hT, hC⟩ := h
  obtain ⟨Rg, Rm, a, b, c, d⟩ := qu_removeLooseCuts hN hC M_top M_bottom M_left M_right M_panes M_queue M_pane M_size
  exact ⟨Rg, Rm, a, b, c, And.intro hT d⟩
theorem st_paneCount {N : Nat} (hN : 4000 ≤ N) : ST_paneCount N (IV N) := by
  intro T_len T_ch D_rows D_cols D_cr D_cb D_cl D_kl D_col H_next H_count K_rows K_cols K_cr K_cb K_cl K_kl K_col P_all P_jr P_jb P_count P_cells P_near S_planned S_cells S_top S_bottom S_left S_right S_w S_l C_seq C_given M_edits M_typed M_readRows M_readColumns M_top M_bottom M_left M_right M_panes M_now M_past M_text M_read M_queue M_pane M_fragment M_size M_seen M_near M_nearMany M_pieces M_leads M_line M_waiting M_sequence M_isGone M_number  h0 
  have h : TX T_len T_ch M_typed M_text ∧ CORE N D_rows D_cols D_cr D_cb D_cl D_kl D_col H_next H_count K_rows K_cols K_cr K_cb K_cl K_kl K_col P_all P_jr P_jb P_count P_cells P_near S_planned S_cells S_top S_bottom S_left S_right S_w S_l M_edits M_now M_past := h0
  obtain ⟨hT, hC⟩ := h
  have hC0 := hC
  obtain ⟨hH, ⟨R, C, hd, hP⟩, hS⟩ := hC0
  obtain ⟨Rg, Rm, a, b, c⟩ := qu_paneCount hN hP M_top M_bottom M_left M_right M_panes M_queue M_pane M_size
  exact ⟨Rg, Rm, a, b, c, And.intro hT hC⟩
theorem st_paneAt {N : Nat} (hN : 4000 ≤ N) : ST_paneAt N (IV N) := by
  intro T_len T_ch D_rows D_cols D_cr D_cb D_cl D_kl D_col H_next H_count K_rows K_cols K_cr K_cb K_cl K_kl K_col P_all P_jr P_jb P_count P_cells P_near S_planned S_cells S_top S_bottom S_left S_right S_w S_l C_seq C_given M_edits M_typed M_readRows M_readColumns M_top M_bottom M_left M_right M_panes M_now M_past M_text M_read M_queue M_pane M_fragment M_size M_seen M_near M_nearMany M_pieces M_leads M_line M_waiting M_sequence M_isGone M_number z1 z2 h0 hz1 hz2
  have h : TX T_len T_ch M_typed M_text ∧ CORE N D_rows D_cols D_cr D_cb D_cl D_kl D_col H_next H_count K_rows K_cols K_cr K_cb K_cl K_kl K_col P_all P_jr P_jb P_count P_cells P_near S_planned S_cells S_top S_bottom S_left S_right S_w S_l M_edits M_now M_past := h0
  obtain ⟨hT, hC⟩ := h
  have hC0 := hC
  obtain ⟨hH, ⟨R, C, hd, hP⟩, hS⟩ := hC0
  obtain ⟨Rg, Rm, a, b, c⟩ := qu_paneAt hN hP hz1 hz2 M_top M_bottom M_left M_right M_panes M_queue M_pane M_size
  rw [← hd.1, ← hd.2.1] at a
  exact ⟨Rg, Rm, a, b, c, And.intro hT hC⟩
theorem st_paneSize {N : Nat} (hN : 4000 ≤ N) : ST_paneSize N (IV N) := by
  intro T_len T_ch D_rows D_cols D_cr D_cb D_cl D_kl D_col H_next H_count K_rows K_cols K_cr K_cb K_cl K_kl K_col P_all P_jr P_jb P_count P_cells P_near S_planned S_cells S_top S_bottom S_left S_right S_w S_l C_seq C_given M_edits M_typed M_readRows M_readColumns M_top M_bottom M_left M_right M_panes M_now M_past M_text M_read M_queue M_pane M_fragment M_size M_seen M_near M_nearMany M_pieces M_leads M_line M_waiting M_sequence M_isGone M_number z1 h0 hz1
  have h : TX T_len T_ch M_typed M_text ∧ CORE N D_rows D_cols D_cr D_cb D_cl D_kl D_col H_next H_count K_rows K_cols K_cr K_cb K_cl K_kl K_col P_all P_jr P_jb P_count P_cells P_near S_planned S_cells S_top S_bottom S_left S_right S_w S_l M_edits M_now M_past := h0
  obtain ⟨hT, hC⟩ := h
  have hC0 := hC
  obtain ⟨hH, ⟨R, C, hd, hP⟩, hS⟩ := hC0
  obtain ⟨Rg, Rm, a, b, c⟩ := qu_paneSize hN hP hz1 M_top M_bottom M_left M_right M_panes M_queue M_pane M_size
  exact ⟨Rg, Rm, a, b, c, And.intro hT hC⟩
theorem st_innerCorners {N : Nat} (hN : 4000 ≤ N) : ST_innerCorners N (IV N) := by
  intro T_len T_ch D_rows D_cols D_cr D_cb D_cl D_kl D_col H_next H_count K_rows K_cols K_cr K_cb K_cl K_kl K_col P_all P_jr P_jb P_count P_cells P_near S_planned S_cells S_top S_bottom S_left S_right S_w S_l C_seq C_given M_edits M_typed M_readRows M_readColumns M_top M_bottom M_left M_right M_panes M_now M_past M_text M_read M_queue M_pane M_fragment M_size M_seen M_near M_nearMany M_pieces M_leads M_line M_waiting M_sequence M_isGone M_number z1 h0 hz1
  have h : TX T_len T_ch M_typed M_text ∧ CORE N D_rows D_cols D_cr D_cb D_cl D_kl D_col H_next H_count K_rows K_cols K_cr K_cb K_cl K_kl K_col P_all P_jr P_jb P_count P_cells P_near S_planned S_cells S_top S_bottom S_left S_right S_w S_l M_edits M_now M_past := h0
  obtain ⟨hT, hC⟩ := h
  have hC0 := hC
  obtain ⟨hH, ⟨R, C, hd, hP⟩, hS⟩ := hC0
  obtain ⟨Rg, Rm, a, b, c⟩ := qu_innerCorners hN hP hz1 M_top M_bottom M_left M_right M_panes M_queue M_pane M_size
  exact ⟨Rg, Rm, a, b, c, And.intro hT hC⟩
theorem st_holes {N : Nat} (hN : 4000 ≤ N) : ST_holes N (IV N) := by
  intro T_len T_ch D_rows D_cols D_cr D_cb D_cl D_kl D_col H_next H_count K_rows K_cols K_cr K_cb K_cl K_kl K_col P_all P_jr P_jb P_count P_cells P_near S_planned S_cells S_top S_bottom S_left S_right S_w S_l C_seq C_given M_edits M_typed M_readRows M_readColumns M_top M_bottom M_left M_right M_panes M_now M_past M_text M_read M_queue M_pane M_fragment M_size M_seen M_near M_nearMany M_pieces M_leads M_line M_waiting M_sequence M_isGone M_number z1 h0 hz1
  have h : TX T_len T_ch M_typed M_text ∧ CORE N D_rows D_cols D_cr D_cb D_cl D_kl D_col H_next H_count K_rows K_cols K_cr K_cb K_cl K_kl K_col P_all P_jr P_jb P_count P_cells P_near S_planned S_cells S_top S_bottom S_left S_right S_w S_l M_edits M_now M_past := h0
  obtain ⟨hT, hC⟩ := h
  have hC0 := hC
  obtain ⟨hH, ⟨R, C, hd, hP⟩, hS⟩ := hC0
  obtain ⟨Rg, Rm, a, b, c⟩ := qu_holes hN hP hz1 M_top M_bottom M_left M_right M_panes M_queue M_pane M_size M_seen
  exact ⟨Rg, Rm, a, b, c, And.intro hT hC⟩
theorem st_canBeCut {N : Nat} (hN : 4000 ≤ N) : ST_canBeCut N (IV N) := by
  intro T_len T_ch D_rows D_cols D_cr D_cb D_cl D_kl D_col H_next H_count K_rows K_cols K_cr K_cb K_cl K_kl K_col P_all P_jr P_jb P_count P_cells P_near S_planned S_cells S_top S_bottom S_left S_right S_w S_l C_seq C_given M_edits M_typed M_readRows M_readColumns M_top M_bottom M_left M_right M_panes M_now M_past M_text M_read M_queue M_pane M_fragment M_size M_seen M_near M_nearMany M_pieces M_leads M_line M_waiting M_sequence M_isGone M_number z1 h0 hz1
  have h : TX T_len T_ch M_typed M_text ∧ CORE N D_rows D_cols D_cr D_cb D_cl D_kl D_col H_next H_count K_rows K_cols K_cr K_cb K_cl K_kl K_col P_all P_jr P_jb P_count P_cells P_near S_planned S_cells S_top S_bottom S_left S_right S_w S_l M_edits M_now M_past := h0
  obtain ⟨hT, hC⟩ := h
  have hC0 := hC
  obtain ⟨hH, ⟨R, C, hd, hP⟩, hS⟩ := hC0
  obtain ⟨Rg, Rm, a, b, c⟩ := qu_canBeCut hN hP hz1 M_top M_bottom M_left M_right M_panes M_queue M_pane M_size M_seen
  rw [← hd.2.2.2.2.2.1.1, ← hd.2.2.2.2.2.2.1.1] at a
  exact ⟨Rg, Rm, a, b, c, And.intro hT hC⟩
theorem st_cuttableCount {N : Nat} (hN : 4000 ≤ N) : ST_cuttableCount N (IV N) := by
  intro T_len T_ch D_rows D_cols D_cr D_cb D_cl D_kl D_col H_next H_count K_rows K_cols K_cr K_cb K_cl K_kl K_col P_all P_jr P_jb P_count P_cells P_near S_planned S_cells S_top S_bottom S_left S_right S_w S_l C_seq C_given M_edits M_typed M_readRows M_readColumns M_top M_bottom M_left M_right M_panes M_now M_past M_text M_read M_queue M_pane M_fragment M_size M_seen M_near M_nearMany M_pieces M_leads M_line M_waiting M_sequence M_isGone M_number  h0 
  have h : TX T_len T_ch M_typed M_text ∧ CORE N D_rows D_cols D_cr D_cb D_cl D_kl D_col H_next H_count K_rows K_cols K_cr K_cb K_cl K_kl K_col P_all P_jr P_jb P_count P_cells P_near S_planned S_cells S_top S_bottom S_left S_right S_w S_l M_edits M_now M_past := h0
  obtain ⟨hT, hC⟩ := h
  have hC0 := hC
  obtain ⟨hH, ⟨R, C, hd, hP⟩, hS⟩ := hC0
  obtain ⟨Rg, Rm, a, b, c⟩ := qu_cuttableCount hN hP M_top M_bottom M_left M_right M_panes M_queue M_pane M_size M_seen
  rw [← hd.2.2.2.2.2.1.1, ← hd.2.2.2.2.2.2.1.1] at a
  exact ⟨Rg, Rm, a, b, c, And.intro hT hC⟩
theorem st_neighbourCount {N : Nat} (hN : 4000 ≤ N) : ST_neighbourCount N (IV N) := by
  intro T_len T_ch D_rows D_cols D_cr D_cb D_cl D_kl D_col H_next H_count K_rows K_cols K_cr K_cb K_cl K_kl K_col P_all P_jr P_jb P_count P_cells P_near S_planned S_cells S_top S_bottom S_left S_right S_w S_l C_seq C_given M_edits M_typed M_readRows M_readColumns M_top M_bottom M_left M_right M_panes M_now M_past M_text M_read M_queue M_pane M_fragment M_size M_seen M_near M_nearMany M_pieces M_leads M_line M_waiting M_sequence M_isGone M_number z1 h0 hz1
  have h : TX T_len T_ch M_typed M_text ∧ CORE N D_rows D_cols D_cr D_cb D_cl D_kl D_col H_next H_count K_rows K_cols K_cr K_cb K_cl K_kl K_col P_all P_jr P_jb P_count P_cells P_near S_planned S_cells S_top S_bottom S_left S_right S_w S_l M_edits M_now M_past := h0
  obtain ⟨hT, hC⟩ := h
  have hC0 := hC
  obtain ⟨hH, ⟨R, C, hd, hP⟩, hS⟩ := hC0
  obtain ⟨Rg, Rm, a, b, c⟩ := qu_neighbourCount hN hP hz1 M_top M_bottom M_left M_right M_panes M_queue M_pane M_size M_near M_nearMany
  exact ⟨Rg, Rm, a, b, c, And.intro hT hC⟩
theorem st_leadLength {N : Nat} (hN : 4000 ≤ N) : ST_leadLength N (IV N) := by
  intro T_len T_ch D_rows D_cols D_cr D_cb D_cl D_kl D_col H_next H_count K_rows K_cols K_cr K_cb K_cl K_kl K_col P_all P_jr P_jb P_count P_cells P_near S_planned S_cells S_top S_bottom S_left S_right S_w S_l C_seq C_given M_edits M_typed M_readRows M_readColumns M_top M_bottom M_left M_right M_panes M_now M_past M_text M_read M_queue M_pane M_fragment M_size M_seen M_near M_nearMany M_pieces M_leads M_line M_waiting M_sequence M_isGone M_number  h0 
  have h : TX T_len T_ch M_typed M_text ∧ CORE N D_rows D_cols D_cr D_cb D_cl D_kl D_col H_next H_count K_rows K_cols K_cr K_cb K_cl K_kl K_col P_all P_jr P_jb P_count P_cells P_near S_planned S_cells S_top S_bottom S_left S_right S_w S_l M_edits M_now M_past := h0
  obtain ⟨hT, hC⟩ := h
  have hC0 := hC
  obtain ⟨hH, ⟨R, C, hd, hP⟩, hS⟩ := hC0
  obtain ⟨Rg, Rm, a, b, c⟩ := qu_leadLength hN hP M_top M_bottom M_left M_right M_panes M_queue M_pane M_size M_near M_nearMany
  exact ⟨Rg, Rm, a, b, c, And.intro hT hC⟩
theorem st_splitPieces {N : Nat} (hN : 4000 ≤ N) : ST_splitPieces N (IV N) := by
  intro T_len T_ch D_rows D_cols D_cr D_cb D_cl D_kl D_col H_next H_count K_rows K_cols K_cr K_cb K_cl K_kl K_col P_all P_jr P_jb P_count P_cells P_near S_planned S_cells S_top S_bottom S_left S_right S_w S_l C_seq C_given M_edits M_typed M_readRows M_readColumns M_top M_bottom M_left M_right M_panes M_now M_past M_text M_read M_queue M_pane M_fragment M_size M_seen M_near M_nearMany M_pieces M_leads M_line M_waiting M_sequence M_isGone M_number z1 h0 hz1
  have h : TX T_len T_ch M_typed M_text ∧ CORE N D_rows D_cols D_cr D_cb D_cl D_kl D_col H_next H_count K_rows K_cols K_cr K_cb K_cl K_kl K_col P_all P_jr P_jb P_count P_cells P_near S_planned S_cells S_top S_bottom S_left S_right S_w S_l M_edits M_now M_past := h0
  obtain ⟨hT, hC⟩ := h
  have hC0 := hC
  obtain ⟨hH, ⟨R, C, hd, hP⟩, hS⟩ := hC0
  obtain ⟨Rg, Rm, a, b, c, d⟩ := qu_splitPieces hN hP hd.2.2.2.2.2.1 hd.2.2.2.2.2.2.1 hS hz1 M_top M_bottom M_left M_right M_panes M_queue M_pane M_fragment M_size M_seen M_pieces M_leads M_line
  exact ⟨Rg, Rm, a, b, c, And.intro hT (And.intro hH (And.intro ⟨R, C, hd, hP⟩ d))⟩
theorem st_splitLead {N : Nat} (hN : 4000 ≤ N) : ST_splitLead N (IV N) := by
  intro T_len T_ch D_rows D_cols D_cr D_cb D_cl D_kl D_col H_next H_count K_rows K_cols K_cr K_cb K_cl K_kl K_col P_all P_jr P_jb P_count P_cells P_near S_planned S_cells S_top S_bottom S_left S_right S_w S_l C_seq C_given M_edits M_typed M_readRows M_readColumns M_top M_bottom M_left M_right M_panes M_now M_past M_text M_read M_queue M_pane M_fragment M_size M_seen M_near M_nearMany M_pieces M_leads M_line M_waiting M_sequence M_isGone M_number z1 h0 hz1
  have h : TX T_len T_ch M_typed M_text ∧ CORE N D_rows D_cols D_cr D_cb D_cl D_kl D_col H_next H_count K_rows K_cols K_cr K_cb K_cl K_kl K_col P_all P_jr P_jb P_count P_cells P_near S_planned S_cells S_top S_bottom S_left S_right S_w S_l M_edits M_now M_past := h0
  obtain ⟨hT, hC⟩ := h
  have hC0 := hC
  obtain ⟨hH, ⟨R, C, hd, hP⟩, hS⟩ := hC0
  obtain ⟨Rg, Rm, a, b, c, d⟩ := qu_splitLead hN hP hd.2.2.2.2.2.1 hd.2.2.2.2.2.2.1 hS hz1 M_top M_bottom M_left M_right M_panes M_queue M_pane M_fragment M_size M_seen M_pieces M_leads M_line
  exact ⟨Rg, Rm, a, b, c, And.intro hT (And.intro hH (And.intro ⟨R, C, hd, hP⟩ d))⟩
theorem st_applySplit {N : Nat} (hN : 4000 ≤ N) : ST_applySplit N (IV N) := by
  intro T_len T_ch D_rows D_cols D_cr D_cb D_cl D_kl D_col H_next H_count K_rows K_cols K_cr K_cb K_cl K_kl K_col P_all P_jr P_jb P_count P_cells P_near S_planned S_cells S_top S_bottom S_left S_right S_w S_l C_seq C_given M_edits M_typed M_readRows M_readColumns M_top M_bottom M_left M_right M_panes M_now M_past M_text M_read M_queue M_pane M_fragment M_size M_seen M_near M_nearMany M_pieces M_leads M_line M_waiting M_sequence M_isGone M_number z1 h0 hz1
  have h : TX T_len T_ch M_typed M_text ∧ CORE N D_rows D_cols D_cr D_cb D_cl D_kl D_col H_next H_count K_rows K_cols K_cr K_cb K_cl K_kl K_col P_all P_jr P_jb P_count P_cells P_near S_planned S_cells S_top S_bottom S_left S_right S_w S_l M_edits M_now M_past := h0
  obtain ⟨hT, hC⟩ := h
  obtain ⟨Rg, Rm, a, b, c, d⟩ := qu_applySplit hN hC hz1 M_top M_bottom M_left M_right M_panes M_queue M_pane M_fragment M_size M_seen M_pieces M_leads M_line M_waiting
  exact ⟨Rg, Rm, a, b, c, And.intro hT d⟩
theorem st_equalNeighbours {N : Nat} (hN : 4000 ≤ N) : ST_equalNeighbours N (IV N) := by
  intro T_len T_ch D_rows D_cols D_cr D_cb D_cl D_kl D_col H_next H_count K_rows K_cols K_cr K_cb K_cl K_kl K_col P_all P_jr P_jb P_count P_cells P_near S_planned S_cells S_top S_bottom S_left S_right S_w S_l C_seq C_given M_edits M_typed M_readRows M_readColumns M_top M_bottom M_left M_right M_panes M_now M_past M_text M_read M_queue M_pane M_fragment M_size M_seen M_near M_nearMany M_pieces M_leads M_line M_waiting M_sequence M_isGone M_number  h0 
  have h : TX T_len T_ch M_typed M_text ∧ CORE N D_rows D_cols D_cr D_cb D_cl D_kl D_col H_next H_count K_rows K_cols K_cr K_cb K_cl K_kl K_col P_all P_jr P_jb P_count P_cells P_near S_planned S_cells S_top S_bottom S_left S_right S_w S_l M_edits M_now M_past := h0
  obtain ⟨hT, hC⟩ := h
  have hC0 := hC
  obtain ⟨hH, ⟨R, C, hd, hP⟩, hS⟩ := hC0
  obtain ⟨Rg, Rm, a, b, c⟩ := qu_equalNeighbours hN hd hP M_top M_bottom M_left M_right M_panes M_queue M_pane M_size M_near M_nearMany
  exact ⟨Rg, Rm, a, b, c, And.intro hT hC⟩
theorem st_largestClique {N : Nat} (hN : 4000 ≤ N) : ST_largestClique N (IV N) := by
  intro T_len T_ch D_rows D_cols D_cr D_cb D_cl D_kl D_col H_next H_count K_rows K_cols K_cr K_cb K_cl K_kl K_col P_all P_jr P_jb P_count P_cells P_near S_planned S_cells S_top S_bottom S_left S_right S_w S_l C_seq C_given M_edits M_typed M_readRows M_readColumns M_top M_bottom M_left M_right M_panes M_now M_past M_text M_read M_queue M_pane M_fragment M_size M_seen M_near M_nearMany M_pieces M_leads M_line M_waiting M_sequence M_isGone M_number  h0 
  have h : TX T_len T_ch M_typed M_text ∧ CORE N D_rows D_cols D_cr D_cb D_cl D_kl D_col H_next H_count K_rows K_cols K_cr K_cb K_cl K_kl K_col P_all P_jr P_jb P_count P_cells P_near S_planned S_cells S_top S_bottom S_left S_right S_w S_l M_edits M_now M_past := h0
  obtain ⟨hT, hC⟩ := h
  have hC0 := hC
  obtain ⟨hH, ⟨R, C, hd, hP⟩, hS⟩ := hC0
  obtain ⟨Rg, Rm, a, b, c⟩ := qu_largestClique hN hP M_top M_bottom M_left M_right M_panes M_queue M_pane M_size M_near M_nearMany
  exact ⟨Rg, Rm, a, b, c, And.intro hT hC⟩
theorem st_colourCount {N : Nat} (hN : 4000 ≤ N) : ST_colourCount N (IV N) := by
  intro T_len T_ch D_rows D_cols D_cr D_cb D_cl D_kl D_col H_next H_count K_rows K_cols K_cr K_cb K_cl K_kl K_col P_all P_jr P_jb P_count P_cells P_near S_planned S_cells S_top S_bottom S_left S_right S_w S_l C_seq C_given M_edits M_typed M_readRows M_readColumns M_top M_bottom M_left M_right M_panes M_now M_past M_text M_read M_queue M_pane M_fragment M_size M_seen M_near M_nearMany M_pieces M_leads M_line M_waiting M_sequence M_isGone M_number z1 h0 hz1
  have h : TX T_len T_ch M_typed M_text ∧ CORE N D_rows D_cols D_cr D_cb D_cl D_kl D_col H_next H_count K_rows K_cols K_cr K_cb K_cl K_kl K_col P_all P_jr P_jb P_count P_cells P_near S_planned S_cells S_top S_bottom S_left S_right S_w S_l M_edits M_now M_past := h0
  obtain ⟨hT, hC⟩ := h
  have hC0 := hC
  obtain ⟨hH, ⟨R, C, hd, hP⟩, hS⟩ := hC0
  obtain ⟨Rg, Rm, a, b, c⟩ := qu_colourCount hN hP hz1 C_seq C_given M_top M_bottom M_left M_right M_panes M_queue M_pane M_size M_near M_nearMany M_sequence M_isGone M_number
  exact ⟨Rg, Rm, a, b, c, And.intro hT hC⟩
theorem st_suggestedColour {N : Nat} (hN : 4000 ≤ N) : ST_suggestedColour N (IV N) := by
  intro T_len T_ch D_rows D_cols D_cr D_cb D_cl D_kl D_col H_next H_count K_rows K_cols K_cr K_cb K_cl K_kl K_col P_all P_jr P_jb P_count P_cells P_near S_planned S_cells S_top S_bottom S_left S_right S_w S_l C_seq C_given M_edits M_typed M_readRows M_readColumns M_top M_bottom M_left M_right M_panes M_now M_past M_text M_read M_queue M_pane M_fragment M_size M_seen M_near M_nearMany M_pieces M_leads M_line M_waiting M_sequence M_isGone M_number z1 z2 h0 hz1 hz2
  have h : TX T_len T_ch M_typed M_text ∧ CORE N D_rows D_cols D_cr D_cb D_cl D_kl D_col H_next H_count K_rows K_cols K_cr K_cb K_cl K_kl K_col P_all P_jr P_jb P_count P_cells P_near S_planned S_cells S_top S_bottom S_left S_right S_w S_l M_edits M_now M_past := h0
  obtain ⟨hT, hC⟩ := h
  have hC0 := hC
  obtain ⟨hH, ⟨R, C, hd, hP⟩, hS⟩ := hC0
  obtain ⟨Rg, Rm, a, b, c⟩ := qu_suggestedColour hN hP hz1 hz2 C_seq C_given M_top M_bottom M_left M_right M_panes M_queue M_pane M_size M_near M_nearMany M_sequence M_isGone M_number
  exact ⟨Rg, Rm, a, b, c, And.intro hT hC⟩
theorem st_bestOrder {N : Nat} (hN : 4000 ≤ N) : ST_bestOrder N (IV N) := by
  intro T_len T_ch D_rows D_cols D_cr D_cb D_cl D_kl D_col H_next H_count K_rows K_cols K_cr K_cb K_cl K_kl K_col P_all P_jr P_jb P_count P_cells P_near S_planned S_cells S_top S_bottom S_left S_right S_w S_l C_seq C_given M_edits M_typed M_readRows M_readColumns M_top M_bottom M_left M_right M_panes M_now M_past M_text M_read M_queue M_pane M_fragment M_size M_seen M_near M_nearMany M_pieces M_leads M_line M_waiting M_sequence M_isGone M_number  h0 
  have h : TX T_len T_ch M_typed M_text ∧ CORE N D_rows D_cols D_cr D_cb D_cl D_kl D_col H_next H_count K_rows K_cols K_cr K_cb K_cl K_kl K_col P_all P_jr P_jb P_count P_cells P_near S_planned S_cells S_top S_bottom S_left S_right S_w S_l M_edits M_now M_past := h0
  obtain ⟨hT, hC⟩ := h
  have hC0 := hC
  obtain ⟨hH, ⟨R, C, hd, hP⟩, hS⟩ := hC0
  obtain ⟨Rg, Rm, a, b, c⟩ := qu_bestOrder hN hP  C_seq C_given M_top M_bottom M_left M_right M_panes M_queue M_pane M_size M_near M_nearMany M_sequence M_isGone M_number
  exact ⟨Rg, Rm, a, b, c, And.intro hT hC⟩
theorem all_0 {N : Nat} (hN : 4000 ≤ N) : AllSteps_0 N (IV N) := ⟨st_appendCharacter hN, st_clearText hN, st_loadDrawing hN, st_setColour hN, st_rows hN, st_columns hN, st_colourAt hN, st_addCut hN⟩
theorem all_1 {N : Nat} (hN : 4000 ≤ N) : AllSteps_1 N (IV N) := ⟨st_removeCut hN, st_looseCuts hN, st_removeLooseCuts hN, st_paneCount hN, st_paneAt hN, st_paneSize hN, st_innerCorners hN, st_holes hN⟩
theorem all_2 {N : Nat} (hN : 4000 ≤ N) : AllSteps_2 N (IV N) := ⟨st_canBeCut hN, st_cuttableCount hN, st_neighbourCount hN, st_leadLength hN, st_setCellLimit hN, st_setCornerLimit hN, st_splitPieces hN, st_splitLead hN⟩
theorem all_3 {N : Nat} (hN : 4000 ≤ N) : AllSteps_3 N (IV N) := ⟨st_applySplit hN, st_equalNeighbours hN, st_colourCount hN, st_suggestedColour hN, st_bestOrder hN, st_largestClique hN, st_undo hN⟩
/-- the drawing of the start -/
theorem rd_0 : RD 3 3 0#64 0#64 12 1 (fun _ => 0) (upi (upi (upi (upi (fun _ => 0) 0 3) 1 3) 2 12) 3 1) 3 3 := by
  have hz : ∀ j : Int, 4 ≤ j → (upi (upi (upi (upi (fun _ => (0 : Int)) 0 3) 1 3) 2 12) 3 1) j = 0 := fun j hj => by
    rw [upi_n _ _ (by omega), upi_n _ _ (by omega), upi_n _ _ (by omega), upi_n _ _ (by omega)]
  have e0 : (upi (upi (upi (upi (fun _ => (0 : Int)) 0 3) 1 3) 2 12) 3 1) 0 = 3 := by
    rw [upi_n _ _ (by omega), upi_n _ _ (by omega), upi_n _ _ (by omega), upi_s]
  have e1 : (upi (upi (upi (upi (fun _ => (0 : Int)) 0 3) 1 3) 2 12) 3 1) 1 = 3 := by
    rw [upi_n _ _ (by omega), upi_n _ _ (by omega), upi_s]
  have e2 : (upi (upi (upi (upi (fun _ => (0 : Int)) 0 3) 1 3) 2 12) 3 1) 2 = 12 := by
    rw [upi_n _ _ (by omega), upi_s]
  have e3 : (upi (upi (upi (upi (fun _ => (0 : Int)) 0 3) 1 3) 2 12) 3 1) 3 = 1 := by
    rw [upi_s]
  refine ⟨rfl, rfl, e0, e1, by omega, ⟨e2.symm, by omega, by omega⟩, ⟨e3.symm, by omega, by omega⟩, fun j j1 j2 => ?_, fun r c hr hc => ?_, fun i => ?_, fun i => ?_, fun u hu => Or.inl (hz _ (by omega)), fun u hu => Or.inl (hz _ (by omega))⟩
  · by_cases c4 : 4 ≤ j
    · rw [hz j c4]; omega
    · have hj : j = 0 ∨ j = 1 ∨ j = 2 ∨ j = 3 := by omega
      rcases hj with rfl | rfl | rfl | rfl
      · rw [e0]; omega
      · rw [e1]; omega
      · rw [e2]; omega
      · rw [e3]; omega
  · rw [hz _ (by omega)]; exact ⟨rfl, by omega, by omega⟩
  · rw [gl_zero, hz _ (by omega)]
    exact ⟨fun hq => (by cases hq), fun hq => by omega⟩
  · rw [gl_zero, hz _ (by omega)]
    exact ⟨fun hq => (by cases hq), fun hq => by omega⟩
theorem start_0 {N : Nat} (hN : 4000 ≤ N) : ∃ q, find0 N = some q ∧ IV N (g0 q) m0 := by
  obtain ⟨all, jr, jb, count, cells, near, h1, h2⟩ := pa_find (N := N) hN rd_0 0#64 0#64 0#64 0 (fun _ => 0#64) (fun _ => 0#64)
  refine ⟨(all, jr, jb, count, cells, near), h1, ?_⟩
  have hT : TX 0 (fun _ => 0) 0 (fun _ => 0) := ⟨rfl, by omega, by omega, fun i i1 i2 => by omega⟩
  have hH : HR 0 0 (fun _ => 3) (fun _ => 3) (fun _ => 0#64) (fun _ => 0#64) (fun _ => 12) (fun _ => 1) (fun _ _ => 0) 0 (fun _ => 0) := ⟨by omega, rfl, by omega, fun j j1 j2 => by omega⟩
  exact And.intro hT (And.intro hH (And.intro ⟨3, 3, rd_0, h2⟩ (Or.inl rfl)))
