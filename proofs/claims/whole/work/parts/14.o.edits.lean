/-! ===== PURE: the edits ===== -/
section EDITS
variable {N : Nat} {rows cols : Int} {cr cb : BitVec 64} {cl kl : Int} {col : Int → Int} {next count : Int} {kr kc : Int → Int} {kcr kcb : Int → BitVec 64} {kcl kkl : Int → Int} {kcol : Int → Int → Int} {all jr jb : BitVec 64} {pc : Int} {cells near : Int → BitVec 64} {planned : Int} {scells : BitVec 64} {st sb sl sr : Int} {sw sln : Int → Int} {edits : Int} {now past : Int → Int}
theorem qu_setColour (hN : 4000 ≤ N) (h : CORE N rows cols cr cb cl kl col next count kr kc kcr kcb kcl kkl kcol all jr jb pc cells near planned scells st sb sl sr sw sln edits now past) {z1 : Int} (hz1 : xR z1) {z2 : Int} (hz2 : xR z2) {z3 : Int} (hz3 : xR z3) :
    ∃ Rg Rm, f_gp_setColour N z1 z2 z3 rows cols cr cb cl kl col next count kr kc kcr kcb kcl kkl kcol all jr jb pc cells near planned = some Rg ∧ f_mo_setColour N z1 z2 z3 edits now past = some Rm ∧ Rg.1 = Rm.1 ∧ CORE N rows cols cr cb cl kl Rg.2.1 Rg.2.2.1 Rg.2.2.2.1 Rg.2.2.2.2.1 Rg.2.2.2.2.2.1 Rg.2.2.2.2.2.2.1 Rg.2.2.2.2.2.2.2.1 Rg.2.2.2.2.2.2.2.2.1 Rg.2.2.2.2.2.2.2.2.2.1 Rg.2.2.2.2.2.2.2.2.2.2.1 Rg.2.2.2.2.2.2.2.2.2.2.2.1 Rg.2.2.2.2.2.2.2.2.2.2.2.2.1 Rg.2.2.2.2.2.2.2.2.2.2.2.2.2.1 Rg.2.2.2.2.2.2.2.2.2.2.2.2.2.2.1 Rg.2.2.2.2.2.2.2.2.2.2.2.2.2.2.2.1 Rg.2.2.2.2.2.2.2.2.2.2.2.2.2.2.2.2.1 Rg.2.2.2.2.2.2.2.2.2.2.2.2.2.2.2.2.2 scells st sb sl sr sw sln Rm.2.1 Rm.2.2.1 Rm.2.2.2 := by
  obtain ⟨hH, ⟨R, C, hd, hP⟩, hS⟩ := h
  have hd0 := hd
  obtain ⟨e1, e2, e3, e4, hb, -, -, h8, h9, -⟩ := hd0
  have hP0 := hP
  obtain ⟨-, -, -, -, hM, -⟩ := hP
  have q1 : f_dr_hasCell N z1 z2 rows cols = some (if 0 ≤ z1 ∧ z1 < R ∧ 0 ≤ z2 ∧ z2 < C then 1 else 0) := by rw [e1, e2]; exact dr_hasCell hz1 hz2 (by omega)
  have q2 := mo_isCell (N := N) hM hz1 hz2
  by_cases c1 : 0 ≤ z1 ∧ z1 < R ∧ 0 ≤ z2 ∧ z2 < C
  · rw [if_pos c1] at q1 q2
    by_cases c2 : 0 ≤ z3 ∧ z3 ≤ 5
    · obtain ⟨r, rfl⟩ : ∃ r : Nat, z1 = r := ⟨z1.toNat, by omega⟩
      obtain ⟨c, rfl⟩ : ∃ c : Nat, z2 = c := ⟨z2.toNat, by omega⟩
      obtain ⟨v1, v2, v3⟩ := h9 r c (by omega) (by omega)
      have i1 : (r : Int) * 8 + (c : Int) = ((8 * r + c : Nat) : Int) := by omega
      have i2 : (4 + 7 * (r : Int)) + (c : Int) = ((4 + 7 * r + c : Nat) : Int) := by omega
      by_cases c3 : now ((4 + 7 * r + c : Nat) : Int) = z3
      · have g1 : f_gp_setColour N (r : Int) (c : Int) z3 rows cols cr cb cl kl col next count kr kc kcr kcb kcl kkl kcol all jr jb pc cells near planned = some (-2, col, next, count, kr, kc, kcr, kcb, kcl, kkl, kcol, all, jr, jb, pc, cells, near, planned) := by
          unfold f_gp_setColour
          rw [q1, bd_some, og_pos (by decide), if_neg (by decide), og_pos (by omega), if_neg (by omega), if_pos (by omega), ce_number, bd_some, i1, og_pos (by omega), bd_some, og_pos (by omega), if_pos (by omega)]
        have g2 : f_mo_setColour N (r : Int) (c : Int) z3 edits now past = some (-2, edits, now, past) := by
          unfold f_mo_setColour
          rw [q2, bd_some, og_pos (by decide), if_neg (by decide), mo_in hz3 x_R0 (by decide), bd_some, if_pos c2, og_pos (by decide), if_neg (by decide), bd_some, i2, og_pos (by omega), og_pos (by omega), og_pos (by omega), if_pos c3]
        exact ⟨_, _, g1, g2, rfl, hH, ⟨R, C, hd, hP0⟩, hS⟩
      · have hd' := rd_col hd (r := r) (c := c) (by omega) (by omega) c2.1 c2.2
        obtain ⟨next', count', kr', kc', kcr', kcb', kcl', kkl', kcol', edits', past', all', jr', jb', pc', cells', near', s1, s2, s3, s4, s5⟩ := core_edit hN hH hd hd' all jr jb pc cells near planned
        have g1 : f_gp_setColour N (r : Int) (c : Int) z3 rows cols cr cb cl kl col next count kr kc kcr kcb kcl kkl kcol all jr jb pc cells near planned = some (now ((4 + 7 * r + c : Nat) : Int), upi col ((8 * r + c : Nat) : Int) z3, next', count', kr', kc', kcr', kcb', kcl', kkl', kcol', all', jr', jb', pc', cells', near', -1) := by
          unfold f_gp_setColour
          rw [q1, bd_some, og_pos (by decide), if_neg (by decide), og_pos (by omega), if_neg (by omega), if_pos (by omega), ce_number, bd_some, i1, og_pos (by omega), bd_some, og_pos (by omega), if_neg (by omega), s1, bd_some, bd_some, s3, bd_some, v1]
        have g2 : f_mo_setColour N (r : Int) (c : Int) z3 edits now past = some (now ((4 + 7 * r + c : Nat) : Int), edits', upi now ((4 + 7 * r + c : Nat) : Int) z3, past') := by
          unfold f_mo_setColour f_mo_changed
          rw [q2, bd_some, og_pos (by decide), if_neg (by decide), mo_in hz3 x_R0 (by decide), bd_some, if_pos c2, og_pos (by decide), if_neg (by decide), bd_some, i2, og_pos (by omega), og_pos (by omega), og_pos (by omega), if_neg c3, s2, bd_some, og_pos (by omega), bd_some, bd_some, bd_some]
        exact ⟨_, _, g1, g2, rfl, s5 _ _ _ _ _ _ _⟩
    · have g1 : f_gp_setColour N z1 z2 z3 rows cols cr cb cl kl col next count kr kc kcr kcb kcl kkl kcol all jr jb pc cells near planned = some (-1, col, next, count, kr, kc, kcr, kcb, kcl, kkl, kcol, all, jr, jb, pc, cells, near, planned) := by
        unfold f_gp_setColour
        rw [q1, bd_some, og_pos (by decide), if_neg (by decide), og_pos hz3]
        by_cases d : z3 < 0
        · rw [if_pos d]
        · rw [if_neg d, if_neg (by omega)]
      have g2 : f_mo_setColour N z1 z2 z3 edits now past = some (-1, edits, now, past) := by
        unfold f_mo_setColour
        rw [q2, bd_some, og_pos (by decide), if_neg (by decide), mo_in hz3 x_R0 (by decide), bd_some, if_neg c2, og_pos (by decide), if_pos rfl]
      exact ⟨_, _, g1, g2, rfl, hH, ⟨R, C, hd, hP0⟩, hS⟩
  · rw [if_neg c1] at q1 q2
    have g1 : f_gp_setColour N z1 z2 z3 rows cols cr cb cl kl col next count kr kc kcr kcb kcl kkl kcol all jr jb pc cells near planned = some (-1, col, next, count, kr, kc, kcr, kcb, kcl, kkl, kcol, all, jr, jb, pc, cells, near, planned) := by
      unfold f_gp_setColour
      rw [q1, bd_some, og_pos (by decide), if_pos rfl]
    have g2 : f_mo_setColour N z1 z2 z3 edits now past = some (-1, edits, now, past) := by
      unfold f_mo_setColour
      rw [q2, bd_some, og_pos (by decide), if_pos rfl]
    exact ⟨_, _, g1, g2, rfl, hH, ⟨R, C, hd, hP0⟩, hS⟩
theorem qu_setCellLimit (hN : 4000 ≤ N) (h : CORE N rows cols cr cb cl kl col next count kr kc kcr kcb kcl kkl kcol all jr jb pc cells near planned scells st sb sl sr sw sln edits now past) {z1 : Int} (hz1 : xR z1) :
    ∃ Rg Rm, f_gp_setCellLimit N z1 rows cols cr cb cl kl col next count kr kc kcr kcb kcl kkl kcol all jr jb pc cells near planned = some Rg ∧ f_mo_setCellLimit N z1 edits now past = some Rm ∧ Rg.1 = Rm.1 ∧ CORE N rows cols cr cb Rg.2.1 kl col Rg.2.2.1 Rg.2.2.2.1 Rg.2.2.2.2.1 Rg.2.2.2.2.2.1 Rg.2.2.2.2.2.2.1 Rg.2.2.2.2.2.2.2.1 Rg.2.2.2.2.2.2.2.2.1 Rg.2.2.2.2.2.2.2.2.2.1 Rg.2.2.2.2.2.2.2.2.2.2.1 Rg.2.2.2.2.2.2.2.2.2.2.2.1 Rg.2.2.2.2.2.2.2.2.2.2.2.2.1 Rg.2.2.2.2.2.2.2.2.2.2.2.2.2.1 Rg.2.2.2.2.2.2.2.2.2.2.2.2.2.2.1 Rg.2.2.2.2.2.2.2.2.2.2.2.2.2.2.2.1 Rg.2.2.2.2.2.2.2.2.2.2.2.2.2.2.2.2.1 Rg.2.2.2.2.2.2.2.2.2.2.2.2.2.2.2.2.2 scells st sb sl sr sw sln Rm.2.1 Rm.2.2.1 Rm.2.2.2 := by
  obtain ⟨hH, ⟨R, C, hd, hP⟩, hS⟩ := h
  have hd0 := hd
  obtain ⟨-, -, -, -, -, hcl, hkl, -⟩ := hd0
  by_cases c2 : 1 ≤ z1 ∧ z1 ≤ 49
  · have hd' := rd_cl hd c2.1 c2.2
    obtain ⟨next', count', kr', kc', kcr', kcb', kcl', kkl', kcol', edits', past', all', jr', jb', pc', cells', near', s1, s2, s3, s4, s5⟩ := core_edit hN hH hd hd' all jr jb pc cells near planned
    have g1 : f_gp_setCellLimit N z1 rows cols cr cb cl kl col next count kr kc kcr kcb kcl kkl kcol all jr jb pc cells near planned = some (cl, z1, next', count', kr', kc', kcr', kcb', kcl', kkl', kcol', all', jr', jb', pc', cells', near', -1) := by
      unfold f_gp_setCellLimit
      rw [og_pos hz1, if_neg (by omega), if_pos (by omega), s1, bd_some, s3, bd_some]
    have g2 : f_mo_setCellLimit N z1 edits now past = some (cl, edits', upi now 2 z1, past') := by
      unfold f_mo_setCellLimit f_mo_changed
      rw [mo_in hz1 (by decide) (by decide), bd_some, if_pos c2, og_pos (by decide), if_neg (by decide), s2, bd_some, og_pos (by decide), bd_some, bd_some, bd_some, hcl.1]
    exact ⟨_, _, g1, g2, rfl, s5 _ _ _ _ _ _ _⟩
  · have g1 : f_gp_setCellLimit N z1 rows cols cr cb cl kl col next count kr kc kcr kcb kcl kkl kcol all jr jb pc cells near planned = some (-1, cl, next, count, kr, kc, kcr, kcb, kcl, kkl, kcol, all, jr, jb, pc, cells, near, planned) := by
      unfold f_gp_setCellLimit
      rw [og_pos hz1]
      by_cases d : z1 < 1
      · rw [if_pos d]
      · rw [if_neg d, if_neg (by omega)]
    have g2 : f_mo_setCellLimit N z1 edits now past = some (-1, edits, now, past) := by
      unfold f_mo_setCellLimit
      rw [mo_in hz1 (by decide) (by decide), bd_some, if_neg c2, og_pos (by decide), if_pos rfl]
    exact ⟨_, _, g1, g2, rfl, hH, ⟨R, C, hd, hP⟩, hS⟩
theorem qu_setCornerLimit (hN : 4000 ≤ N) (h : CORE N rows cols cr cb cl kl col next count kr kc kcr kcb kcl kkl kcol all jr jb pc cells near planned scells st sb sl sr sw sln edits now past) {z1 : Int} (hz1 : xR z1) :
    ∃ Rg Rm, f_gp_setCornerLimit N z1 rows cols cr cb cl kl col next count kr kc kcr kcb kcl kkl kcol all jr jb pc cells near planned = some Rg ∧ f_mo_setCornerLimit N z1 edits now past = some Rm ∧ Rg.1 = Rm.1 ∧ CORE N rows cols cr cb cl Rg.2.1 col Rg.2.2.1 Rg.2.2.2.1 Rg.2.2.2.2.1 Rg.2.2.2.2.2.1 Rg.2.2.2.2.2.2.1 Rg.2.2.2.2.2.2.2.1 Rg.2.2.2.2.2.2.2.2.1 Rg.2.2.2.2.2.2.2.2.2.1 Rg.2.2.2.2.2.2.2.2.2.2.1 Rg.2.2.2.2.2.2.2.2.2.2.2.1 Rg.2.2.2.2.2.2.2.2.2.2.2.2.1 Rg.2.2.2.2.2.2.2.2.2.2.2.2.2.1 Rg.2.2.2.2.2.2.2.2.2.2.2.2.2.2.1 Rg.2.2.2.2.2.2.2.2.2.2.2.2.2.2.2.1 Rg.2.2.2.2.2.2.2.2.2.2.2.2.2.2.2.2.1 Rg.2.2.2.2.2.2.2.2.2.2.2.2.2.2.2.2.2 scells st sb sl sr sw sln Rm.2.1 Rm.2.2.1 Rm.2.2.2 := by
  obtain ⟨hH, ⟨R, C, hd, hP⟩, hS⟩ := h
  have hd0 := hd
  obtain ⟨-, -, -, -, -, hcl, hkl, -⟩ := hd0
  by_cases c2 : 0 ≤ z1 ∧ z1 ≤ 8
  · have hd' := rd_kl hd c2.1 c2.2
    obtain ⟨next', count', kr', kc', kcr', kcb', kcl', kkl', kcol', edits', past', all', jr', jb', pc', cells', near', s1, s2, s3, s4, s5⟩ := core_edit hN hH hd hd' all jr jb pc cells near planned
    have g1 : f_gp_setCornerLimit N z1 rows cols cr cb cl kl col next count kr kc kcr kcb kcl kkl kcol all jr jb pc cells near planned = some (kl, z1, next', count', kr', kc', kcr', kcb', kcl', kkl', kcol', all', jr', jb', pc', cells', near', -1) := by
      unfold f_gp_setCornerLimit
      rw [og_pos hz1, if_neg (by omega), if_pos (by omega), s1, bd_some, s3, bd_some]
    have g2 : f_mo_setCornerLimit N z1 edits now past = some (kl, edits', upi now 3 z1, past') := by
      unfold f_mo_setCornerLimit f_mo_changed
      rw [mo_in hz1 (by decide) (by decide), bd_some, if_pos c2, og_pos (by decide), if_neg (by decide), s2, bd_some, og_pos (by decide), bd_some, bd_some, bd_some, hkl.1]
    exact ⟨_, _, g1, g2, rfl, s5 _ _ _ _ _ _ _⟩
  · have g1 : f_gp_setCornerLimit N z1 rows cols cr cb cl kl col next count kr kc kcr kcb kcl kkl kcol all jr jb pc cells near planned = some (-1, kl, next, count, kr, kc, kcr, kcb, kcl, kkl, kcol, all, jr, jb, pc, cells, near, planned) := by
      unfold f_gp_setCornerLimit
      rw [og_pos hz1]
      by_cases d : z1 < 0
      · rw [if_pos d]
      · rw [if_neg d, if_neg (by omega)]
    have g2 : f_mo_setCornerLimit N z1 edits now past = some (-1, edits, now, past) := by
      unfold f_mo_setCornerLimit
      rw [mo_in hz1 (by decide) (by decide), bd_some, if_neg c2, og_pos (by decide), if_pos rfl]
    exact ⟨_, _, g1, g2, rfl, hH, ⟨R, C, hd, hP⟩, hS⟩
theorem qu_undo (hN : 4000 ≤ N) (h : CORE N rows cols cr cb cl kl col next count kr kc kcr kcb kcl kkl kcol all jr jb pc cells near planned scells st sb sl sr sw sln edits now past) :
    ∃ Rg Rm, f_gp_undo N rows cols cr cb cl kl col next count kr kc kcr kcb kcl kkl kcol all jr jb pc cells near planned = some Rg ∧ f_mo_undo N edits now past = some Rm ∧ Rg.1 = Rm.1 ∧ CORE N Rg.2.1 Rg.2.2.1 Rg.2.2.2.1 Rg.2.2.2.2.1 Rg.2.2.2.2.2.1 Rg.2.2.2.2.2.2.1 Rg.2.2.2.2.2.2.2.1 Rg.2.2.2.2.2.2.2.2.1 Rg.2.2.2.2.2.2.2.2.2.1 kr kc kcr kcb kcl kkl kcol Rg.2.2.2.2.2.2.2.2.2.2.1 Rg.2.2.2.2.2.2.2.2.2.2.2.1 Rg.2.2.2.2.2.2.2.2.2.2.2.2.1 Rg.2.2.2.2.2.2.2.2.2.2.2.2.2.1 Rg.2.2.2.2.2.2.2.2.2.2.2.2.2.2.1 Rg.2.2.2.2.2.2.2.2.2.2.2.2.2.2.2.1 Rg.2.2.2.2.2.2.2.2.2.2.2.2.2.2.2.2 scells st sb sl sr sw sln Rm.2.1 Rm.2.2 past := by
  obtain ⟨hH, ⟨R, C, hd, hP⟩, hS⟩ := h
  have hc := hH.2.1
  have he := hH.2.2.1
  by_cases c : edits = 0
  · have g1 : f_gp_undo N rows cols cr cb cl kl col next count kr kc kcr kcb kcl kkl kcol all jr jb pc cells near planned = some (-2, rows, cols, cr, cb, cl, kl, col, next, count, all, jr, jb, pc, cells, near, planned) := by
      unfold f_gp_undo
      rw [og_pos (by omega), if_pos (by omega)]
    have g2 : f_mo_undo N edits now past = some (-2, edits, now) := by
      unfold f_mo_undo
      rw [og_pos (by omega), if_pos c]
    exact ⟨_, _, g1, g2, rfl, hH, ⟨R, C, hd, hP⟩, hS⟩
  · obtain ⟨rows', cols', cr', cb', cl', kl', col', next', count', now', R', C', a1, a2, a3, a4, a5⟩ := hi_undo hN hH c rows cols cr cb cl kl col now
    obtain ⟨all', jr', jb', pc', cells', near', b1, b2⟩ := gp_refresh hN a4 all jr jb pc cells near planned
    have g1 : f_gp_undo N rows cols cr cb cl kl col next count kr kc kcr kcb kcl kkl kcol all jr jb pc cells near planned = some (count', rows', cols', cr', cb', cl', kl', col', next', count', all', jr', jb', pc', cells', near', -1) := by
      unfold f_gp_undo
      rw [og_pos (by omega), if_neg (by omega), a1, bd_some, b1, bd_some]
    exact ⟨_, _, g1, a2, rfl, a3, ⟨R', C', a4, b2⟩, Or.inl rfl⟩
end EDITS
theorem qu_colourAt {N R C : Nat} {rows cols : Int} {cr cb : BitVec 64} {cl kl : Int} {col now : Int → Int} (hd : RD rows cols cr cb cl kl col now R C) {z1 z2 : Int} (hz1 : xR z1) (hz2 : xR z2) (hM : ∃ jr jb, MD now R C jr jb) :
    ∃ Rg Rm, f_gp_colourAt N z1 z2 rows cols col = some Rg ∧ f_mo_colourAt N z1 z2 now = some Rm ∧ Rg = Rm := by
  obtain ⟨jr, jb, hM⟩ := hM
  obtain ⟨e1, e2, e3, e4, hb, -, -, h8, h9, -⟩ := hd
  have q1 : f_dr_hasCell N z1 z2 rows cols = some (if 0 ≤ z1 ∧ z1 < R ∧ 0 ≤ z2 ∧ z2 < C then 1 else 0) := by rw [e1, e2]; exact dr_hasCell hz1 hz2 (by omega)
  have q2 := mo_isCell (N := N) hM hz1 hz2
  by_cases c1 : 0 ≤ z1 ∧ z1 < R ∧ 0 ≤ z2 ∧ z2 < C
  · rw [if_pos c1] at q1 q2
    obtain ⟨r, rfl⟩ : ∃ r : Nat, z1 = r := ⟨z1.toNat, by omega⟩
    obtain ⟨c, rfl⟩ : ∃ c : Nat, z2 = c := ⟨z2.toNat, by omega⟩
    obtain ⟨v1, v2, v3⟩ := h9 r c (by omega) (by omega)
    have i1 : (r : Int) * 8 + (c : Int) = ((8 * r + c : Nat) : Int) := by omega
    have i2 : (4 + 7 * (r : Int)) + (c : Int) = ((4 + 7 * r + c : Nat) : Int) := by omega
    have g1 : f_gp_colourAt N (r : Int) (c : Int) rows cols col = some (now ((4 + 7 * r + c : Nat) : Int)) := by
      unfold f_gp_colourAt
      rw [q1, bd_some, og_pos (by decide), if_neg (by decide), ce_number, bd_some, i1, og_pos (by omega), v1]
    have g2 : f_mo_colourAt N (r : Int) (c : Int) now = some (now ((4 + 7 * r + c : Nat) : Int)) := by
      unfold f_mo_colourAt
      rw [q2, bd_some, og_pos (by decide), if_neg (by decide), i2, og_pos (by omega)]
    exact ⟨_, _, g1, g2, rfl⟩
  · rw [if_neg c1] at q1 q2
    have g1 : f_gp_colourAt N z1 z2 rows cols col = some (-1) := by
      unfold f_gp_colourAt
      rw [q1, bd_some, og_pos (by decide), if_pos rfl]
    have g2 : f_mo_colourAt N z1 z2 now = some (-1) := by
      unfold f_mo_colourAt
      rw [q2, bd_some, og_pos (by decide), if_pos rfl]
    exact ⟨_, _, g1, g2, rfl⟩
