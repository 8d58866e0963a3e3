/-! ===== PURE: the cuts, and a drawing from the text ===== -/
theorem mo_isCut {N R C : Nat} {now : Int → Int} {jr jb : BitVec 64} (h : MD now R C jr jb) {r c d : Int} (hr : xR r) (hc : xR c) (hd : xR d) : f_mo_isCut N r c d now = some (if (0 ≤ r ∧ r < R ∧ 0 ≤ c ∧ c < C) ∧ ((d = 0 ∧ c + 1 < C) ∨ (d = 1 ∧ r + 1 < R)) then 1 else 0) := by
  have hb := h.2.2.1
  unfold f_mo_isCut
  rw [mo_isCell h hr hc, bd_some]
  by_cases c1 : 0 ≤ r ∧ r < R ∧ 0 ≤ c ∧ c < C
  · rw [if_pos c1, og_pos (by decide), if_neg (by decide), mo_in hd x_R0 (by decide), bd_some]
    by_cases c2 : 0 ≤ d ∧ d ≤ 1
    · rw [if_pos c2, og_pos (by decide), if_neg (by decide)]
      unfold f_mo_hasNext
      rw [og_pos hd]
      by_cases c3 : d = 0
      · rw [if_pos c3, og_pos (by omega), og_pos (by omega), h.2.1, og_pos (by omega)]
        by_cases c4 : (C : Int) ≤ (7 * r + c) % 7 + 1
        · rw [if_pos c4, bd_some, og_pos (by decide), if_pos rfl, if_neg (by omega)]
        · rw [if_neg c4, bd_some, og_pos (by decide), if_neg (by decide), if_pos (by omega)]
      · rw [if_neg c3, og_pos (by omega), og_pos (by omega), h.1, og_pos (by omega)]
        by_cases c4 : (R : Int) ≤ (7 * r + c) / 7 + 1
        · rw [if_pos c4, bd_some, og_pos (by decide), if_pos rfl, if_neg (by omega)]
        · rw [if_neg c4, bd_some, og_pos (by decide), if_neg (by decide), if_pos (by omega)]
    · rw [if_neg c2, og_pos (by decide), if_pos rfl, if_neg (by omega)]
  · rw [if_neg c1, og_pos (by decide), if_pos rfl, if_neg (fun hq => c1 hq.1)]
theorem grid_flip {x : BitVec 64} (h : Grid x) {u : Nat} (hu : u < 49) : Grid (x ^^^ (1#64 <<< eb u)) := fun i hi => by
  rw [gl_xor, gl_one (by unfold eb; omega)] at hi
  by_cases c : i = eb u
  · rw [c]; exact eb_gd hu
  · rw [decide_eq_false c] at hi
    exact h i (by simpa using hi)
theorem bit_flip {x : BitVec 64} {u v : Nat} (hu : u < 49) : (x ^^^ (1#64 <<< eb u)).getLsbD (eb v) = (if v = u then !x.getLsbD (eb v) else x.getLsbD (eb v)) := by
  rw [gl_xor, gl_one (by unfold eb; omega)]
  by_cases c : v = u
  · rw [if_pos c, c, decide_eq_true rfl]; cases x.getLsbD (eb u) <;> rfl
  · rw [if_neg c, decide_eq_false (fun hq => c (eb_inj hq))]; cases x.getLsbD (eb v) <;> rfl
/-- one cut is turned over on both sides -/
theorem rd_flip {rows cols : Int} {cr cb : BitVec 64} {cl kl : Int} {col now : Int → Int} {R C : Nat} (h : RD rows cols cr cb cl kl col now R C) {d : Nat} (hd : d = 0 ∨ d = 1) {u : Nat} (hu : u < 49) (hin : (d = 0 → u / 7 < R ∧ u % 7 + 1 < C) ∧ (d = 1 → u / 7 + 1 < R ∧ u % 7 < C)) {z : Int} (hz : (z = 0 ∧ now ((53 + 49 * d + u : Nat) : Int) = 1) ∨ (z = 1 ∧ now ((53 + 49 * d + u : Nat) : Int) = 0)) :
    RD rows cols (if d = 0 then cr ^^^ (1#64 <<< eb u) else cr) (if d = 0 then cb else cb ^^^ (1#64 <<< eb u)) cl kl col (upi now ((53 + 49 * d + u : Nat) : Int) z) R C := by
  obtain ⟨g1, g2⟩ := rd_grid h
  have h0 := h
  obtain ⟨-, -, -, -, hb, -, -, h8, -, -, -, h12, h13⟩ := h0
  have hv : ∀ k : Nat, k < 98 → upi now ((53 + 49 * d + u : Nat) : Int) z ((53 + k : Nat) : Int) = if k = 49 * d + u then z else now ((53 + k : Nat) : Int) := by
    intro k hk
    by_cases c : k = 49 * d + u
    · rw [if_pos c, show 53 + k = 53 + 49 * d + u by omega, upi_s]
    · rw [if_neg c, upi_n _ _ (by omega)]
  refine rd_cuts h ?_ ?_ ?_ ?_ ?_ ?_ ?_ ?_
  · intro j j1 j2
    exact upi_n _ _ (by omega)
  · intro k hk
    rw [hv k hk]
    have := rd_01 h hk
    split <;> omega
  · split
    · exact grid_flip g1 hu
    · exact g1
  · split
    · exact g2
    · exact grid_flip g2 hu
  · intro v hv1
    rw [hv v (by omega)]
    have hbv := (rd_bit h hv1).1
    rcases hd with rfl | rfl
    · rw [if_pos rfl, bit_flip hu]
      by_cases c : v = u
      · subst c
        rw [if_pos rfl, if_pos (by omega)]
        rw [show 53 + 49 * 0 + v = 53 + v by omega] at hz
        cases hx : cr.getLsbD (eb v) with
        | true => have := hbv.mp hx; simp; omega
        | false => have : ¬ now ((53 + v : Nat) : Int) = 1 := fun hq => by have := hbv.mpr hq; rw [hx] at this; cases this
                   simp; omega
      · rw [if_neg c, if_neg (by omega)]; exact hbv
    · rw [if_neg (by decide), if_neg (by omega)]; exact hbv
  · intro v hv1
    rw [show 102 + v = 53 + (49 + v) by omega, hv (49 + v) (by omega)]
    have hbv := (rd_bit h hv1).2
    rw [show 102 + v = 53 + (49 + v) by omega] at hbv
    rcases hd with rfl | rfl
    · rw [if_pos rfl, if_neg (by omega)]; exact hbv
    · rw [if_neg (by decide), bit_flip hu]
      by_cases c : v = u
      · subst c
        rw [if_pos rfl, if_pos (by omega)]
        rw [show 53 + 49 * 1 + v = 53 + (49 + v) by omega] at hz
        cases hx : cb.getLsbD (eb v) with
        | true => have := hbv.mp hx; simp; omega
        | false => have : ¬ now ((53 + (49 + v) : Nat) : Int) = 1 := fun hq => by have := hbv.mpr hq; rw [hx] at this; cases this
                   simp; omega
      · rw [if_neg c, if_neg (by omega)]; exact hbv
  · intro v hv1
    rw [hv v (by omega)]
    intro h1
    by_cases c : v = 49 * d + u
    · have hd0 : d = 0 := by omega
      subst hd0
      have : v = u := by omega
      subst this
      exact hin.1 rfl
    · rw [if_neg c] at h1
      have := h12 v hv1
      omega
  · intro v hv1
    rw [show 102 + v = 53 + (49 + v) by omega, hv (49 + v) (by omega)]
    intro h1
    by_cases c : 49 + v = 49 * d + u
    · have hd0 : d = 1 := by omega
      subst hd0
      have : v = u := by omega
      subst this
      exact hin.2 rfl
    · rw [if_neg c] at h1
      have := h13 v hv1
      rw [show 102 + v = 53 + (49 + v) by omega] at this
      omega
section CUTS
variable {N : Nat} {rows cols : Int} {cr cb : BitVec 64} {cl kl : Int} {col : Int → Int} {next count : Int} {kr kc : Int → Int} {kcr kcb : Int → BitVec 64} {kcl kkl : Int → Int} {kcol : Int → Int → Int} {all jr jb : BitVec 64} {pc : Int} {cells near : Int → BitVec 64} {planned : Int} {scells : BitVec 64} {st sb sl sr : Int} {sw sln : Int → Int} {edits : Int} {now past : Int → Int}
theorem qu_addCut (hN : 4000 ≤ N) (h : CORE N rows cols cr cb cl kl col next count kr kc kcr kcb kcl kkl kcol all jr jb pc cells near planned scells st sb sl sr sw sln edits now past) {z1 : Int} (hz1 : xR z1) {z2 : Int} (hz2 : xR z2) {z3 : Int} (hz3 : xR z3) :
    ∃ Rg Rm, f_gp_addCut N z1 z2 z3 rows cols cr cb cl kl col next count kr kc kcr kcb kcl kkl kcol all jr jb pc cells near planned = some Rg ∧ f_mo_addCut N z1 z2 z3 edits now past = some Rm ∧ Rg.1 = Rm.1 ∧ CORE N rows cols Rg.2.1 Rg.2.2.1 cl kl col Rg.2.2.2.1 Rg.2.2.2.2.1 Rg.2.2.2.2.2.1 Rg.2.2.2.2.2.2.1 Rg.2.2.2.2.2.2.2.1 Rg.2.2.2.2.2.2.2.2.1 Rg.2.2.2.2.2.2.2.2.2.1 Rg.2.2.2.2.2.2.2.2.2.2.1 Rg.2.2.2.2.2.2.2.2.2.2.2.1 Rg.2.2.2.2.2.2.2.2.2.2.2.2.1 Rg.2.2.2.2.2.2.2.2.2.2.2.2.2.1 Rg.2.2.2.2.2.2.2.2.2.2.2.2.2.2.1 Rg.2.2.2.2.2.2.2.2.2.2.2.2.2.2.2.1 Rg.2.2.2.2.2.2.2.2.2.2.2.2.2.2.2.2.1 Rg.2.2.2.2.2.2.2.2.2.2.2.2.2.2.2.2.2.1 Rg.2.2.2.2.2.2.2.2.2.2.2.2.2.2.2.2.2.2 scells st sb sl sr sw sln Rm.2.1 Rm.2.2.1 Rm.2.2.2 := by
  obtain ⟨hH, ⟨R, C, hd, hP⟩, hS⟩ := h
  have hd0 := hd
  obtain ⟨e1, e2, e3, e4, hb, -, -, h8, h9, -⟩ := hd0
  have hP0 := hP
  obtain ⟨-, -, -, -, hM, -⟩ := hP0
  have q1 : f_dr_hasPair N z1 z2 z3 rows cols = some (if (0 ≤ z1 ∧ z1 < R ∧ 0 ≤ z2 ∧ z2 < C) ∧ ((z3 = 0 ∧ z2 + 1 < C) ∨ (z3 = 1 ∧ z1 + 1 < R)) then 1 else 0) := by rw [e1, e2]; exact dr_hasPair hz1 hz2 hz3 (by omega)
  have q2 := mo_isCut (N := N) hM hz1 hz2 hz3
  by_cases c1 : (0 ≤ z1 ∧ z1 < R ∧ 0 ≤ z2 ∧ z2 < C) ∧ ((z3 = 0 ∧ z2 + 1 < C) ∨ (z3 = 1 ∧ z1 + 1 < R))
  · rw [if_pos c1] at q1 q2
    obtain ⟨r, rfl⟩ : ∃ r : Nat, z1 = r := ⟨z1.toNat, by omega⟩
    obtain ⟨c, rfl⟩ : ∃ c : Nat, z2 = c := ⟨z2.toNat, by omega⟩
    obtain ⟨d, rfl⟩ : ∃ d : Nat, z3 = d := ⟨z3.toNat, by omega⟩
    have hu : 7 * r + c < 49 := by omega
    have heb : eb (7 * r + c) = 8 * r + c := by unfold eb; omega
    have i2 : ((53 + 49 * (d : Int)) + 7 * (r : Int)) + (c : Int) = ((53 + 49 * d + (7 * r + c) : Nat) : Int) := by omega
    have q3 := dr_hasCut (N := N) (r := r) (c := c) (d := (d : Int)) (by omega) (by omega) hz3 cr cb
    have h01 := rd_01 hd (k := 49 * d + (7 * r + c)) (by omega)
    rw [← Nat.add_assoc] at h01
    have hbit : (if (d : Int) = 0 then cr else cb).getLsbD (8 * r + c) = true ↔ now ((53 + 49 * d + (7 * r + c) : Nat) : Int) = 1 := by
      have hq := rd_bit hd hu
      rw [heb] at hq
      by_cases c0 : d = 0
      · rw [if_pos (by omega), show 53 + 49 * d + (7 * r + c) = 53 + (7 * r + c) by omega]; exact hq.1
      · have : d = 1 := by omega
        rw [if_neg (by omega), show 53 + 49 * d + (7 * r + c) = 102 + (7 * r + c) by omega]; exact hq.2
    by_cases c3 : now ((53 + 49 * d + (7 * r + c) : Nat) : Int) = 1
    · rw [if_pos (hbit.mpr c3)] at q3
      have g1 : f_gp_addCut N (r : Int) (c : Int) (d : Int) rows cols cr cb cl kl col next count kr kc kcr kcb kcl kkl kcol all jr jb pc cells near planned = some (-2, cr, cb, next, count, kr, kc, kcr, kcb, kcl, kkl, kcol, all, jr, jb, pc, cells, near, planned) := by
        unfold f_gp_addCut
        rw [q1, bd_some, og_pos (by decide), if_neg (by decide), q3, bd_some, og_pos (by decide), if_neg (by decide)]
      have g2 : f_mo_addCut N (r : Int) (c : Int) (d : Int) edits now past = some (-2, edits, now, past) := by
        unfold f_mo_addCut
        rw [q2, bd_some, og_pos (by decide), if_neg (by decide), bd_some, i2, og_pos (by omega), og_pos (by omega), if_pos (by omega)]
      exact ⟨_, _, g1, g2, rfl, hH, ⟨R, C, hd, hP⟩, hS⟩
    · rw [if_neg (fun hq => c3 (hbit.mp hq))] at q3
      have hd' := rd_flip hd (d := d) (u := 7 * r + c) (by omega) hu ⟨fun h0 => by omega, fun h0 => by omega⟩ (z := 1) (by omega)
      obtain ⟨next', count', kr', kc', kcr', kcb', kcl', kkl', kcol', edits', past', all', jr', jb', pc', cells', near', s1, s2, s3, s4, s5⟩ := core_edit hN hH hd hd' all jr jb pc cells near planned
      have hfl : f_dr_flip N (r : Int) (c : Int) (d : Int) cr cb = some (if d = 0 then cr ^^^ (1#64 <<< eb (7 * r + c)) else cr, if d = 0 then cb else cb ^^^ (1#64 <<< eb (7 * r + c))) := by
        unfold f_dr_flip
        rw [og_pos hz3, ce_only (by omega) (by omega), heb]
        by_cases c0 : d = 0
        · rw [if_pos (by omega), bd_some, bd_some, if_pos c0, if_pos c0]
        · rw [if_neg (by omega), bd_some, bd_some, if_neg c0, if_neg c0]
      have hct := rd_count hd'
      have hmc := mo_cuts (N := N) hN (fun k hk => rd_01 hd' hk)
      have g0 : f_gp_flipCut N (r : Int) (c : Int) (d : Int) rows cols cr cb cl kl col next count kr kc kcr kcb kcl kkl kcol all jr jb pc cells near planned = some (cntB (fun k => decide (upi now ((53 + 49 * d + (7 * r + c) : Nat) : Int) 1 ((53 + k : Nat) : Int) = 1)) 98, (if d = 0 then cr ^^^ (1#64 <<< eb (7 * r + c)) else cr), (if d = 0 then cb else cb ^^^ (1#64 <<< eb (7 * r + c))), next', count', kr', kc', kcr', kcb', kcl', kkl', kcol', all', jr', jb', pc', cells', near', -1) := by
        unfold f_gp_flipCut f_dr_countCuts
        rw [s1, bd_some, hfl, bd_some, s3, bd_some, bd_some]
        rw [hct]
      have g1 : f_gp_addCut N (r : Int) (c : Int) (d : Int) rows cols cr cb cl kl col next count kr kc kcr kcb kcl kkl kcol all jr jb pc cells near planned = some (cntB (fun k => decide (upi now ((53 + 49 * d + (7 * r + c) : Nat) : Int) 1 ((53 + k : Nat) : Int) = 1)) 98, (if d = 0 then cr ^^^ (1#64 <<< eb (7 * r + c)) else cr), (if d = 0 then cb else cb ^^^ (1#64 <<< eb (7 * r + c))), next', count', kr', kc', kcr', kcb', kcl', kkl', kcol', all', jr', jb', pc', cells', near', -1) := by
        unfold f_gp_addCut
        rw [q1, bd_some, og_pos (by decide), if_neg (by decide), q3, bd_some, og_pos (by decide), if_pos rfl, g0, bd_some]
      have g2 : f_mo_addCut N (r : Int) (c : Int) (d : Int) edits now past = some (cntB (fun k => decide (upi now ((53 + 49 * d + (7 * r + c) : Nat) : Int) 1 ((53 + k : Nat) : Int) = 1)) 98, edits', upi now ((53 + 49 * d + (7 * r + c) : Nat) : Int) 1, past') := by
        unfold f_mo_addCut f_mo_changed
        rw [q2, bd_some, og_pos (by decide), if_neg (by decide), bd_some, i2, og_pos (by omega), og_pos (by omega), if_neg (by omega), s2, bd_some, og_pos (by omega), bd_some, bd_some, bd_some, hmc, bd_some]
      exact ⟨_, _, g1, g2, rfl, s5 _ _ _ _ _ _ _⟩
  · rw [if_neg c1] at q1 q2
    have g1 : f_gp_addCut N z1 z2 z3 rows cols cr cb cl kl col next count kr kc kcr kcb kcl kkl kcol all jr jb pc cells near planned = some (-1, cr, cb, next, count, kr, kc, kcr, kcb, kcl, kkl, kcol, all, jr, jb, pc, cells, near, planned) := by
      unfold f_gp_addCut
      rw [q1, bd_some, og_pos (by decide), if_pos rfl]
    have g2 : f_mo_addCut N z1 z2 z3 edits now past = some (-1, edits, now, past) := by
      unfold f_mo_addCut
      rw [q2, bd_some, og_pos (by decide), if_pos rfl]
    exact ⟨_, _, g1, g2, rfl, hH, ⟨R, C, hd, hP⟩, hS⟩
theorem qu_removeCut (hN : 4000 ≤ N) (h : CORE N rows cols cr cb cl kl col next count kr kc kcr kcb kcl kkl kcol all jr jb pc cells near planned scells st sb sl sr sw sln edits now past) {z1 : Int} (hz1 : xR z1) {z2 : Int} (hz2 : xR z2) {z3 : Int} (hz3 : xR z3) :
    ∃ Rg Rm, f_gp_removeCut N z1 z2 z3 rows cols cr cb cl kl col next count kr kc kcr kcb kcl kkl kcol all jr jb pc cells near planned = some Rg ∧ f_mo_removeCut N z1 z2 z3 edits now past = some Rm ∧ Rg.1 = Rm.1 ∧ CORE N rows cols Rg.2.1 Rg.2.2.1 cl kl col Rg.2.2.2.1 Rg.2.2.2.2.1 Rg.2.2.2.2.2.1 Rg.2.2.2.2.2.2.1 Rg.2.2.2.2.2.2.2.1 Rg.2.2.2.2.2.2.2.2.1 Rg.2.2.2.2.2.2.2.2.2.1 Rg.2.2.2.2.2.2.2.2.2.2.1 Rg.2.2.2.2.2.2.2.2.2.2.2.1 Rg.2.2.2.2.2.2.2.2.2.2.2.2.1 Rg.2.2.2.2.2.2.2.2.2.2.2.2.2.1 Rg.2.2.2.2.2.2.2.2.2.2.2.2.2.2.1 Rg.2.2.2.2.2.2.2.2.2.2.2.2.2.2.2.1 Rg.2.2.2.2.2.2.2.2.2.2.2.2.2.2.2.2.1 Rg.2.2.2.2.2.2.2.2.2.2.2.2.2.2.2.2.2.1 Rg.2.2.2.2.2.2.2.2.2.2.2.2.2.2.2.2.2.2 scells st sb sl sr sw sln Rm.2.1 Rm.2.2.1 Rm.2.2.2 := by
  obtain ⟨hH, ⟨R, C, hd, hP⟩, hS⟩ := h
  have hd0 := hd
  obtain ⟨e1, e2, e3, e4, hb, -, -, h8, h9, -⟩ := hd0
  have hP0 := hP
  obtain ⟨-, -, -, -, hM, -⟩ := hP0
  have q1 : f_dr_hasPair N z1 z2 z3 rows cols = some (if (0 ≤ z1 ∧ z1 < R ∧ 0 ≤ z2 ∧ z2 < C) ∧ ((z3 = 0 ∧ z2 + 1 < C) ∨ (z3 = 1 ∧ z1 + 1 < R)) then 1 else 0) := by rw [e1, e2]; exact dr_hasPair hz1 hz2 hz3 (by omega)
  have q2 := mo_isCut (N := N) hM hz1 hz2 hz3
  by_cases c1 : (0 ≤ z1 ∧ z1 < R ∧ 0 ≤ z2 ∧ z2 < C) ∧ ((z3 = 0 ∧ z2 + 1 < C) ∨ (z3 = 1 ∧ z1 + 1 < R))
  · rw [if_pos c1] at q1 q2
    obtain ⟨r, rfl⟩ : ∃ r : Nat, z1 = r := ⟨z1.toNat, by omega⟩
    obtain ⟨c, rfl⟩ : ∃ c : Nat, z2 = c := ⟨z2.toNat, by omega⟩
    obtain ⟨d, rfl⟩ : ∃ d : Nat, z3 = d := ⟨z3.toNat, by omega⟩
    have hu : 7 * r + c < 49 := by omega
    have heb : eb (7 * r + c) = 8 * r + c := by unfold eb; omega
    have i2 : ((53 + 49 * (d : Int)) + 7 * (r : Int)) + (c : Int) = ((53 + 49 * d + (7 * r + c) : Nat) : Int) := by omega
    have q3 := dr_hasCut (N := N) (r := r) (c := c) (d := (d : Int)) (by omega) (by omega) hz3 cr cb
    have h01 := rd_01 hd (k := 49 * d + (7 * r + c)) (by omega)
    rw [← Nat.add_assoc] at h01
    have hbit : (if (d : Int) = 0 then cr else cb).getLsbD (8 * r + c) = true ↔ now ((53 + 49 * d + (7 * r + c) : Nat) : Int) = 1 := by
      have hq := rd_bit hd hu
      rw [heb] at hq
      by_cases c0 : d = 0
      · rw [if_pos (by omega), show 53 + 49 * d + (7 * r + c) = 53 + (7 * r + c) by omega]; exact hq.1
      · have : d = 1 := by omega
        rw [if_neg (by omega), show 53 + 49 * d + (7 * r + c) = 102 + (7 * r + c) by omega]; exact hq.2
    by_cases c3 : now ((53 + 49 * d + (7 * r + c) : Nat) : Int) = 1
    · rw [if_pos (hbit.mpr c3)] at q3
      have hd' := rd_flip hd (d := d) (u := 7 * r + c) (by omega) hu ⟨fun h0 => by omega, fun h0 => by omega⟩ (z := 0) (by omega)
      obtain ⟨next', count', kr', kc', kcr', kcb', kcl', kkl', kcol', edits', past', all', jr', jb', pc', cells', near', s1, s2, s3, s4, s5⟩ := core_edit hN hH hd hd' all jr jb pc cells near planned
      have hfl : f_dr_flip N (r : Int) (c : Int) (d : Int) cr cb = some (if d = 0 then cr ^^^ (1#64 <<< eb (7 * r + c)) else cr, if d = 0 then cb else cb ^^^ (1#64 <<< eb (7 * r + c))) := by
        unfold f_dr_flip
        rw [og_pos hz3, ce_only (by omega) (by omega), heb]
        by_cases c0 : d = 0
        · rw [if_pos (by omega), bd_some, bd_some, if_pos c0, if_pos c0]
        · rw [if_neg (by omega), bd_some, bd_some, if_neg c0, if_neg c0]
      have hct := rd_count hd'
      have hmc := mo_cuts (N := N) hN (fun k hk => rd_01 hd' hk)
      have g0 : f_gp_flipCut N (r : Int) (c : Int) (d : Int) rows cols cr cb cl kl col next count kr kc kcr kcb kcl kkl kcol all jr jb pc cells near planned = some (cntB (fun k => decide (upi now ((53 + 49 * d + (7 * r + c) : Nat) : Int) 0 ((53 + k : Nat) : Int) = 1)) 98, (if d = 0 then cr ^^^ (1#64 <<< eb (7 * r + c)) else cr), (if d = 0 then cb else cb ^^^ (1#64 <<< eb (7 * r + c))), next', count', kr', kc', kcr', kcb', kcl', kkl', kcol', all', jr', jb', pc', cells', near', -1) := by
        unfold f_gp_flipCut f_dr_countCuts
        rw [s1, bd_some, hfl, bd_some, s3, bd_some, bd_some]
        rw [hct]
      have g1 : f_gp_removeCut N (r : Int) (c : Int) (d : Int) rows cols cr cb cl kl col next count kr kc kcr kcb kcl kkl kcol all jr jb pc cells near planned = some (cntB (fun k => decide (upi now ((53 + 49 * d + (7 * r + c) : Nat) : Int) 0 ((53 + k : Nat) : Int) = 1)) 98, (if d = 0 then cr ^^^ (1#64 <<< eb (7 * r + c)) else cr), (if d = 0 then cb else cb ^^^ (1#64 <<< eb (7 * r + c))), next', count', kr', kc', kcr', kcb', kcl', kkl', kcol', all', jr', jb', pc', cells', near', -1) := by
        unfold f_gp_removeCut
        rw [q1, bd_some, og_pos (by decide), if_neg (by decide), q3, bd_some, og_pos (by decide), if_neg (by decide), g0, bd_some]
      have g2 : f_mo_removeCut N (r : Int) (c : Int) (d : Int) edits now past = some (cntB (fun k => decide (upi now ((53 + 49 * d + (7 * r + c) : Nat) : Int) 0 ((53 + k : Nat) : Int) = 1)) 98, edits', upi now ((53 + 49 * d + (7 * r + c) : Nat) : Int) 0, past') := by
        unfold f_mo_removeCut f_mo_changed
        rw [q2, bd_some, og_pos (by decide), if_neg (by decide), bd_some, i2, og_pos (by omega), og_pos (by omega), if_neg (by omega), s2, bd_some, og_pos (by omega), bd_some, bd_some, bd_some, hmc, bd_some]
      exact ⟨_, _, g1, g2, rfl, s5 _ _ _ _ _ _ _⟩
    · rw [if_neg (fun hq => c3 (hbit.mp hq))] at q3
      have g1 : f_gp_removeCut N (r : Int) (c : Int) (d : Int) rows cols cr cb cl kl col next count kr kc kcr kcb kcl kkl kcol all jr jb pc cells near planned = some (-2, cr, cb, next, count, kr, kc, kcr, kcb, kcl, kkl, kcol, all, jr, jb, pc, cells, near, planned) := by
        unfold f_gp_removeCut
        rw [q1, bd_some, og_pos (by decide), if_neg (by decide), q3, bd_some, og_pos (by decide), if_pos rfl]
      have g2 : f_mo_removeCut N (r : Int) (c : Int) (d : Int) edits now past = some (-2, edits, now, past) := by
        unfold f_mo_removeCut
        rw [q2, bd_some, og_pos (by decide), if_neg (by decide), bd_some, i2, og_pos (by omega), og_pos (by omega), if_pos (by omega)]
      exact ⟨_, _, g1, g2, rfl, hH, ⟨R, C, hd, hP⟩, hS⟩
  · rw [if_neg c1] at q1 q2
    have g1 : f_gp_removeCut N z1 z2 z3 rows cols cr cb cl kl col next count kr kc kcr kcb kcl kkl kcol all jr jb pc cells near planned = some (-1, cr, cb, next, count, kr, kc, kcr, kcb, kcl, kkl, kcol, all, jr, jb, pc, cells, near, planned) := by
      unfold f_gp_removeCut
      rw [q1, bd_some, og_pos (by decide), if_pos rfl]
    have g2 : f_mo_removeCut N z1 z2 z3 edits now past = some (-1, edits, now, past) := by
      unfold f_mo_removeCut
      rw [q2, bd_some, og_pos (by decide), if_pos rfl]
    exact ⟨_, _, g1, g2, rfl, hH, ⟨R, C, hd, hP⟩, hS⟩
end CUTS
