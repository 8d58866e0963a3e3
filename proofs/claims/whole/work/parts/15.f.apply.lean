/-! ===== PURE: applySplit ===== -/
section APPLY
variable {N : Nat} {rows cols : Int} {cr cb : BitVec 64} {cl kl : Int} {col : Int → Int} {next count : Int} {kr kc : Int → Int} {kcr kcb : Int → BitVec 64} {kcl kkl : Int → Int} {kcol : Int → Int → Int} {all jr jb : BitVec 64} {pc : Int} {cells near : Int → BitVec 64} {planned : Int} {scells : BitVec 64} {st sb sl sr : Int} {sw sln : Int → Int} {edits : Int} {now past : Int → Int}
theorem qu_applySplit (hN : 4000 ≤ N) (h : CORE N rows cols cr cb cl kl col next count kr kc kcr kcb kcl kkl kcol all jr jb pc cells near planned scells st sb sl sr sw sln edits now past) {z1 : Int} (hz1 : xR z1) (t b l r p : Int) (queue pane fr size se pi le li wt : Int → Int) :
    ∃ Rg Rm, f_gp_applySplit N z1 rows cols cr cb cl kl col next count kr kc kcr kcb kcl kkl kcol all jr jb pc cells near planned scells st sb sl sr sw sln = some Rg ∧ f_mo_applySplit N z1 edits t b l r p now past queue pane fr size se pi le li wt = some Rm ∧ Rg.1 = Rm.1 ∧ CORE N rows cols Rg.2.1 Rg.2.2.1 cl kl col Rg.2.2.2.1 Rg.2.2.2.2.1 Rg.2.2.2.2.2.1 Rg.2.2.2.2.2.2.1 Rg.2.2.2.2.2.2.2.1 Rg.2.2.2.2.2.2.2.2.1 Rg.2.2.2.2.2.2.2.2.2.1 Rg.2.2.2.2.2.2.2.2.2.2.1 Rg.2.2.2.2.2.2.2.2.2.2.2.1 Rg.2.2.2.2.2.2.2.2.2.2.2.2.1 Rg.2.2.2.2.2.2.2.2.2.2.2.2.2.1 Rg.2.2.2.2.2.2.2.2.2.2.2.2.2.2.1 Rg.2.2.2.2.2.2.2.2.2.2.2.2.2.2.2.1 Rg.2.2.2.2.2.2.2.2.2.2.2.2.2.2.2.2.1 Rg.2.2.2.2.2.2.2.2.2.2.2.2.2.2.2.2.2.1 Rg.2.2.2.2.2.2.2.2.2.2.2.2.2.2.2.2.2.2.1 Rg.2.2.2.2.2.2.2.2.2.2.2.2.2.2.2.2.2.2.2.1 Rg.2.2.2.2.2.2.2.2.2.2.2.2.2.2.2.2.2.2.2.2.1 Rg.2.2.2.2.2.2.2.2.2.2.2.2.2.2.2.2.2.2.2.2.2.1 Rg.2.2.2.2.2.2.2.2.2.2.2.2.2.2.2.2.2.2.2.2.2.2.1 Rg.2.2.2.2.2.2.2.2.2.2.2.2.2.2.2.2.2.2.2.2.2.2.2.1 Rg.2.2.2.2.2.2.2.2.2.2.2.2.2.2.2.2.2.2.2.2.2.2.2.2.1 Rg.2.2.2.2.2.2.2.2.2.2.2.2.2.2.2.2.2.2.2.2.2.2.2.2.2 Rm.2.1 Rm.2.2.2.2.2.2.2.1 Rm.2.2.2.2.2.2.2.2.1 := by
  obtain ⟨hH, ⟨R, C, hd, hP⟩, hS⟩ := h
  obtain ⟨cnt, q', p', s', e1, e2, e3⟩ := mo_isPane hN hP hz1 t b l r p queue pane size
  have h49 := e3.1
  have hb7 := e3.2.1.2.2.1
  subst e1
  have hd0 := hd
  obtain ⟨-, -, -, -, -, hcl, hkl, -⟩ := hd0
  by_cases c : 0 ≤ z1 ∧ z1 < cnt
  · rw [if_pos c] at e2
    obtain ⟨j, rfl⟩ : ∃ j : Nat, z1 = j := ⟨z1.toNat, by omega⟩
    have hj : j < cnt := by omega
    obtain ⟨r0, q2, s2, r2⟩ := e3.easy hN (j := j) hj q' se
    rw [← hcl.1, ← hkl.1] at r0
    by_cases cz : ez R C (fun v => decide (p' (v : Int) = j)) (now 2) (now 3) = true
    · rw [if_pos cz] at r2
      rw [hcl.1, hkl.1, if_pos cz, ← hcl.1, ← hkl.1] at r0
      have g1 : f_gp_applySplit N (j : Int) rows cols cr cb cl kl col next count kr kc kcr kcb kcl kkl kcol all jr jb (cnt : Int) cells near planned scells st sb sl sr sw sln = some (-2, cr, cb, next, count, kr, kc, kcr, kcb, kcl, kkl, kcol, all, jr, jb, (cnt : Int), cells, near, planned, scells, st, sb, sl, sr, sw, sln) := by
        unfold f_gp_applySplit
        rw [pa_hasPane h49.2 hz1, bd_some, if_pos c, og_pos (by decide), if_neg (by decide), og_pos (by omega), r0, bd_some, og_pos (by decide), if_neg (by decide)]
      have g2 : f_mo_applySplit N (j : Int) edits t b l r p now past queue pane fr size se pi le li wt = some (-2, edits, 0, (R : Int) - 1, 0, (C : Int) - 1, (cnt : Int), now, past, q2, p', fr, s', s2, pi, le, li, wt) := by
        unfold f_mo_applySplit
        rw [e2, bd_some, og_pos (show xR (1 : Int) by decide), if_neg (show ¬ (1 : Int) = 0 by decide)]
        show Option.bind (f_mo_canCut N (j : Int) now q' p' s' se) _ = _
        rw [r2, bd_some, og_pos (show xR (1 : Int) by decide), if_neg (show ¬ (1 : Int) = 0 by decide)]
      exact ⟨_, _, g1, g2, rfl, hH, ⟨R, C, hd, hP⟩, hS⟩
    · rw [if_neg cz] at r2
      rw [hcl.1, hkl.1, if_neg cz, ← hcl.1, ← hkl.1] at r0
      obtain ⟨t1, b1, l1, r1, w, ln, a1, a2, a3⟩ := sp_plan hN e3 hcl.2 hkl.2 hS hj
      have ho := emB_ok hN (jr := jr) (jb := jb) (show R ≤ 7 ∧ C ≤ 7 by omega) e3.2.2.1 (e3.sub hj) (cl := cl) (kl := kl) (by omega) (by omega) hcl.2.1 hkl.2.1
      obtain ⟨t2, b2, l2, r3, T', B', L', Q', q3, fr', se', pi', le', li', m1, m2, m3, m4, m5⟩ := mo_layPlan (cl := cl) (kl := kl) hN e3 hj hcl.1.symm hkl.1.symm hcl.2.1 0 ((R : Int) - 1) 0 ((C : Int) - 1) q2 fr s2 pi le li
      obtain ⟨rfl, rfl, rfl, rfl⟩ := m2.uniq a2
      have a20 := a2
      obtain ⟨f1, f2, f3, f4, -⟩ := a20
      obtain ⟨gr, gb⟩ := rd_grid hd
      have h01 : ∀ k : Nat, k < 98 → now ((53 + k : Nat) : Int) = 0 ∨ now ((53 + k : Nat) : Int) = 1 := fun k hk => rd_01 hd hk
      obtain ⟨cr', cb', c1, c2, c3, c4⟩ := sp_cutPart hN (e3.grid hj) ho a3 f2 f4 20 t2 b2 l2 r3 0 cr cb (Nat.le_refl _) f1 (Nat.le_refl _) (Nat.le_refl _) f3 (Nat.le_refl _) (by omega) (by omega) gr gb
      have har := area_le (t := t2) (l := l2) f2 f4
      obtain ⟨-, -, -, -, -, -, -, -, -, ed, pa, -, sv, -⟩ := hi_save hN hH hd
      obtain ⟨now', wt', k1, k2, k3⟩ := split_stack hN e3 hj h01 ho m3 m4 m5 ed T' B' L' Q' (cnt : Int) pa q3 fr' s' se' N 1 now (upi wt 0 ((bx t2 b2 l2 r3 : Nat) : Int)) (fun _ => (t2, b2, l2, r3)) (fun i hi => by
        have : i = 0 := by omega
        subst this
        exact ⟨upi_s _ _ _, Nat.le_refl _, f1, Nat.le_refl _, Nat.le_refl _, f3, Nat.le_refl _⟩) (by
        show (0 : Int) + (((b2 - t2 + 1) * (r3 - l2 + 1) : Nat) : Int) ≤ 49
        omega) (by
        show 2 * ((0 : Int) + (((b2 - t2 + 1) * (r3 - l2 + 1) : Nat) : Int)) < _
        omega) ⟨fun _ _ => rfl, h01, fun k _ hk => hk⟩
      have hbk : ∀ k : Nat, k < 98 → (bk cr' cb' k ↔ now' ((53 + k : Nat) : Int) = 1) := by
        intro k hk
        rw [c4 k hk, k3 k hk]
        have hold : bk cr cb k ↔ now ((53 + k : Nat) : Int) = 1 := by
          unfold bk
          by_cases ck : k < 49
          · rw [if_pos ck]; exact (rd_bit hd ck).1
          · rw [if_neg ck]
            have := (rd_bit hd (u := k - 49) (by omega)).2
            rw [show 102 + (k - 49) = 53 + k by omega] at this
            exact this
        rw [hold]
        constructor
        · rintro (g | g)
          · exact Or.inl g
          · exact Or.inr ⟨0, by omega, g⟩
        · rintro (g | ⟨i, hi, g⟩)
          · exact Or.inl g
          · exact Or.inr g
      have hcsin : ∀ k : Nat, k < 98 → now' ((53 + k : Nat) : Int) = 1 → now ((53 + k : Nat) : Int) = 1 ∨ ((k < 49 → jr.getLsbD (eb k) = true) ∧ (49 ≤ k → jb.getLsbD (eb (k - 49)) = true)) := by
        intro k hk hn
        rcases (k3 k hk).mp hn with g | ⟨i, hi, g⟩
        · exact Or.inl g
        · exact Or.inr g.joined
      obtain ⟨-, -, -, -, mr, mb⟩ := e3.2.1
      have hd00 := hd
      obtain ⟨-, -, -, -, -, -, -, -, -, -, -, h53, h102⟩ := hd00
      have hd' : RD rows cols cr' cb' cl kl col now' R C := by
        refine rd_cuts hd (fun x x1 x2 => k2.1 x x2) k2.2.1 c2 c3 (fun u hu => ?_) (fun u hu => ?_) (fun u hu hn => ?_) (fun u hu hn => ?_)
        · have := hbk u (by omega)
          unfold bk at this
          rw [if_pos hu] at this
          exact this
        · have := hbk (49 + u) (by omega)
          unfold bk at this
          rw [if_neg (by omega), show 49 + u - 49 = u by omega] at this
          rw [show 102 + u = 53 + (49 + u) by omega]
          exact this
        · rcases hcsin u (by omega) hn with g | g
          · have := h53 u hu; omega
          · have := (mr _).mp (g.1 hu)
            obtain ⟨e1, e2, -⟩ := eb_rc u
            rw [e1, e2] at this
            exact ⟨this.1, this.2.1⟩
        · rw [show 102 + u = 53 + (49 + u) by omega] at hn
          rcases hcsin (49 + u) (by omega) hn with g | g
          · rw [show 53 + (49 + u) = 102 + u by omega] at g
            have := h102 u hu; omega
          · have g2 := g.2 (by omega)
            rw [show 49 + u - 49 = u by omega] at g2
            have := (mb _).mp g2
            obtain ⟨e1, e2, -⟩ := eb_rc u
            rw [e1, e2] at this
            exact ⟨this.1, this.2.1⟩
      obtain ⟨next', count', kr', kc', kcr', kcb', kcl', kkl', kcol', edits', past', all', jr', jb', pc', cells', near', s1, s2', s3, s4, s5⟩ := core_edit hN hH hd hd' all jr jb (cnt : Int) cells near (j : Int)
      have g1 : f_gp_applySplit N (j : Int) rows cols cr cb cl kl col next count kr kc kcr kcb kcl kkl kcol all jr jb (cnt : Int) cells near planned scells st sb sl sr sw sln = some (pc', cr', cb', next', count', kr', kc', kcr', kcb', kcl', kkl', kcol', all', jr', jb', pc', cells', near', -1, cells j, (t2 : Int), (b2 : Int), (l2 : Int), (r3 : Int), w, ln) := by
        unfold f_gp_applySplit f_sp_cut
        rw [pa_hasPane h49.2 hz1, bd_some, if_pos c, og_pos (by decide), if_neg (by decide), og_pos (by omega), r0, bd_some, og_pos (by decide), if_pos rfl, a1, bd_some, s1, bd_some]
        show Option.bind (Option.bind (f_sp_cutPart N 20 (t2 : Int) (b2 : Int) (l2 : Int) (r3 : Int) ((0 : Nat) : Int) cr cb jr jb (cells j) ln) _) _ = _
        rw [c1, bd_some, bd_some]
        show Option.bind (f_gp_refresh N rows cols cr' cb' col all jr jb (cnt : Int) cells near (j : Int)) _ = _
        rw [s3, bd_some]
      obtain ⟨cnt2, q9, p9, z9, x1, x2, x3⟩ := po_mo hN s4 T' B' L' Q' (cnt : Int) q3 p' s'
      have g2 : f_mo_applySplit N (j : Int) edits t b l r p now past queue pane fr size se pi le li wt = some (pc', edits', 0, (R : Int) - 1, 0, (C : Int) - 1, pc', now', past', q9, p9, fr', z9, se', pi', le', li', wt') := by
        unfold f_mo_applySplit
        rw [e2, bd_some, og_pos (show xR (1 : Int) by decide), if_neg (show ¬ (1 : Int) = 0 by decide)]
        show Option.bind (f_mo_canCut N (j : Int) now q' p' s' se) _ = _
        rw [r2, bd_some, og_pos (show xR (0 : Int) by decide), if_pos rfl, sv, bd_some]
        show Option.bind (f_mo_layPlan N (j : Int) 0 ((R : Int) - 1) 0 ((C : Int) - 1) now q2 p' fr s2 pi le li) _ = _
        rw [m1, bd_some, bd_some]
        rw [sv] at s2'
        have := Option.some.inj s2'
        have y1 : ed = edits' := congrArg Prod.fst this
        have y2 : pa = past' := congrArg Prod.snd this
        rw [← y1, ← y2]
        refine k1.trans ?_
        rw [x2, bd_some, x1]
      exact ⟨_, _, g1, g2, rfl, s5 _ _ _ _ _ _ _⟩
  · rw [if_neg c] at e2
    have g1 : f_gp_applySplit N z1 rows cols cr cb cl kl col next count kr kc kcr kcb kcl kkl kcol all jr jb (cnt : Int) cells near planned scells st sb sl sr sw sln = some (-1, cr, cb, next, count, kr, kc, kcr, kcb, kcl, kkl, kcol, all, jr, jb, (cnt : Int), cells, near, planned, scells, st, sb, sl, sr, sw, sln) := by
      unfold f_gp_applySplit
      rw [pa_hasPane h49.2 hz1, bd_some, if_neg c, og_pos (by decide), if_pos rfl]
    have g2 : f_mo_applySplit N z1 edits t b l r p now past queue pane fr size se pi le li wt = some (-1, edits, 0, (R : Int) - 1, 0, (C : Int) - 1, (cnt : Int), now, past, q', p', fr, s', se, pi, le, li, wt) := by
      unfold f_mo_applySplit
      rw [e2, bd_some, og_pos (show xR (0 : Int) by decide), if_pos rfl]
    exact ⟨_, _, g1, g2, rfl, hH, ⟨R, C, hd, hP⟩, hS⟩
end APPLY
