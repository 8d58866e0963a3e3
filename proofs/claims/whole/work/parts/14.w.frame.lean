/-! ===== PURE: the plan's loops, the class's side ===== -/
def MM (pr : Nat → Prop) (k : Nat) (a b : Int) : Prop := ((∀ i, i < k → ¬ pr i) ∧ a = 6 ∧ b = 0) ∨ ∃ x y : Nat, a = x ∧ b = y ∧ x < k ∧ y < k ∧ pr x ∧ pr y ∧ ∀ i, i < k → pr i → x ≤ i ∧ i ≤ y
theorem MM.no {pr : Nat → Prop} {k : Nat} {a b : Int} (h : MM pr k a b) (hn : ¬ pr k) : MM pr (k + 1) a b := by
  rcases h with ⟨h1, h2, h3⟩ | ⟨x, y, h1, h2, h3, h4, h5, h6, h7⟩
  · refine Or.inl ⟨fun i hi => ?_, h2, h3⟩
    by_cases c : i = k
    · rw [c]; exact hn
    · exact h1 i (by omega)
  · refine Or.inr ⟨x, y, h1, h2, by omega, by omega, h5, h6, fun i hi hp => ?_⟩
    by_cases c : i = k
    · rw [c] at hp; exact absurd hp hn
    · exact h7 i (by omega) hp
theorem MM.yes {pr : Nat → Prop} {k : Nat} {a b : Int} (h : MM pr k a b) (hk : k ≤ 6) (hy : pr k) : MM pr (k + 1) (min a (k : Int)) (k : Int) := by
  rcases h with ⟨h1, h2, h3⟩ | ⟨x, y, h1, h2, h3, h4, h5, h6, h7⟩
  · refine Or.inr ⟨k, k, by omega, rfl, by omega, by omega, hy, hy, fun i hi hp => ?_⟩
    by_cases c : i = k
    · omega
    · exact absurd hp (h1 i (by omega))
  · refine Or.inr ⟨x, k, by omega, rfl, by omega, by omega, h5, hy, fun i hi hp => ?_⟩
    by_cases c : i = k
    · omega
    · have := h7 i (by omega) hp; omega
theorem frame_loop {N : Nat} {P : BitVec 64} (hg : Grid P) : ∀ (n k : Nat) (t b l r : Int), k ≤ 7 → 7 < n + k → MM (fun x => ∃ i, P.getLsbD i = true ∧ i / 8 = x) k t b → MM (fun x => ∃ i, P.getLsbD i = true ∧ i % 8 = x) k l r →
    ∃ t' b' l' r', f_sp_frame_24 N P n (k : Int) t b l r = some (t', b', l', r') ∧ MM (fun x => ∃ i, P.getLsbD i = true ∧ i / 8 = x) 7 t' b' ∧ MM (fun x => ∃ i, P.getLsbD i = true ∧ i % 8 = x) 7 l' r' := by
  intro n
  induction n with
  | zero => intro k t b l r h1 h2; omega
  | succ n ih =>
    intro k t b l r h1 h2 hA hB
    rw [f_sp_frame_24.eq_2, og_pos (by omega)]
    by_cases hk : k = 7
    · subst hk
      rw [if_pos (by omega)]
      exact ⟨t, b, l, r, rfl, hA, hB⟩
    · obtain ⟨x, x1, x2⟩ := ce_inRow (N := N) (k := k) (by omega)
      obtain ⟨y, y1, y2⟩ := ce_inColumn (N := N) (k := k) (by omega)
      rw [if_neg (by omega), x1, bd_some]
      have hrx : xR t := by
        rcases hA with ⟨-, h, -⟩ | ⟨x, y, h, -, h3, -⟩ <;> omega
      have hlx : xR l := by
        rcases hB with ⟨-, h, -⟩ | ⟨x, y, h, -, h3, -⟩ <;> omega
      have e1 : (k : Int) + 1 = ((k + 1 : Nat) : Int) := by omega
      have hrow : (P &&& x) = 0#64 ↔ ¬ ∃ i, P.getLsbD i = true ∧ i / 8 = k := by
        constructor
        · rintro h0 ⟨i, hi, hik⟩
          have : (P &&& x).getLsbD i = true := by
            rw [gl_and, hi, (x2 i).mpr ⟨hik, (gd_lt (hg i hi)).1⟩]; rfl
          rw [h0, gl_zero] at this; cases this
        · intro h0
          apply Classical.byContradiction
          intro hne
          obtain ⟨i, -, hi⟩ := gl_ne.mp hne
          rw [gl_and, Bool.and_eq_true, x2] at hi
          exact h0 ⟨i, hi.1, hi.2.1⟩
      have hcol : (P &&& y) = 0#64 ↔ ¬ ∃ i, P.getLsbD i = true ∧ i % 8 = k := by
        constructor
        · rintro h0 ⟨i, hi, hik⟩
          have : (P &&& y).getLsbD i = true := by
            rw [gl_and, hi, (y2 i).mpr ⟨hik, (gd_lt (hg i hi)).2.1⟩]; rfl
          rw [h0, gl_zero] at this; cases this
        · intro h0
          apply Classical.byContradiction
          intro hne
          obtain ⟨i, -, hi⟩ := gl_ne.mp hne
          rw [gl_and, Bool.and_eq_true, y2] at hi
          exact h0 ⟨i, hi.1, hi.2.1⟩
      have s1 : ∃ t2 b2, (if (P &&& x) = 0#64 then some (t, b) else og (xR t) <| Option.bind (some (min t (k : Int))) fun S_top_16 => some (S_top_16, (k : Int))) = some (t2, b2) ∧ MM (fun x => ∃ i, P.getLsbD i = true ∧ i / 8 = x) (k + 1) t2 b2 := by
        by_cases c : (P &&& x) = 0#64
        · rw [if_pos c]; exact ⟨_, _, rfl, hA.no (hrow.mp c)⟩
        · rw [if_neg c, og_pos hrx, bd_some]
          exact ⟨_, _, rfl, hA.yes (by omega) (Classical.byContradiction fun hq => c (hrow.mpr hq))⟩
      have s2 : ∃ l2 r2, (if (P &&& y) = 0#64 then Option.bind (some ((k : Int) + 1)) fun l1_19 => some (l1_19, l, r) else og (xR l) <| Option.bind (some (min l (k : Int))) fun S_left_21 => Option.bind (some ((k : Int) + 1)) fun l1_22 => some (l1_22, S_left_21, (k : Int))) = some (((k + 1 : Nat) : Int), l2, r2) ∧ MM (fun x => ∃ i, P.getLsbD i = true ∧ i % 8 = x) (k + 1) l2 r2 := by
        by_cases c : (P &&& y) = 0#64
        · rw [if_pos c, bd_some, e1]; exact ⟨_, _, rfl, hB.no (hcol.mp c)⟩
        · rw [if_neg c, og_pos hlx, bd_some, bd_some, e1]
          exact ⟨_, _, rfl, hB.yes (by omega) (Classical.byContradiction fun hq => c (hcol.mpr hq))⟩
      obtain ⟨t2, b2, u1, u2⟩ := s1
      obtain ⟨l2, r2, v1, v2⟩ := s2
      rw [u1, bd_some, y1, bd_some, v1, bd_some]
      exact ih (k + 1) t2 b2 l2 r2 (by omega) (by omega) u2 v2
theorem sp_frame {N : Nat} (hN : 4000 ≤ N) {P : BitVec 64} (hg : Grid P) (hne : ∃ i, P.getLsbD i = true) (a b c d : Int) : ∃ t b' l r : Nat, f_sp_frame N P a b c d = some ((t : Int), (b' : Int), (l : Int), (r : Int)) ∧ Frm P t b' l r := by
  obtain ⟨t, b', l, r, h1, h2, h3⟩ := frame_loop (N := N) hg N 0 6 0 6 0 (by omega) (by omega) (Or.inl ⟨fun i hi => by omega, rfl, rfl⟩) (Or.inl ⟨fun i hi => by omega, rfl, rfl⟩)
  obtain ⟨i, hi⟩ := hne
  have hgi := gd_lt (hg i hi)
  rcases h2 with ⟨q1, -, -⟩ | ⟨x, y, rfl, rfl, x3, x4, x5, x6, x7⟩
  · exact absurd ⟨i, hi, rfl⟩ (q1 (i / 8) (by omega))
  · rcases h3 with ⟨q1, -, -⟩ | ⟨z, v, rfl, rfl, z3, z4, z5, z6, z7⟩
    · exact absurd ⟨i, hi, rfl⟩ (q1 (i % 8) (by omega))
    · refine ⟨x, y, z, v, h1, ?_, by omega, ?_, by omega, fun j hj => ?_, x5, x6, z5, z6⟩
      · have := x7 _ (by omega : i / 8 < 7) ⟨i, hi, rfl⟩; omega
      · have := z7 _ (by omega : i % 8 < 7) ⟨i, hi, rfl⟩; omega
      · have hgj := gd_lt (hg j hj)
        have a1 := x7 _ (by omega : j / 8 < 7) ⟨j, hj, rfl⟩
        have a2 := z7 _ (by omega : j % 8 < 7) ⟨j, hj, rfl⟩
        omega
theorem Frm.uniq {P : BitVec 64} {t b l r t' b' l' r' : Nat} (h : Frm P t b l r) (h' : Frm P t' b' l' r') : t = t' ∧ b = b' ∧ l = l' ∧ r = r' := by
  obtain ⟨-, -, -, -, a1, ⟨i1, p1, e1⟩, ⟨i2, p2, e2⟩, ⟨i3, p3, e3⟩, ⟨i4, p4, e4⟩⟩ := h
  obtain ⟨-, -, -, -, b1, ⟨j1, q1, f1⟩, ⟨j2, q2, f2⟩, ⟨j3, q3, f3⟩, ⟨j4, q4, f4⟩⟩ := h'
  have x1 := (b1 _ p1).1
  have x2 := (b1 _ p2).2.1
  have x3 := (b1 _ p3).2.2.1
  have x4 := (b1 _ p4).2.2.2
  have y1 := (a1 _ q1).1
  have y2 := (a1 _ q2).2.1
  have y3 := (a1 _ q3).2.2.1
  have y4 := (a1 _ q4).2.2.2
  rw [e1] at x1
  rw [e2] at x2
  rw [e3] at x3
  rw [e4] at x4
  rw [f1] at y1
  rw [f2] at y2
  rw [f3] at y3
  rw [f4] at y4
  exact ⟨Nat.le_antisymm y1 x1, Nat.le_antisymm x2 y2, Nat.le_antisymm y3 x3, Nat.le_antisymm x4 y4⟩
