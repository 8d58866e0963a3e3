/-! ===== PURE: a split is carried out ===== -/
def BxA (x : Nat × Nat × Nat × Nat) : Int := (((x.2.1 - x.1 + 1) * (x.2.2.2 - x.2.2.1 + 1) : Nat) : Int)
theorem BxA_pos (x : Nat × Nat × Nat × Nat) : 1 ≤ BxA x := by
  have := area_ge (h := x.2.1 - x.1 + 1) (w := x.2.2.2 - x.2.2.1 + 1) (by omega) (by omega)
  unfold BxA; omega
theorem sumN_ge {f : Nat → Int} (h : ∀ i, 1 ≤ f i) : ∀ n : Nat, (n : Int) ≤ sumN f n
  | 0 => Int.le_refl _
  | n + 1 => by
    have h1 := sumN_ge h n
    have h2 := h n
    rw [sumN_s]; omega
section STACK
variable {N R C : Nat} {jr jb all : BitVec 64} {cnt : Nat} {cells : Int → BitVec 64} {now pane size : Int → Int} {p : Nat} {cl kl : Int} {t0 b0 l0 r0 : Nat}
def InF (t0 b0 l0 r0 : Nat) (x : Nat × Nat × Nat × Nat) : Prop := t0 ≤ x.1 ∧ x.1 ≤ x.2.1 ∧ x.2.1 ≤ b0 ∧ l0 ≤ x.2.2.1 ∧ x.2.2.1 ≤ x.2.2.2 ∧ x.2.2.2 ≤ r0
theorem split_stack (hN : 4000 ≤ N) (h : PC R C jr jb all cnt cells now pane size) (hp : p < cnt) (h01 : ∀ k : Nat, k < 98 → now ((53 + k : Nat) : Int) = 0 ∨ now ((53 + k : Nat) : Int) = 1) (ho : EmOk (emB N (cells p) all jr jb cl kl) (cbB (cells p) jb) (crB (cells p) jr)) (hb0 : b0 < R) (hr0 : r0 < C) {pi le li : Int → Int} (hT : ∀ t b l r : Nat, t0 ≤ t → t ≤ b → b ≤ b0 → l0 ≤ l → l ≤ r → r ≤ r0 → MTab N (cells p) all jr jb cl kl t b l r pi le li) (e T B L Q pn : Int) (past q fr sz se : Int → Int) :
    ∀ (n m : Nat) (nk wt : Int → Int) (bs : Nat → Nat × Nat × Nat × Nat), (∀ i, i < m → wt (i : Int) = ((bx (bs i).1 (bs i).2.1 (bs i).2.2.1 (bs i).2.2.2 : Nat) : Int) ∧ InF t0 b0 l0 r0 (bs i)) → sumN (fun i => BxA (bs i)) m ≤ 49 → 2 * sumN (fun i => BxA (bs i)) m < n + m → NC now nk →
      ∃ nk' wt', f_mo_applySplit_38 N (p : Int) e T B L Q pn past q pane fr sz se pi le li n (m : Int) nk wt = (Option.bind (f_mo_findPanes N T B L Q pn nk' q pane sz) fun q_9 => some (q_9.2.2.2.2.1, e, q_9.1, q_9.2.1, q_9.2.2.1, q_9.2.2.2.1, q_9.2.2.2.2.1, nk', past, q_9.2.2.2.2.2.1, q_9.2.2.2.2.2.2.1, fr, q_9.2.2.2.2.2.2.2, se, pi, le, li, wt')) ∧ NC now nk' ∧ ∀ k : Nat, k < 98 → (nk' ((53 + k : Nat) : Int) = 1 ↔ nk ((53 + k : Nat) : Int) = 1 ∨ ∃ i, i < m ∧ CS N (cells p) all jr jb cl kl (bs i).1 (bs i).2.1 (bs i).2.2.1 (bs i).2.2.2 k) := by
  have hb7 := h.2.1.2.2.1
  intro n
  induction n with
  | zero =>
    intro m nk wt bs h1 h2 h3 h4
    have := sumN_ge (fun i => BxA_pos (bs i)) m
    omega
  | succ n ih =>
    intro m nk wt bs h1 h2 h3 h4
    have hge := sumN_ge (fun i => BxA_pos (bs i)) m
    rw [f_mo_applySplit_38.eq_2, og_pos (by omega)]
    cases m with
    | zero =>
      rw [if_pos (by omega)]
      exact ⟨nk, wt, rfl, h4, fun k hk => ⟨Or.inl, fun hq => hq.elim id (fun ⟨i, hi, _⟩ => by omega)⟩⟩
    | succ m =>
      rw [if_neg (by omega), bd_some, show ((m + 1 : Nat) : Int) + -1 = (m : Int) by omega, og_pos (by omega), bd_some]
      obtain ⟨w1, w2⟩ := h1 m (by omega)
      obtain ⟨f1, f2, f3, f4, f5, f6⟩ := w2
      have hbx := bx_lt (t := (bs m).1) (b := (bs m).2.1) (l := (bs m).2.2.1) (r := (bs m).2.2.2) (by omega) (by omega) (by omega) (by omega)
      have hli := (hT _ _ _ _ f1 f2 f3 f4 f5 f6).2.2
      have hlim := pl_lim ho f2 (show (bs m).2.1 ≤ 6 by omega) f5 (show (bs m).2.2.2 ≤ 6 by omega)
      have hbd := pl_bound ho _ (bs m).1 (bs m).2.1 (bs m).2.2.1 (bs m).2.2.2 (Nat.le_refl _) f2 (show (bs m).2.1 ≤ 6 by omega) f5 (show (bs m).2.2.2 ≤ 6 by omega)
      have hlx : -1 ≤ (pln N (cells p) all jr jb cl kl (bs m).1 (bs m).2.1 (bs m).2.2.1 (bs m).2.2.2).2.2 ∧ (pln N (cells p) all jr jb cl kl (bs m).1 (bs m).2.1 (bs m).2.2.1 (bs m).2.2.2).2.2 ≤ 13 := ⟨hlim.2.2.2.2.1, hlim.2.2.2.2.2.1⟩
      have hm49 : m + 1 ≤ 49 := by omega
      rw [sumN_s] at h2 h3
      have hpos := BxA_pos (bs m)
      rw [w1, og_pos (by omega), hli, og_pos (by omega)]
      by_cases c : (pln N (cells p) all jr jb cl kl (bs m).1 (bs m).2.1 (bs m).2.2.1 (bs m).2.2.2).2.2 = -1
      · rw [if_pos c, bd_some]
        obtain ⟨nk', wt', z1, z2, z3⟩ := ih m nk wt bs (fun i hi => h1 i (by omega)) (by omega) (by omega) h4
        refine ⟨nk', wt', z1, z2, fun k hk => ?_⟩
        rw [z3 k hk]
        constructor
        · rintro (g | ⟨i, hi, g⟩)
          · exact Or.inl g
          · exact Or.inr ⟨i, by omega, g⟩
        · rintro (g | ⟨i, hi, g⟩)
          · exact Or.inl g
          · by_cases ci : i = m
            · subst ci; exact absurd g (CS.none c)
            · exact Or.inr ⟨i, by omega, g⟩
      · rw [if_neg c]
        have hL : plLine (bs m).1 (bs m).2.1 (bs m).2.2.1 (bs m).2.2.2 (pln N (cells p) all jr jb cl kl (bs m).1 (bs m).2.1 (bs m).2.2.1 (bs m).2.2.2) := hbd.2.1 (Classical.byContradiction fun hq => c (hlim.2.2.2.2.2.2.mpr hq))
        unfold plLine at hL
        obtain ⟨ml, hm⟩ : ∃ ml : Nat, (pln N (cells p) all jr jb cl kl (bs m).1 (bs m).2.1 (bs m).2.2.1 (bs m).2.2.2).2.2 = ml := ⟨(pln N (cells p) all jr jb cl kl (bs m).1 (bs m).2.1 (bs m).2.2.1 (bs m).2.2.2).2.2.toNat, by omega⟩
        have hgen : ∀ (k : Nat), CS N (cells p) all jr jb cl kl (bs m).1 (bs m).2.1 (bs m).2.2.1 (bs m).2.2.2 k ↔ (LnS (cells p) jr jb (bs m).1 (bs m).2.1 (bs m).2.2.1 (bs m).2.2.2 ml k ∨ (if ml < 7 then CS N (cells p) all jr jb cl kl (bs m).1 ml (bs m).2.2.1 (bs m).2.2.2 k ∨ CS N (cells p) all jr jb cl kl (ml + 1) (bs m).2.1 (bs m).2.2.1 (bs m).2.2.2 k else CS N (cells p) all jr jb cl kl (bs m).1 (bs m).2.1 (bs m).2.2.1 (ml - 7) k ∨ CS N (cells p) all jr jb cl kl (bs m).1 (bs m).2.1 (ml - 7 + 1) (bs m).2.2.2 k)) := by
          intro k
          rw [CS.iff]
          unfold StT
          rw [hm, show ((ml : Nat) : Int).toNat = ml by omega]
          exact ⟨fun hq => hq.2, fun hq => ⟨by omega, hq⟩⟩
        rw [hm] at hL
        obtain ⟨nk1, wt1, y1, y2, y3, y4, y5, y6⟩ := mo_cutBy hN h hp h01 (t := (bs m).1) (b := (bs m).2.1) (l := (bs m).2.2.1) (r := (bs m).2.2.2) (m := ml) (sp := m) f2 f5 (by omega) (by omega) (by omega) (hli.trans hm) (by omega) wt h4
        rw [y1, bd_some, bd_some]
        have push : ∀ s1 s2 : Nat × Nat × Nat × Nat, InF t0 b0 l0 r0 s1 → InF t0 b0 l0 r0 s2 → BxA s1 + BxA s2 = BxA (bs m) → wt1 (m : Int) = ((bx s1.1 s1.2.1 s1.2.2.1 s1.2.2.2 : Nat) : Int) → wt1 ((m : Int) + 1) = ((bx s2.1 s2.2.1 s2.2.2.1 s2.2.2.2 : Nat) : Int) → (∀ k, CS N (cells p) all jr jb cl kl (bs m).1 (bs m).2.1 (bs m).2.2.1 (bs m).2.2.2 k ↔ (LnS (cells p) jr jb (bs m).1 (bs m).2.1 (bs m).2.2.1 (bs m).2.2.2 ml k ∨ CS N (cells p) all jr jb cl kl s1.1 s1.2.1 s1.2.2.1 s1.2.2.2 k ∨ CS N (cells p) all jr jb cl kl s2.1 s2.2.1 s2.2.2.1 s2.2.2.2 k)) →
            ∃ nk' wt', f_mo_applySplit_38 N (p : Int) e T B L Q pn past q pane fr sz se pi le li n ((m : Int) + 2) nk1 wt1 = (Option.bind (f_mo_findPanes N T B L Q pn nk' q pane sz) fun q_9 => some (q_9.2.2.2.2.1, e, q_9.1, q_9.2.1, q_9.2.2.1, q_9.2.2.2.1, q_9.2.2.2.2.1, nk', past, q_9.2.2.2.2.2.1, q_9.2.2.2.2.2.2.1, fr, q_9.2.2.2.2.2.2.2, se, pi, le, li, wt')) ∧ NC now nk' ∧ ∀ k : Nat, k < 98 → (nk' ((53 + k : Nat) : Int) = 1 ↔ nk ((53 + k : Nat) : Int) = 1 ∨ ∃ i, i < m + 1 ∧ CS N (cells p) all jr jb cl kl (bs i).1 (bs i).2.1 (bs i).2.2.1 (bs i).2.2.2 k) := by
          intro s1 s2 i1 i2 hA hw1 hw2 hcs
          have b0' : ∀ i, i < m → (fun i => if i = m then s1 else if i = m + 1 then s2 else bs i) i = bs i := fun i hi => by
            show (if i = m then s1 else if i = m + 1 then s2 else bs i) = bs i
            rw [if_neg (by omega), if_neg (by omega)]
          have b1' : (fun i => if i = m then s1 else if i = m + 1 then s2 else bs i) m = s1 := if_pos rfl
          have b2' : (fun i => if i = m then s1 else if i = m + 1 then s2 else bs i) (m + 1) = s2 := by
            show (if m + 1 = m then s1 else if m + 1 = m + 1 then s2 else bs (m + 1)) = s2
            rw [if_neg (by omega), if_pos rfl]
          generalize hbs' : (fun i => if i = m then s1 else if i = m + 1 then s2 else bs i) = bs' at b0' b1' b2'
          have hsum : sumN (fun i => BxA (bs' i)) (m + 2) = sumN (fun i => BxA (bs i)) m + BxA s1 + BxA s2 := by
            rw [sumN_s, sumN_s, b1', b2', sumN_congr (f := fun i => BxA (bs' i)) (g := fun i => BxA (bs i)) (fun i hi => by rw [b0' i hi])]
          obtain ⟨nk', wt', z1, z2, z3⟩ := ih (m + 2) nk1 wt1 bs' (fun i hi => by
            by_cases ci : i < m
            · rw [b0' i ci]
              have := h1 i (by omega)
              exact ⟨(y6 _ (by omega)).trans this.1, this.2⟩
            · by_cases cj : i = m
              · rw [cj, b1']; exact ⟨hw1, i1⟩
              · rw [show i = m + 1 by omega, b2', show ((m + 1 : Nat) : Int) = (m : Int) + 1 by omega]; exact ⟨hw2, i2⟩) (by omega) (by omega) y2
          rw [show ((m + 2 : Nat) : Int) = (m : Int) + 2 by omega] at z1
          refine ⟨nk', wt', z1, z2, fun k hk => ?_⟩
          rw [z3 k hk, y3 k hk]
          constructor
          · rintro ((g | g) | ⟨i, hi, g⟩)
            · exact Or.inl g
            · exact Or.inr ⟨m, by omega, (hcs k).mpr (Or.inl g)⟩
            · by_cases ci : i < m
              · rw [b0' i ci] at g
                exact Or.inr ⟨i, by omega, g⟩
              · by_cases cj : i = m
                · rw [cj, b1'] at g
                  exact Or.inr ⟨m, by omega, (hcs k).mpr (Or.inr (Or.inl g))⟩
                · rw [show i = m + 1 by omega, b2'] at g
                  exact Or.inr ⟨m, by omega, (hcs k).mpr (Or.inr (Or.inr g))⟩
          · rintro (g | ⟨i, hi, g⟩)
            · exact Or.inl (Or.inl g)
            · by_cases ci : i < m
              · exact Or.inr ⟨i, by omega, by rw [b0' i ci]; exact g⟩
              · rw [show i = m by omega] at g
                rcases (hcs k).mp g with g | g | g
                · exact Or.inl (Or.inr g)
                · exact Or.inr ⟨m, by omega, by rw [b1']; exact g⟩
                · exact Or.inr ⟨m + 1, by omega, by rw [b2']; exact g⟩
        by_cases c7 : ml < 7
        · rw [if_pos c7] at y4 y5
          refine push ((bs m).1, ml, (bs m).2.2.1, (bs m).2.2.2) (ml + 1, (bs m).2.1, (bs m).2.2.1, (bs m).2.2.2) ⟨f1, by show (bs m).1 ≤ ml; omega, by show ml ≤ b0; omega, f4, f5, f6⟩ ⟨by show t0 ≤ ml + 1; omega, by show ml + 1 ≤ (bs m).2.1; omega, f3, f4, f5, f6⟩ ?_ y4 y5 (fun k => by rw [hgen k, if_pos c7])
          unfold BxA
          show (((ml - (bs m).1 + 1) * ((bs m).2.2.2 - (bs m).2.2.1 + 1) : Nat) : Int) + ((((bs m).2.1 - (ml + 1) + 1) * ((bs m).2.2.2 - (bs m).2.2.1 + 1) : Nat) : Int) = _
          have ee : (ml - (bs m).1 + 1) * ((bs m).2.2.2 - (bs m).2.2.1 + 1) + ((bs m).2.1 - (ml + 1) + 1) * ((bs m).2.2.2 - (bs m).2.2.1 + 1) = ((bs m).2.1 - (bs m).1 + 1) * ((bs m).2.2.2 - (bs m).2.2.1 + 1) := by
            rw [← Nat.add_mul, show ml - (bs m).1 + 1 + ((bs m).2.1 - (ml + 1) + 1) = (bs m).2.1 - (bs m).1 + 1 by omega]
          omega
        · rw [if_neg c7] at y4 y5
          refine push ((bs m).1, (bs m).2.1, (bs m).2.2.1, ml - 7) ((bs m).1, (bs m).2.1, ml - 7 + 1, (bs m).2.2.2) ⟨f1, f2, f3, f4, by show (bs m).2.2.1 ≤ ml - 7; omega, by show ml - 7 ≤ r0; omega⟩ ⟨f1, f2, f3, by show l0 ≤ ml - 7 + 1; omega, by show ml - 7 + 1 ≤ (bs m).2.2.2; omega, f6⟩ ?_ y4 y5 (fun k => by rw [hgen k, if_neg c7])
          unfold BxA
          show ((((bs m).2.1 - (bs m).1 + 1) * (ml - 7 - (bs m).2.2.1 + 1) : Nat) : Int) + ((((bs m).2.1 - (bs m).1 + 1) * ((bs m).2.2.2 - (ml - 7 + 1) + 1) : Nat) : Int) = _
          have ee : ((bs m).2.1 - (bs m).1 + 1) * (ml - 7 - (bs m).2.2.1 + 1) + ((bs m).2.1 - (bs m).1 + 1) * ((bs m).2.2.2 - (ml - 7 + 1) + 1) = ((bs m).2.1 - (bs m).1 + 1) * ((bs m).2.2.2 - (bs m).2.2.1 + 1) := by
            rw [← Nat.mul_add, show ml - 7 - (bs m).2.2.1 + 1 + ((bs m).2.2.2 - (ml - 7 + 1) + 1) = (bs m).2.2.2 - (bs m).2.2.1 + 1 by omega]
          omega
end STACK
