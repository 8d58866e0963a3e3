/-! ===== PURE: the reference's neighbours ===== -/
/-- panes a and b meet at one of the first k pairs -/
def mt (R C : Nat) (pane : Int → Int) (k a b : Nat) : Prop := a ≠ b ∧ ∃ i, i < k ∧ vld R C i = true ∧ ((pane ((i % 49 : Nat) : Int) = a ∧ pane ((i % 49 + stp i : Nat) : Int) = b) ∨ (pane ((i % 49 : Nat) : Int) = b ∧ pane ((i % 49 + stp i : Nat) : Int) = a))
def NK (P : Nat → Nat → Prop) (near : Int → Int) : Prop := ∀ a b : Nat, a < 49 → b < 49 → (near ((49 * a + b : Nat) : Int) = 0 ∨ near ((49 * a + b : Nat) : Int) = 1) ∧ (near ((49 * a + b : Nat) : Int) = 1 ↔ P a b)
theorem NK.xr {P : Nat → Nat → Prop} {near : Int → Int} (h : NK P near) {a b : Nat} (ha : a < 49) (hb : b < 49) : xR (near ((49 * a + b : Nat) : Int)) := by
  have := (h a b ha hb).1
  omega
theorem mo_hasNext {N R C : Nat} {now : Int → Int} {jr jb : BitVec 64} (h : MD now R C jr jb) {k : Nat} (hk : k < 98) : f_mo_hasNext N ((k % 49 : Nat) : Int) ((k : Int) / 49) now = some (if (if k < 49 then k % 49 % 7 + 1 < C else k % 49 / 7 + 1 < R) then 1 else 0) := by
  obtain ⟨h0, h1, hb7, -⟩ := h
  unfold f_mo_hasNext
  rw [h0, h1, og_pos (by omega)]
  by_cases c : k < 49
  · simp only [if_pos c]
    rw [if_pos (by omega), og_pos (by omega), og_pos (by omega), og_pos (by omega)]
    by_cases c2 : k % 49 % 7 + 1 < C
    · rw [if_neg (by omega), if_pos c2]
    · rw [if_pos (by omega), if_neg c2]
  · simp only [if_neg c]
    rw [if_neg (by omega), og_pos (by omega), og_pos (by omega), og_pos (by omega)]
    by_cases c2 : k % 49 / 7 + 1 < R
    · rw [if_neg (by omega), if_pos c2]
    · rw [if_pos (by omega), if_neg c2]
theorem nk_put {R C : Nat} {pane near : Int → Int} {k : Nat} (h : NK (mt R C pane k) near) (hv : vld R C k = true) {a b : Nat} (ha : a < 49) (hb : b < 49) (hpa : pane ((k % 49 : Nat) : Int) = a) (hpb : pane ((k % 49 + stp k : Nat) : Int) = b) {e : Int} (he : (a = b ∧ e = 0) ∨ (a ≠ b ∧ e = 1)) : NK (mt R C pane (k + 1)) (upi (upi near ((49 * a + b : Nat) : Int) e) ((49 * b + a : Nat) : Int) e) := by
  intro x y hx hy
  have hold := h x y hx hy
  have hmt : mt R C pane (k + 1) x y ↔ mt R C pane k x y ∨ (x ≠ y ∧ ((x = a ∧ y = b) ∨ (x = b ∧ y = a))) := by
    unfold mt
    constructor
    · rintro ⟨hne, i, hi, hvi, hh⟩
      by_cases hik : i = k
      · subst hik
        right
        refine ⟨hne, ?_⟩
        rcases hh with ⟨h1, h2⟩ | ⟨h1, h2⟩
        · left; omega
        · right; omega
      · exact Or.inl ⟨hne, i, by omega, hvi, hh⟩
    · rintro (⟨hne, i, hi, hh⟩ | ⟨hne, hh⟩)
      · exact ⟨hne, i, by omega, hh⟩
      · refine ⟨hne, k, by omega, hv, ?_⟩
        rcases hh with ⟨h1, h2⟩ | ⟨h1, h2⟩
        · left; subst h1; subst h2; exact ⟨hpa, hpb⟩
        · right; subst h1; subst h2; exact ⟨hpa, hpb⟩
  rw [hmt]
  by_cases c1 : x = b ∧ y = a
  · obtain ⟨rfl, rfl⟩ := c1
    rw [upi_s]
    rcases he with ⟨h1, h2⟩ | ⟨h1, h2⟩
    · rw [h2]
      refine ⟨Or.inl rfl, ⟨fun hh => by omega, fun hh => ?_⟩⟩
      rcases hh with hh | hh
      · exact absurd h1.symm hh.1
      · exact absurd h1.symm hh.1
    · rw [h2]
      exact ⟨Or.inr rfl, ⟨fun _ => Or.inr ⟨fun e => h1 e.symm, Or.inr ⟨rfl, rfl⟩⟩, fun _ => rfl⟩⟩
  · have n1 : ((49 * x + y : Nat) : Int) ≠ ((49 * b + a : Nat) : Int) := by omega
    rw [upi_n _ _ n1]
    by_cases c2 : x = a ∧ y = b
    · obtain ⟨rfl, rfl⟩ := c2
      rw [upi_s]
      rcases he with ⟨h1, h2⟩ | ⟨h1, h2⟩
      · rw [h2]
        refine ⟨Or.inl rfl, ⟨fun hh => by omega, fun hh => ?_⟩⟩
        rcases hh with hh | hh
        · exact absurd h1 hh.1
        · exact absurd h1 hh.1
      · rw [h2]
        exact ⟨Or.inr rfl, ⟨fun _ => Or.inr ⟨h1, Or.inl ⟨rfl, rfl⟩⟩, fun _ => rfl⟩⟩
    · have n2 : ((49 * x + y : Nat) : Int) ≠ ((49 * a + b : Nat) : Int) := by omega
      rw [upi_n _ _ n2]
      refine ⟨hold.1, hold.2.trans ⟨Or.inl, fun hh => ?_⟩⟩
      rcases hh with hh | ⟨_, hh | hh⟩
      · exact hh
      · exact absurd hh c2
      · exact absurd hh c1
theorem near_pairs {N R C : Nat} {jr jb all : BitVec 64} {cnt : Nat} {cells : Int → BitVec 64} {now pane size : Int → Int} (h : PC R C jr jb all cnt cells now pane size) (t b l r p : Int) (q many : Int → Int) :
    ∀ (n k : Nat) (near : Int → Int), k ≤ 98 → 98 < n + k → NK (mt R C pane k) near → ∃ near', NK (mt R C pane 98) near' ∧ f_mo_findNear_30 N t b l r p q pane size many now n (cntB (ld R C pane) k) (k : Int) near = f_mo_findNear_165 N (cntB (ld R C pane) 98) t b l r p q pane size near' N 0 many := by
  have h49 := h.1
  have hb7 := h.2.1.2.2.1
  intro n
  induction n with
  | zero => intro k near hk hn; omega
  | succ n ih =>
    intro k near hk hn hK
    rw [f_mo_findNear_30.eq_2, og_pos (by omega)]
    by_cases hend : k = 98
    · subst hend
      rw [if_pos (by omega)]
      exact ⟨near, hK, rfl⟩
    · have e1 : (k : Int) + 1 = ((k + 1 : Nat) : Int) := by omega
      have e2 : (k : Int) % 49 = ((k % 49 : Nat) : Int) := by omega
      rw [if_neg (by omega), og_pos (by omega), bd_some, e2, og_pos (by omega), mo_isCell h.2.1 (by omega) (by omega), bd_some]
      have hskip : vld R C k = false → NK (mt R C pane (k + 1)) near ∧ cntB (ld R C pane) (k + 1) = cntB (ld R C pane) k := by
        intro hv
        refine ⟨fun x y hx hy => ⟨(hK x y hx hy).1, (hK x y hx hy).2.trans ?_⟩, ?_⟩
        · unfold mt
          constructor
          · rintro ⟨hne, i, hi, hh⟩; exact ⟨hne, i, by omega, hh⟩
          · rintro ⟨hne, i, hi, hh⟩
            refine ⟨hne, i, ?_, hh⟩
            have : i ≠ k := fun e => by rw [e, hv] at hh; cases hh.1
            omega
        · rw [cntB_s]; unfold ld; rw [hv]; simp
      by_cases c1 : 0 ≤ ((k % 49 : Nat) : Int) / 7 ∧ ((k % 49 : Nat) : Int) / 7 < R ∧ 0 ≤ ((k % 49 : Nat) : Int) % 7 ∧ ((k % 49 : Nat) : Int) % 7 < C
      · rw [if_pos c1, og_pos (by decide), if_neg (by decide), mo_hasNext h.2.1 (by omega), bd_some]
        by_cases c2 : (if k < 49 then k % 49 % 7 + 1 < C else k % 49 / 7 + 1 < R)
        · have hv : vld R C k = true := by
            unfold vld
            rw [decide_eq_true_eq]
            exact ⟨by omega, c2⟩
          obtain ⟨v1, v2, v3⟩ := vld_in (by omega) hv
          obtain ⟨pa, ha1, ha2, -⟩ := h.cell v1.1 v1.2
          obtain ⟨pb, hb1, hb2, -⟩ := h.cell v2.1 v2.2
          rw [if_pos c2, og_pos (by decide), if_neg (by decide), og_pos (by omega), bd_some, mo_step (by omega), bd_some]
          have e3 : ((k % 49 : Nat) : Int) + ((if k < 49 then 1 else 7 : Nat) : Int) = ((k % 49 + stp k : Nat) : Int) := by unfold stp; omega
          rw [e3, og_pos (by omega), bd_some, ha2, hb2, og_pos (by omega), og_pos (by omega)]
          obtain ⟨e, he, he2⟩ : ∃ e : Int, (if (pa : Int) = (pb : Int) then some (0 : Int) else some 1) = some e ∧ ((pa = pb ∧ e = 0) ∨ (pa ≠ pb ∧ e = 1)) := by
            by_cases c : pa = pb
            · exact ⟨0, by rw [if_pos (by omega)], Or.inl ⟨c, rfl⟩⟩
            · exact ⟨1, by rw [if_neg (by omega)], Or.inr ⟨c, rfl⟩⟩
          rw [he, bd_some, bd_some, bd_some, show 49 * (pa : Int) + (pb : Int) = ((49 * pa + pb : Nat) : Int) by omega, show 49 * (pb : Int) + (pa : Int) = ((49 * pb + pa : Nat) : Int) by omega, og_pos (by omega), og_pos (by omega), bd_some, bd_some, og_pos (by omega), og_pos (by omega), bd_some, bd_some, e1]
          have hcn : cntB (ld R C pane) (k + 1) = cntB (ld R C pane) k + e := by
            rw [cntB_s]
            unfold ld
            rw [hv, ha2, hb2]
            rcases he2 with ⟨g1, g2⟩ | ⟨g1, g2⟩
            · rw [g2, decide_eq_true (by omega)]; simp
            · rw [g2, decide_eq_false (by omega)]; simp
          rw [← hcn]
          exact ih (k + 1) _ (by omega) (by omega) (nk_put hK hv (by omega) (by omega) ha2 hb2 he2)
        · rw [if_neg c2, og_pos (by decide), if_pos rfl, bd_some, e1]
          obtain ⟨g1, g2⟩ := hskip (by unfold vld; rw [decide_eq_false_iff_not]; exact fun hh => c2 hh.2)
          rw [← g2]
          exact ih (k + 1) near (by omega) (by omega) g1
      · rw [if_neg c1, og_pos (by decide), if_pos rfl, bd_some, e1]
        obtain ⟨g1, g2⟩ := hskip (by unfold vld; rw [decide_eq_false_iff_not]; exact fun hh => c1 (by have := hh.1; omega))
        rw [← g2]
        exact ih (k + 1) near (by omega) (by omega) g1
