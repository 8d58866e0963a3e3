/-! ===== PURE: colouring of both sides ===== -/
theorem paint_clear {N cnt : Nat} (hc : cnt ≤ 49) {near : Int → BitVec 64} {seq : Int → Int} :
    ∀ (n k : Nat) (given : Int → Int), k ≤ cnt → 49 < n + k → (∀ q : Nat, q < k → given q = -1) → ∃ given0 : Int → Int, (∀ q : Nat, q < cnt → given0 q = -1) ∧ f_co_paint_29 N seq (cnt : Int) near n (k : Int) given = f_co_paint_58 N seq (cnt : Int) near N 0#64 0 given0 := by
  intro n
  induction n with
  | zero => intro k given hk hn; omega
  | succ n ih =>
    intro k given hk hn h0
    rw [f_co_paint_29.eq_2, og_pos (by omega), og_pos (by omega)]
    by_cases hend : k = cnt
    · rw [if_pos (by omega)]
      exact ⟨given, fun q hq => h0 q (by omega), rfl⟩
    · rw [if_neg (by omega), og_pos (by omega), bd_some, bd_some, show (k : Int) + 1 = ((k + 1 : Nat) : Int) by omega]
      refine ih (k + 1) _ (by omega) (by omega) (fun q hq => ?_)
      by_cases hqk : q = k
      · subst hqk; exact upi_s _ _ _
      · rw [upi_n _ _ (by omega)]; exact h0 q (by omega)
theorem all_clear {N cnt : Nat} (hc : cnt ≤ 49) (o : Int) {seq nearm many : Int → Int} :
    ∀ (n k : Nat) (gone number : Int → Int), k ≤ cnt → 49 < n + k → (∀ q : Nat, q < k → gone q = 0 ∧ number q = -1) → ∃ gone0 number0 : Int → Int, (∀ q : Nat, q < cnt → gone0 q = 0 ∧ number0 q = -1) ∧ f_mo_colourAll_2 N o seq (cnt : Int) nearm many n (k : Int) gone number = f_mo_colourAll_32 N o number0 (cnt : Int) nearm many N 0 seq gone0 := by
  intro n
  induction n with
  | zero => intro k gone number hk hn; omega
  | succ n ih =>
    intro k gone number hk hn h0
    rw [f_mo_colourAll_2.eq_2, og_pos (by omega), og_pos (by omega)]
    by_cases hend : k = cnt
    · rw [if_pos (by omega)]
      exact ⟨gone, number, fun q hq => h0 q (by omega), rfl⟩
    · rw [if_neg (by omega), og_pos (by omega), bd_some, bd_some, bd_some, show (k : Int) + 1 = ((k + 1 : Nat) : Int) by omega]
      refine ih (k + 1) _ _ (by omega) (by omega) (fun q hq => ?_)
      by_cases hqk : q = k
      · subst hqk; exact ⟨upi_s _ _ _, upi_s _ _ _⟩
      · rw [upi_n _ _ (by omega), upi_n _ _ (by omega)]; exact h0 q (by omega)
