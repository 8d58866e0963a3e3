/-! ===== PURE: the smallest free number ===== -/
/-- c is the least number that no near pane has -/
def Fre (cnt : Nat) (nearm number : Int → Int) (p c : Nat) : Prop := (∀ q : Nat, q < cnt → nearm ((49 * p + q : Nat) : Int) = 1 → number q ≠ c) ∧ ∀ d : Nat, d < c → ∃ q : Nat, q < cnt ∧ nearm ((49 * p + q : Nat) : Int) = 1 ∧ number q = d
theorem free_uniq {cnt : Nat} {nearm number : Int → Int} {p c d : Nat} (h1 : Fre cnt nearm number p c) (h2 : Fre cnt nearm number p d) : c = d := by
  rcases Nat.lt_trichotomy c d with h | h | h
  · obtain ⟨q, a, b, e⟩ := h2.2 c h
    exact absurd e (h1.1 q a b)
  · exact h
  · obtain ⟨q, a, b, e⟩ := h1.2 d h
    exact absurd e (h2.1 q a b)
theorem one_row {N cnt p c : Nat} (hc : cnt ≤ 49) (hp : p < cnt) {nearm number : Int → Int} (hn : ∀ a b : Nat, a < 49 → b < 49 → nearm ((49 * a + b : Nat) : Int) = 0 ∨ nearm ((49 * a + b : Nat) : Int) = 1) (hnum : ∀ q : Nat, q < cnt → xR (number q)) (hcx : c < 100) (k4 : Int → Int → Option (Int → Int)) :
    ∀ (n k : Nat), k ≤ cnt → 49 < n + k → (∀ q : Nat, q < k → nearm ((49 * p + q : Nat) : Int) = 1 → number q ≠ c) →
      ((∀ q : Nat, q < cnt → nearm ((49 * p + q : Nat) : Int) = 1 → number q ≠ c) ∧ f_mo_colourOne_13 N (p : Int) (c : Int) number (cnt : Int) nearm k4 n 0 (k : Int) = k4 (c : Int) 0) ∨ ((∃ q : Nat, q < cnt ∧ nearm ((49 * p + q : Nat) : Int) = 1 ∧ number q = c) ∧ f_mo_colourOne_13 N (p : Int) (c : Int) number (cnt : Int) nearm k4 n 0 (k : Int) = k4 ((c : Int) + 1) 1) := by
  intro n
  induction n with
  | zero => intro k hk hn2; omega
  | succ n ih =>
    intro k hk hn2 hno
    rw [f_mo_colourOne_13.eq_2, og_pos (by omega), og_pos (by omega)]
    by_cases hend : k = cnt
    · left
      refine ⟨fun q hq => hno q (by omega), ?_⟩
      rw [if_pos (by omega)]
      unfold f_mo_colourOne_64
      rw [og_pos (by omega), if_pos rfl, bd_some, bd_some, Int.add_zero]
    · have e1 : (k : Int) + 1 = ((k + 1 : Nat) : Int) := by omega
      have h1 := hn p k (by omega) (by omega)
      rw [if_neg (by omega), og_pos (by omega), if_pos rfl, show 49 * (p : Int) + (k : Int) = ((49 * p + k : Nat) : Int) by omega, og_pos (by omega), og_pos (by omega)]
      by_cases c1 : nearm ((49 * p + k : Nat) : Int) = 0
      · rw [if_pos c1, bd_some, bd_some]
        show (_ ∧ f_mo_colourOne_13 N (p : Int) (c : Int) number (cnt : Int) nearm k4 n 0 ((k : Int) + 1) = _) ∨ (_ ∧ f_mo_colourOne_13 N (p : Int) (c : Int) number (cnt : Int) nearm k4 n 0 ((k : Int) + 1) = _)
        rw [e1]
        exact ih (k + 1) (by omega) (by omega) (fun q hq hnq => by
          by_cases hqk : q = k
          · subst hqk; omega
          · exact hno q (by omega) hnq)
      · rw [if_neg c1, og_pos (by omega), og_pos (hnum k (by omega)), og_pos (by omega)]
        by_cases c2 : number (k : Int) = (c : Int)
        · right
          refine ⟨⟨k, by omega, by omega, c2⟩, ?_⟩
          rw [if_pos c2, bd_some, bd_some]
          show f_mo_colourOne_13 N (p : Int) (c : Int) number (cnt : Int) nearm k4 n 1 ((k : Int) + 1) = _
          obtain ⟨n, rfl⟩ : ∃ m, n = m + 1 := ⟨n - 1, by omega⟩
          rw [f_mo_colourOne_13.eq_2, og_pos (by omega), og_pos (by omega)]
          have hend2 : f_mo_colourOne_64 N (p : Int) number (cnt : Int) nearm k4 (c : Int) 1 = k4 ((c : Int) + 1) 1 := by
            unfold f_mo_colourOne_64
            rw [og_pos (by omega), if_neg (by omega), bd_some, bd_some]
          by_cases c3 : (cnt : Int) ≤ (k : Int) + 1
          · rw [if_pos c3, hend2]
          · rw [if_neg c3, og_pos (by omega), if_neg (by omega), hend2]
        · rw [if_neg c2, bd_some, bd_some]
          show (_ ∧ f_mo_colourOne_13 N (p : Int) (c : Int) number (cnt : Int) nearm k4 n 0 ((k : Int) + 1) = _) ∨ (_ ∧ f_mo_colourOne_13 N (p : Int) (c : Int) number (cnt : Int) nearm k4 n 0 ((k : Int) + 1) = _)
          rw [e1]
          exact ih (k + 1) (by omega) (by omega) (fun q hq hnq => by
            by_cases hqk : q = k
            · subst hqk; exact c2
            · exact hno q (by omega) hnq)
theorem one_loop {N cnt p e : Nat} (hN : 4000 ≤ N) (hc : cnt ≤ 49) (hp : p < cnt) {nearm number : Int → Int} (hn : ∀ a b : Nat, a < 49 → b < 49 → nearm ((49 * a + b : Nat) : Int) = 0 ∨ nearm ((49 * a + b : Nat) : Int) = 1) (hnum : ∀ q : Nat, q < cnt → xR (number q)) (he : e < 90) (hfree : ∀ q : Nat, q < cnt → nearm ((49 * p + q : Nat) : Int) = 1 → number q ≠ e) :
    ∀ (n c : Nat), c ≤ e → e + 2 ≤ n + c → (∀ d : Nat, d < c → ∃ q : Nat, q < cnt ∧ nearm ((49 * p + q : Nat) : Int) = 1 ∧ number q = d) → ∃ c' : Nat, c' ≤ e ∧ f_mo_colourOne_4 N (p : Int) number (cnt : Int) nearm n (c : Int) 1 = some (upi number (p : Int) (c' : Int)) ∧ Fre cnt nearm number p c' := by
  intro n
  induction n with
  | zero => intro c hce hn2; omega
  | succ n ih =>
    intro c hce hn2 hd
    rw [f_mo_colourOne_4.eq_2, og_pos (by omega), if_neg (by omega)]
    rcases one_row (N := N) hc hp hn hnum (c := c) (by omega) (f_mo_colourOne_4 N (p : Int) number (cnt : Int) nearm n) N 0 (by omega) (by omega) (fun q hq => by omega) with ⟨h1, h2⟩ | ⟨h1, h2⟩
    · have e0 : ((0 : Nat) : Int) = 0 := rfl
      rw [e0] at h2
      rw [h2]
      obtain ⟨n, rfl⟩ : ∃ m, n = m + 1 := ⟨n - 1, by omega⟩
      rw [f_mo_colourOne_4.eq_2, og_pos (by omega), if_pos rfl, og_pos (by omega), bd_some]
      exact ⟨c, hce, rfl, h1, hd⟩
    · have e0 : ((0 : Nat) : Int) = 0 := rfl
      rw [e0] at h2
      rw [h2, show (c : Int) + 1 = ((c + 1 : Nat) : Int) by omega]
      obtain ⟨q, q1, q2, q3⟩ := h1
      have hne : c ≠ e := fun he2 => hfree q q1 q2 (by rw [q3, he2])
      exact ih (c + 1) (by omega) (by omega) (fun d hdc => by
        by_cases hdd : d = c
        · subst hdd; exact ⟨q, q1, q2, q3⟩
        · exact hd d (by omega))
theorem mo_colourOne {N cnt p e : Nat} (hN : 4000 ≤ N) (hc : cnt ≤ 49) (hp : p < cnt) {nearm number : Int → Int} (hn : ∀ a b : Nat, a < 49 → b < 49 → nearm ((49 * a + b : Nat) : Int) = 0 ∨ nearm ((49 * a + b : Nat) : Int) = 1) (hnum : ∀ q : Nat, q < cnt → xR (number q)) (he : e < 90) (hfree : ∀ q : Nat, q < cnt → nearm ((49 * p + q : Nat) : Int) = 1 → number q ≠ e) : ∃ c' : Nat, c' ≤ e ∧ f_mo_colourOne N (p : Int) (cnt : Int) nearm number = some (upi number (p : Int) (c' : Int)) ∧ Fre cnt nearm number p c' :=
  one_loop hN hc hp hn hnum he hfree N 0 (by omega) (by omega) (fun d hd => by omega)
