/-! ===== PURE: painting ===== -/
theorem fre_congr {cnt : Nat} {nearm a b : Int → Int} {p c : Nat} (h : Fre cnt nearm a p c) (hab : ∀ q : Nat, q < cnt → a q = b q) : Fre cnt nearm b p c := by
  refine ⟨fun q q1 q2 => by rw [← hab q q1]; exact h.1 q q1 q2, fun d hd => ?_⟩
  obtain ⟨q, q1, q2, q3⟩ := h.2 d hd
  exact ⟨q, q1, q2, by rw [← hab q q1]; exact q3⟩
theorem paint_loop {N cnt : Nat} (hN : 4000 ≤ N) (hc : 1 ≤ cnt ∧ cnt ≤ 49) {near : Int → BitVec 64} {nearm many : Int → Int} (hn : NM cnt near nearm many) {seqg seqm gone : Int → Int} (hs : ∀ i : Nat, i < cnt → seqg i = seqm i ∧ ∃ x : Nat, x < cnt ∧ seqm i = x) :
    ∀ (n k most : Nat) (used : BitVec 64) (given number : Int → Int), k ≤ cnt → 49 < n + k → (∀ q : Nat, q < cnt → given q = number q ∧ (given q = -1 ∨ (0 ≤ given q ∧ given q < k ∧ given q ≤ most))) → most ≤ k → (k = 0 → used = 0#64 ∧ most = 0) → (0 < k → ∀ c, used.getLsbD c = true ↔ c ≤ most) →
      ∃ (r : Int) (given' number' : Int → Int), f_co_paint_58 N seqg (cnt : Int) near n used (k : Int) given = some (r, seqg, given') ∧ f_mo_colourAll_91 N seqm gone (cnt : Int) nearm n (most : Int) (k : Int) number = some (r, seqm, gone, number') ∧ (1 ≤ r ∧ r ≤ 64) ∧ ∀ q : Nat, q < cnt → given' q = number' q := by
  intro n
  induction n with
  | zero => intro k most used given number hk hn2; omega
  | succ n ih =>
    intro k most used given number hk hn2 hg hmk h0 h1
    by_cases hend : k = cnt
    · have hu := h1 (by omega)
      have hpc : popc used = (most : Int) + 1 := by
        unfold popc
        rw [cntB_congr (q := fun c => decide (c < most + 1)) (fun c _ => by rw [Bool.eq_iff_iff, hu c, decide_eq_true_eq]; omega), cntB_tail (m := most + 1) 64 (by omega) (fun i h2 h3 => by simp; omega), cntB_congr (q := fun _ => true) (fun i hi => by simp; omega), cntB_true]
        omega
      refine ⟨(most : Int) + 1, given, number, ?_, ?_, by omega, fun q hq => (hg q hq).1⟩
      · rw [f_co_paint_58.eq_2, og_pos (by omega), og_pos (by omega), if_pos (by omega), hpc]
      · rw [f_mo_colourAll_91.eq_2, og_pos (by omega), og_pos (by omega), if_pos (by omega)]
    · obtain ⟨hs1, x, hx, hsx⟩ := hs k (by omega)
      have e1 : (k : Int) + 1 = ((k + 1 : Nat) : Int) := by omega
      have fr : ∀ q : Nat, q < cnt → nearm ((49 * x + q : Nat) : Int) = 1 → given q ≠ (k : Int) := fun q hq _ => by have := (hg q hq).2; omega
      obtain ⟨c, c1, c2, c3⟩ := co_smallestFree hN hc.2 hx hn (fun q hq => by have := (hg q hq).2; omega) (by omega : k < 60) fr
      obtain ⟨d, d1, d2, d3⟩ := mo_colourOne hN hc.2 hx hn.1 (number := number) (fun q hq => by have := hg q hq; have := this.1; omega) (by omega : k < 90) (fun q hq hh => by rw [← (hg q hq).1]; exact fr q hq hh)
      have hcd : c = d := free_uniq (fre_congr c3 (fun q hq => (hg q hq).1)) d3
      subst hcd
      have hcm : c ≤ most + 1 ∧ (k = 0 → c = 0) := by
        refine ⟨?_, fun hk0 => by omega⟩
        apply Classical.byContradiction
        intro hlt
        obtain ⟨q, q1, q2, q3⟩ := c3.2 (most + 1) (by omega)
        have := (hg q q1).2
        omega
      obtain ⟨most', hm1, hm2⟩ : ∃ m' : Nat, ((c ≤ most ∧ m' = most) ∨ (most < c ∧ m' = c)) ∧ m' ≤ k + 1 := by
        by_cases cc : c ≤ most
        · exact ⟨most, Or.inl ⟨cc, rfl⟩, by omega⟩
        · exact ⟨c, Or.inr ⟨by omega, rfl⟩, by omega⟩
      obtain ⟨r, g', n', r1, r2, r3, r4⟩ := ih (k + 1) most' (used ||| (1#64 <<< c)) (upi given x c) (upi number x c) (by omega) (by omega) (fun q hq => by
        by_cases hqx : q = x
        · subst hqx; rw [upi_s, upi_s]; exact ⟨rfl, Or.inr (by omega)⟩
        · rw [upi_n _ _ (by omega), upi_n _ _ (by omega)]
          have := hg q hq
          exact ⟨this.1, by have := this.2; omega⟩) hm2 (fun h => by omega) (fun _ b => by
        rw [gl_or, gl_one (by omega), Bool.or_eq_true, decide_eq_true_eq]
        by_cases hk0 : k = 0
        · rw [(h0 hk0).1, gl_zero]
          have := (h0 hk0).2
          have := hcm.2 hk0
          simp; omega
        · rw [h1 (by omega) b]; omega)
      refine ⟨r, g', n', ?_, ?_, r3, r4⟩
      · rw [f_co_paint_58.eq_2, og_pos (by omega), og_pos (by omega), if_neg (by omega), og_pos (by omega), bd_some, hs1, hsx, c2, bd_some, og_pos (by omega), bd_some, upi_s, og_pos (by omega), bd_some, bd_some, Int.toNat_natCast, e1]
        exact r1
      · rw [f_mo_colourAll_91.eq_2, og_pos (by omega), og_pos (by omega), if_neg (by omega), og_pos (by omega), hsx, d2, bd_some, og_pos (by omega), upi_s, og_pos (by omega), og_pos (by omega)]
        rcases hm1 with ⟨g1, g2⟩ | ⟨g1, g2⟩
        · rw [if_pos (by omega), bd_some, bd_some, ← g2, e1]
          exact r2
        · rw [if_neg (by omega), bd_some, bd_some, bd_some, ← g2, e1]
          rw [g2] at r2 ⊢
          exact r2
