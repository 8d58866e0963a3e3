/-! ===== PURE: the smallest free number, the component ===== -/
theorem gl_out {x : BitVec 64} {i : Nat} (h : i < 64) : (x ^^^ 18446744073709551615#64).getLsbD i = true ↔ x.getLsbD i = false := by
  rw [gl_not _ h]; simp
theorem free_loop {N cnt p e : Nat} (hc : cnt ≤ 49) (hp : p < cnt) {near : Int → BitVec 64} {nearm many given : Int → Int} (hn : NM cnt near nearm many) (hnum : ∀ q : Nat, q < cnt → given q = -1 ∨ (0 ≤ given q ∧ given q < 60)) (he : e < 60) (hfree : ∀ q : Nat, q < cnt → nearm ((49 * p + q : Nat) : Int) = 1 → given q ≠ e) :
    ∀ (n k : Nat) (used : BitVec 64), k ≤ cnt → 49 < n + k → (∀ c, used.getLsbD c = true ↔ ∃ q : Nat, q < k ∧ nearm ((49 * p + q : Nat) : Int) = 1 ∧ given q = c) → ∃ c : Nat, c ≤ e ∧ f_co_smallestFree_5 N (p : Int) (cnt : Int) near given n used (k : Int) = some (c : Int) ∧ Fre cnt nearm given p c := by
  intro n
  induction n with
  | zero => intro k used hk hn2; omega
  | succ n ih =>
    intro k used hk hn2 hu
    rw [f_co_smallestFree_5.eq_2, og_pos (by omega), og_pos (by omega)]
    by_cases hend : k = cnt
    · rw [if_pos (by omega)]
      subst hend
      have hue : used.getLsbD e = false := by
        cases hx : used.getLsbD e with
        | false => rfl
        | true =>
          obtain ⟨q, q1, q2, q3⟩ := (hu e).mp hx
          exact absurd q3 (hfree q q1 q2)
      have hne : ¬ (used ^^^ 18446744073709551615#64) = 0#64 := gl_ne.mpr ⟨e, by omega, (gl_out (by omega)).mpr hue⟩
      obtain ⟨c, hc64, hf⟩ := isF_ex hne
      have hce : c ≤ e := by
        apply Classical.byContradiction
        intro hlt
        have := hf.2 e (by omega)
        rw [(gl_out (by omega)).mpr hue] at this
        cases this
      refine ⟨c, hce, ?_, ?_, ?_⟩
      · unfold f_ce_numberOfFirst
        rw [f_first hf, bd_some, popc_mask hc64, bd_some]
      · intro q q1 q2 q3
        have h1 := (hu c).mpr ⟨q, q1, q2, q3⟩
        rw [(gl_out hc64).mp hf.1] at h1
        cases h1
      · intro d hd
        have h1 := hf.2 d hd
        have h2 : used.getLsbD d = true := by
          cases hx : used.getLsbD d with
          | true => rfl
          | false => rw [(gl_out (by omega)).mpr hx] at h1; cases h1
        exact (hu d).mp h2
    · have e1 : (k : Int) + 1 = ((k + 1 : Nat) : Int) := by omega
      have hbit := hn.2.1 p k hp (by omega)
      have hg := hnum k (by omega)
      have hgx : xR (given (k : Int)) := by omega
      rw [if_neg (by omega), og_pos (by omega), og_pos (by omega), Int.toNat_natCast]
      have hsame : (¬ ∃ c : Nat, nearm ((49 * p + k : Nat) : Int) = 1 ∧ given (k : Int) = c) → ∀ c, used.getLsbD c = true ↔ ∃ q : Nat, q < k + 1 ∧ nearm ((49 * p + q : Nat) : Int) = 1 ∧ given q = c := fun hno c => by
        rw [hu c]
        constructor
        · rintro ⟨q, q1, q2⟩; exact ⟨q, by omega, q2⟩
        · rintro ⟨q, q1, q2⟩
          refine ⟨q, ?_, q2⟩
          have : q ≠ k := fun e => hno ⟨c, by rw [← e]; exact q2.1, by rw [← e]; exact q2.2⟩
          omega
      by_cases hb : (near p).getLsbD k = true
      · have hone : nearm ((49 * p + k : Nat) : Int) = 1 := by rw [hb] at hbit; exact of_decide_eq_true hbit.symm
        rw [if_neg (fun h2 => by rw [gl_and_one (by omega)] at h2; rw [h2] at hb; cases hb), bd_some, og_pos (by decide), if_neg (by decide), og_pos (by omega), og_pos hgx]
        by_cases c1 : given (k : Int) = -1
        · rw [if_pos c1, bd_some, bd_some]
          show ∃ c : Nat, c ≤ e ∧ f_co_smallestFree_5 N (p : Int) (cnt : Int) near given n used ((k : Int) + 1) = some (c : Int) ∧ _
          rw [e1]
          exact ih (k + 1) used (by omega) (by omega) (hsame (fun ⟨c, _, hh⟩ => by omega))
        · obtain ⟨g, hgg⟩ : ∃ g : Nat, given (k : Int) = g := ⟨(given (k : Int)).toNat, by omega⟩
          rw [if_neg c1, og_pos (by omega), bd_some, bd_some, bd_some, hgg, Int.toNat_natCast]
          show ∃ c : Nat, c ≤ e ∧ f_co_smallestFree_5 N (p : Int) (cnt : Int) near given n (used ||| (1#64 <<< g)) ((k : Int) + 1) = some (c : Int) ∧ _
          rw [e1]
          refine ih (k + 1) _ (by omega) (by omega) (fun c => ?_)
          rw [gl_or, gl_one (by omega), Bool.or_eq_true, hu c, decide_eq_true_eq]
          constructor
          · rintro (⟨q, q1, q2⟩ | h)
            · exact ⟨q, by omega, q2⟩
            · exact ⟨k, by omega, hone, by omega⟩
          · rintro ⟨q, q1, q2, q3⟩
            by_cases hqk : q = k
            · subst hqk; right; omega
            · exact Or.inl ⟨q, by omega, q2, q3⟩
      · have hzero : ¬ nearm ((49 * p + k : Nat) : Int) = 1 := fun ee => hb (by rw [hbit]; exact decide_eq_true ee)
        rw [if_pos (by rw [gl_and_one (by omega)]; simpa using hb), bd_some, og_pos (by decide), if_pos rfl, bd_some, bd_some]
        show ∃ c : Nat, c ≤ e ∧ f_co_smallestFree_5 N (p : Int) (cnt : Int) near given n used ((k : Int) + 1) = some (c : Int) ∧ _
        rw [e1]
        exact ih (k + 1) used (by omega) (by omega) (hsame (fun ⟨c, hh, _⟩ => hzero hh))
theorem co_smallestFree {N cnt p e : Nat} (hN : 4000 ≤ N) (hc : cnt ≤ 49) (hp : p < cnt) {near : Int → BitVec 64} {nearm many given : Int → Int} (hn : NM cnt near nearm many) (hnum : ∀ q : Nat, q < cnt → given q = -1 ∨ (0 ≤ given q ∧ given q < 60)) (he : e < 60) (hfree : ∀ q : Nat, q < cnt → nearm ((49 * p + q : Nat) : Int) = 1 → given q ≠ e) : ∃ c : Nat, c ≤ e ∧ f_co_smallestFree N (p : Int) (cnt : Int) near given = some (c : Int) ∧ Fre cnt nearm given p c :=
  free_loop hc hp hn hnum he hfree N 0 0#64 (by omega) (by omega) (fun c => by rw [gl_zero]; exact ⟨fun h => (by cases h), fun ⟨q, hq, _⟩ => (by omega)⟩)
