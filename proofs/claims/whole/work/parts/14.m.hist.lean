/-! ===== PURE: the history ===== -/
theorem RD.congr {rows cols : Int} {cr cb : BitVec 64} {cl kl : Int} {col col' now now' : Int → Int} {R C : Nat} (h : RD rows cols cr cb cl kl col now R C) (hc : ∀ j : Int, 0 ≤ j → j < 56 → col' j = col j) (hn : ∀ j : Int, 0 ≤ j → j < 151 → now' j = now j) : RD rows cols cr cb cl kl col' now' R C := by
  obtain ⟨h1, h2, h3, h4, h5, h6, h7, h8, h9, h10, h11, h12, h13⟩ := h
  refine ⟨h1, h2, ?_, ?_, h5, ?_, ?_, ?_, ?_, ?_, ?_, ?_, ?_⟩
  · rw [hn 0 (by decide) (by decide)]; exact h3
  · rw [hn 1 (by decide) (by decide)]; exact h4
  · rw [hn 2 (by decide) (by decide)]; exact h6
  · rw [hn 3 (by decide) (by decide)]; exact h7
  · intro j hj1 hj2
    rw [hn j hj1 hj2]; exact h8 j hj1 hj2
  · intro r c hr hk
    rw [hc _ (by omega) (by omega), hn _ (by omega) (by omega)]
    exact h9 r c hr hk
  · intro i
    rw [h10 i]
    constructor
    · rintro ⟨a, b, c⟩
      exact ⟨a, b, by rw [hn _ (by omega) (by omega)]; exact c⟩
    · rintro ⟨a, b, c⟩
      exact ⟨a, b, by rw [hn _ (by omega) (by omega)] at c; exact c⟩
  · intro i
    rw [h11 i]
    constructor
    · rintro ⟨a, b, c⟩
      exact ⟨a, b, by rw [hn _ (by omega) (by omega)]; exact c⟩
    · rintro ⟨a, b, c⟩
      exact ⟨a, b, by rw [hn _ (by omega) (by omega)] at c; exact c⟩
  · intro u hu
    rw [hn _ (by omega) (by omega)]
    exact h12 u hu
  · intro u hu
    rw [hn _ (by omega) (by omega)]
    exact h13 u hu
theorem save_52 {N e : Nat} (he : e < 8) (now : Int → Int) : ∀ (n k : Nat) (past : Int → Int), k ≤ 151 → 151 < n + k →
    ∃ past', f_mo_save_52 N (e : Int) now n (k : Int) past = some (((e + 1 : Nat) : Int), past') ∧ (∀ j : Int, 151 * (e : Int) + k ≤ j → j < 151 * (e : Int) + 151 → past' j = now (j - 151 * (e : Int))) ∧ ∀ j : Int, ¬ (151 * (e : Int) + k ≤ j ∧ j < 151 * (e : Int) + 151) → past' j = past j
  | 0, k, past, h1, h2 => by omega
  | n + 1, k, past, h1, h2 => by
    rw [f_mo_save_52.eq_2, og_pos (by omega)]
    by_cases hk : k = 151
    · rw [if_pos (by omega), bd_some]
      exact ⟨past, by rw [show (e : Int) + 1 = ((e + 1 : Nat) : Int) by omega], fun j a b => by omega, fun j _ => rfl⟩
    · rw [if_neg (by omega), og_pos (by omega), og_pos (by omega), bd_some, bd_some, show (k : Int) + 1 = ((k + 1 : Nat) : Int) by omega]
      obtain ⟨p', a1, a2, a3⟩ := save_52 he now n (k + 1) (upi past (151 * (e : Int) + k) (now k)) (by omega) (by omega)
      refine ⟨p', a1, ?_, ?_⟩
      · intro j b1 b2
        by_cases hj : j = 151 * (e : Int) + k
        · rw [a3 j (by omega), hj, upi_s]
          rw [show 151 * (e : Int) + k - 151 * (e : Int) = (k : Int) by omega]
        · exact a2 j (by omega) (by omega)
      · intro j b
        rw [a3 j (by omega), upi_n _ _ (by omega)]
theorem save_11 {N : Nat} (hN : 4000 ≤ N) (now : Int → Int) : ∀ (n k : Nat) (past : Int → Int), k ≤ 1057 → 1057 < n + k →
    ∃ past', f_mo_save_11 N 8 now n (k : Int) past = some (8, past') ∧ (∀ j : Int, (k : Int) ≤ j → j < 1057 → past' j = past (j + 151)) ∧ (∀ j : Int, j < k → past' j = past j) ∧ (∀ j : Int, 1057 ≤ j → j < 1208 → past' j = now (j - 1057))
  | 0, k, past, h1, h2 => by omega
  | n + 1, k, past, h1, h2 => by
    rw [f_mo_save_11.eq_2, og_pos (by omega)]
    by_cases hk : k = 1057
    · rw [if_pos (by omega), bd_some]
      obtain ⟨p', a1, a2, a3⟩ := save_52 (N := N) (e := 7) (by decide) now N 0 past (by omega) (by omega)
      refine ⟨p', a1, fun j b1 b2 => by omega, fun j b => a3 j (by omega), fun j b1 b2 => ?_⟩
      rw [a2 j (by omega) (by omega)]
      rfl
    · rw [if_neg (by omega), og_pos (by omega), og_pos (by omega), bd_some, bd_some, show (k : Int) + 1 = ((k + 1 : Nat) : Int) by omega]
      obtain ⟨p', a1, a2, a3, a4⟩ := save_11 hN now n (k + 1) (upi past (k : Int) (past ((k : Int) + 151))) (by omega) (by omega)
      refine ⟨p', a1, ?_, ?_, a4⟩
      · intro j b1 b2
        by_cases hj : j = k
        · rw [a3 j (by omega), hj, upi_s]
        · rw [a2 j (by omega) b2, upi_n _ _ (by omega)]
      · intro j b
        rw [a3 j (by omega), upi_n _ _ (by omega)]
def HR (next count : Int) (kr kc : Int → Int) (kcr kcb : Int → BitVec 64) (kcl kkl : Int → Int) (kcol : Int → Int → Int) (edits : Int) (past : Int → Int) : Prop :=
  (0 ≤ next ∧ next < 8) ∧ count = edits ∧ (0 ≤ edits ∧ edits ≤ 8) ∧ ∀ j : Int, 0 ≤ j → j < edits → ∃ R C : Nat, RD (kr ((next + 8 - edits + j) % 8)) (kc ((next + 8 - edits + j) % 8)) (kcr ((next + 8 - edits + j) % 8)) (kcb ((next + 8 - edits + j) % 8)) (kcl ((next + 8 - edits + j) % 8)) (kkl ((next + 8 - edits + j) % 8)) (kcol ((next + 8 - edits + j) % 8)) (fun i => past (151 * j + i)) R C
theorem hi_save {N : Nat} (hN : 4000 ≤ N) {next count : Int} {kr kc : Int → Int} {kcr kcb : Int → BitVec 64} {kcl kkl : Int → Int} {kcol : Int → Int → Int} {edits : Int} {past : Int → Int} (h : HR next count kr kc kcr kcb kcl kkl kcol edits past)
    {rows cols : Int} {cr cb : BitVec 64} {cl kl : Int} {col now : Int → Int} {R C : Nat} (hd : RD rows cols cr cb cl kl col now R C) :
    ∃ (next' count' : Int) (kr' kc' : Int → Int) (kcr' kcb' : Int → BitVec 64) (kcl' kkl' : Int → Int) (kcol' : Int → Int → Int) (edits' : Int) (past' : Int → Int),
      f_hi_remember N rows cols cr cb cl kl col next count kr kc kcr kcb kcl kkl kcol = some (next', count', kr', kc', kcr', kcb', kcl', kkl', kcol') ∧ f_mo_save N edits now past = some (edits', past') ∧ HR next' count' kr' kc' kcr' kcb' kcl' kkl' kcol' edits' past' := by
  obtain ⟨h1, rfl, h3, h4⟩ := h
  unfold f_hi_remember f_mo_save
  rw [og_pos (show 0 ≤ next ∧ next < 8 from h1), og_pos (show xR (count + 1) by omega), og_pos (show xR count by omega)]
  have key : ∀ past' : Int → Int, (∀ j i : Int, 0 ≤ j → j < min (count + 1) 8 - 1 → 0 ≤ i → i < 151 → past' (151 * j + i) = past (151 * (j + (count + 1 - min (count + 1) 8)) + i)) → (∀ i : Int, 0 ≤ i → i < 151 → past' (151 * (min (count + 1) 8 - 1) + i) = now i) →
      HR ((next + 1) % 8) (min (count + 1) 8) (upi kr next rows) (upi kc next cols) (upi kcr next cr) (upi kcb next cb) (upi kcl next cl) (upi kkl next kl) (upi kcol next (cpyi col (kcol next) 56)) (min (count + 1) 8) past' := by
    intro past' p1 p2
    refine ⟨by omega, rfl, by omega, ?_⟩
    intro j j1 j2
    by_cases hj : j = min (count + 1) 8 - 1
    · rw [show ((next + 1) % 8 + 8 - min (count + 1) 8 + j) % 8 = next by omega, upi_s, upi_s, upi_s, upi_s, upi_s, upi_s, upi_s]
      refine ⟨R, C, hd.congr ?_ ?_⟩
      · intro i i1 i2
        exact if_pos ⟨i1, i2⟩
      · intro i i1 i2
        show past' (151 * j + i) = now i
        rw [hj]; exact p2 i i1 i2
    · have e1 : ((next + 1) % 8 + 8 - min (count + 1) 8 + j) % 8 = (next + 8 - count + (j + (count + 1 - min (count + 1) 8))) % 8 := by omega
      have e2 : (next + 8 - count + (j + (count + 1 - min (count + 1) 8))) % 8 ≠ next := by omega
      rw [e1, upi_n _ _ e2, upi_n _ _ e2, upi_n _ _ e2, upi_n _ _ e2, upi_n _ _ e2, upi_n _ _ e2, upi_n _ _ e2]
      obtain ⟨R', C', hh⟩ := h4 (j + (count + 1 - min (count + 1) 8)) (by omega) (by omega)
      refine ⟨R', C', hh.congr (fun _ _ _ => rfl) ?_⟩
      intro i i1 i2
      exact p1 j i j1 (by omega) i1 i2
  by_cases h8 : count = 8
  · rw [if_pos h8]
    obtain ⟨p', a1, a2, a3, a4⟩ := save_11 (N := N) hN now N 0 past (by omega) (by omega)
    refine ⟨_, _, _, _, _, _, _, _, _, _, _, rfl, by rw [h8]; exact a1, ?_⟩
    have e : min (count + 1) 8 = 8 := by omega
    have := key p' ?_ ?_
    · rw [e] at this ⊢; exact this
    · intro j i j1 j2 i1 i2
      rw [e] at j2 ⊢
      rw [a2 _ (by omega) (by omega), h8]
      congr 1; omega
    · intro i i1 i2
      rw [e]
      rw [a4 _ (by omega) (by omega)]
      congr 1; omega
  · rw [if_neg h8]
    obtain ⟨e, rfl⟩ : ∃ e : Nat, count = e := ⟨count.toNat, by omega⟩
    obtain ⟨p', a1, a2, a3⟩ := save_52 (N := N) (e := e) (by omega) now N 0 past (by omega) (by omega)
    refine ⟨_, _, _, _, _, _, _, _, _, _, _, rfl, a1, ?_⟩
    have e1 : min ((e : Int) + 1) 8 = (e : Int) + 1 := by omega
    have := key p' ?_ ?_
    · rw [e1] at this ⊢
      rw [show ((e + 1 : Nat) : Int) = (e : Int) + 1 by omega]; exact this
    · intro j i j1 j2 i1 i2
      rw [e1] at j2 ⊢
      rw [a3 _ (by omega)]
      congr 1; omega
    · intro i i1 i2
      rw [e1]
      rw [a2 _ (by omega) (by omega)]
      congr 1; omega
theorem undo_22 {N e : Nat} (he : e < 8) (past : Int → Int) : ∀ (n k : Nat) (now : Int → Int), k ≤ 151 → 151 < n + k →
    ∃ now', f_mo_undo_22 N (e : Int) past n (k : Int) now = some ((e : Int), (e : Int), now') ∧ (∀ j : Int, (k : Int) ≤ j → j < 151 → now' j = past (151 * (e : Int) + j)) ∧ ∀ j : Int, j < k → now' j = now j
  | 0, k, now, h1, h2 => by omega
  | n + 1, k, now, h1, h2 => by
    rw [f_mo_undo_22.eq_2, og_pos (by omega)]
    by_cases hk : k = 151
    · rw [if_pos (by omega)]
      exact ⟨now, rfl, fun j a b => by omega, fun j _ => rfl⟩
    · rw [if_neg (by omega), og_pos (by omega), og_pos (by omega), bd_some, bd_some, show (k : Int) + 1 = ((k + 1 : Nat) : Int) by omega]
      obtain ⟨p', a1, a2, a3⟩ := undo_22 he past n (k + 1) (upi now (k : Int) (past (151 * (e : Int) + k))) (by omega) (by omega)
      refine ⟨p', a1, ?_, ?_⟩
      · intro j b1 b2
        by_cases hj : j = k
        · rw [a3 j (by omega), hj, upi_s]
        · exact a2 j (by omega) (by omega)
      · intro j b
        rw [a3 j (by omega), upi_n _ _ (by omega)]
theorem hi_undo {N : Nat} (hN : 4000 ≤ N) {next count : Int} {kr kc : Int → Int} {kcr kcb : Int → BitVec 64} {kcl kkl : Int → Int} {kcol : Int → Int → Int} {edits : Int} {past : Int → Int} (h : HR next count kr kc kcr kcb kcl kkl kcol edits past) (h0 : ¬ edits = 0)
    (rows cols : Int) (cr cb : BitVec 64) (cl kl : Int) (col now : Int → Int) :
    ∃ rows' cols' cr' cb' cl' kl' col' next' count' now', ∃ R C : Nat,
      f_hi_restore N rows cols cr cb cl kl col next count kr kc kcr kcb kcl kkl kcol = some (rows', cols', cr', cb', cl', kl', col', next', count') ∧ f_mo_undo N edits now past = some (count', count', now') ∧ HR next' count' kr kc kcr kcb kcl kkl kcol count' past ∧ RD rows' cols' cr' cb' cl' kl' col' now' R C ∧ 0 ≤ count' := by
  obtain ⟨h1, rfl, h3, h4⟩ := h
  unfold f_hi_restore f_mo_undo
  rw [og_pos (show 0 ≤ next + 8 - 1 ∧ next + 8 - 1 < 2147483648 by omega), og_pos (show xR count by omega), if_neg h0, bd_some]
  obtain ⟨e, he⟩ : ∃ e : Nat, count - 1 = e := ⟨(count - 1).toNat, by omega⟩
  obtain ⟨now', a1, a2, -⟩ := undo_22 (N := N) (e := e) (by omega) past N 0 now (by omega) (by omega)
  obtain ⟨R, C, hr⟩ := h4 (count - 1) (by omega) (by omega)
  rw [show (next + 8 - count + (count - 1)) % 8 = (next + 8 - 1) % 8 by congr 1; omega] at hr
  refine ⟨_, _, _, _, _, _, _, _, _, now', R, C, rfl, by rw [he]; exact a1, ⟨by omega, rfl, by omega, ?_⟩, hr.congr ?_ ?_, by omega⟩
  · intro j j1 j2
    rw [show ((next + 8 - 1) % 8 + 8 - (count - 1) + j) % 8 = (next + 8 - count + j) % 8 by omega]
    exact h4 j j1 (by omega)
  · intro i i1 i2
    exact if_pos ⟨i1, i2⟩
  · intro i i1 i2
    show now' i = past (151 * (count - 1) + i)
    rw [he]; exact a2 i (by omega) i2
