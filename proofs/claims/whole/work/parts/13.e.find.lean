/-! ===== PURE: the component's block and joined pairs ===== -/
theorem ce_number {N : Nat} (r c : Int) : f_ce_number N r c = some (r * 8 + c) := rfl
theorem ce_only {N r c : Nat} (hr : r < 7) (hc : c < 8) : f_ce_only N (r : Int) (c : Int) = some (1#64 <<< (8 * r + c)) := by
  unfold f_ce_only
  rw [ce_number, bd_some, og_pos (by omega)]
  congr 2
  omega
theorem ce_block_loop {N : Nat} {b : Nat} (hb : b < 7) (line : BitVec 64) : ∀ (n t : Nat) (x : BitVec 64), t ≤ b + 1 → b + 1 < n + t →
    ∃ y, f_ce_block_19 N (b : Int) line n x (t : Int) = some y ∧ ∀ i, y.getLsbD i = true ↔ (x.getLsbD i = true ∨ ∃ r, t ≤ r ∧ r ≤ b ∧ i < 64 ∧ 8 * r ≤ i ∧ line.getLsbD (i - 8 * r) = true) := by
  intro n
  induction n with
  | zero => intro t x h1 h2; omega
  | succ n ih =>
    intro t x h1 h2
    rw [f_ce_block_19.eq_2, og_pos (by omega), og_pos (by omega)]
    by_cases h : t = b + 1
    · rw [if_pos (by omega)]
      exact ⟨x, rfl, fun i => ⟨Or.inl, fun h3 => h3.elim id (fun ⟨r, h4, h5, _⟩ => by omega)⟩⟩
    · rw [if_neg (by omega), og_pos (by omega), bd_some, bd_some]
      have e1 : (t : Int) + 1 = ((t + 1 : Nat) : Int) := by omega
      have e2 : ((t : Int) * 8).toNat = 8 * t := by omega
      rw [e1, e2]
      obtain ⟨y, hy1, hy2⟩ := ih (t + 1) (x ||| (line <<< (8 * t))) (by omega) (by omega)
      refine ⟨y, hy1, fun i => ?_⟩
      rw [hy2 i, gl_or, gl_shl]
      simp only [Bool.or_eq_true, Bool.and_eq_true, decide_eq_true_eq]
      constructor
      · rintro ((h3 | ⟨h3, h4, h5⟩) | ⟨r, h3, h4, h5⟩)
        · exact Or.inl h3
        · exact Or.inr ⟨t, Nat.le_refl _, by omega, h3, h4, h5⟩
        · exact Or.inr ⟨r, by omega, h4, h5⟩
      · rintro (h3 | ⟨r, h3, h4, h5, h6, h7⟩)
        · exact Or.inl (Or.inl h3)
        · by_cases hrt : r = t
          · subst hrt
            exact Or.inl (Or.inr ⟨h5, h6, h7⟩)
          · exact Or.inr ⟨r, by omega, h4, h5, h6, h7⟩
/-- the rectangle of rows t to b and columns l to r -/
theorem ce_block {N : Nat} (hN : 4000 ≤ N) {t b l r : Nat} (hb : b < 7) (htb : t ≤ b) (hr : r < 7) (hlr : l ≤ r) : ∃ y, f_ce_block N (t : Int) (b : Int) (l : Int) (r : Int) = some y ∧ ∀ i, y.getLsbD i = true ↔ t ≤ i / 8 ∧ i / 8 ≤ b ∧ l ≤ i % 8 ∧ i % 8 ≤ r := by
  unfold f_ce_block
  rw [og_pos (by omega), og_pos (by omega), bd_some]
  have e1 : ((r : Int) - l + 1).toNat = r - l + 1 := by omega
  have e2 : ((l : Int)).toNat = l := by omega
  rw [e1, e2]
  obtain ⟨y, hy1, hy2⟩ := ce_block_loop (N := N) hb (((1#64 <<< (r - l + 1)) - 1#64) <<< l) N t 0#64 (by omega) (by omega)
  refine ⟨y, hy1, fun i => ?_⟩
  rw [hy2 i]
  have hl : ∀ j, (((1#64 <<< (r - l + 1)) - 1#64) <<< l).getLsbD j = true ↔ l ≤ j ∧ j ≤ r := by
    intro j
    rw [gl_shl]
    by_cases hj : j < 64
    · have := gl_mask ⟨r - l + 1, by omega⟩ ⟨j - l, by omega⟩
      simp only at this
      rw [this]
      simp [hj]
      omega
    · simp [hj]; omega
  constructor
  · rintro (h | ⟨r', h1, h2, h3, h4, h5⟩)
    · rw [gl_zero] at h; cases h
    · have := (hl _).mp h5
      omega
  · rintro ⟨h1, h2, h3, h4⟩
    exact Or.inr ⟨i / 8, h1, h2, by omega, by omega, (hl _).mpr (by omega)⟩
/-- the component's drawing is the reference's -/
def RD (rows cols : Int) (cr cb : BitVec 64) (cl kl : Int) (col now : Int → Int) (R C : Nat) : Prop :=
  rows = R ∧ cols = C ∧ now 0 = R ∧ now 1 = C ∧ (1 ≤ R ∧ R ≤ 7 ∧ 1 ≤ C ∧ C ≤ 7) ∧ (cl = now 2 ∧ 1 ≤ cl ∧ cl ≤ 49) ∧ (kl = now 3 ∧ 0 ≤ kl ∧ kl ≤ 8) ∧
  (∀ j : Int, 0 ≤ j → j < 151 → 0 ≤ now j ∧ now j ≤ 49) ∧
  (∀ r c : Nat, r < R → c < C → col ((8 * r + c : Nat) : Int) = now ((4 + 7 * r + c : Nat) : Int) ∧ 0 ≤ now ((4 + 7 * r + c : Nat) : Int) ∧ now ((4 + 7 * r + c : Nat) : Int) ≤ 5) ∧
  (∀ i, cr.getLsbD i = true ↔ i / 8 < R ∧ i % 8 + 1 < C ∧ now ((53 + 7 * (i / 8) + i % 8 : Nat) : Int) = 1) ∧
  (∀ i, cb.getLsbD i = true ↔ i / 8 + 1 < R ∧ i % 8 < C ∧ now ((102 + 7 * (i / 8) + i % 8 : Nat) : Int) = 1) ∧
  (∀ u : Nat, u < 49 → now ((53 + u : Nat) : Int) = 0 ∨ (now ((53 + u : Nat) : Int) = 1 ∧ u / 7 < R ∧ u % 7 + 1 < C)) ∧
  (∀ u : Nat, u < 49 → now ((102 + u : Nat) : Int) = 0 ∨ (now ((102 + u : Nat) : Int) = 1 ∧ u / 7 + 1 < R ∧ u % 7 < C))
theorem dr_hasCell {N R C : Nat} {r c : Int} (hr : xR r) (hc : xR c) (hb : R ≤ 7 ∧ C ≤ 7) : f_dr_hasCell N r c (R : Int) (C : Int) = some (if 0 ≤ r ∧ r < R ∧ 0 ≤ c ∧ c < C then 1 else 0) := by
  unfold f_dr_hasCell
  rw [og_pos hr]
  by_cases h1 : r < 0
  · rw [if_pos h1, if_neg (by omega)]
  · rw [if_neg h1, og_pos (by omega)]
    by_cases h2 : (R : Int) ≤ r
    · rw [if_pos h2, if_neg (by omega)]
    · rw [if_neg h2, og_pos hc]
      by_cases h3 : c < 0
      · rw [if_pos h3, if_neg (by omega)]
      · rw [if_neg h3, og_pos (by omega)]
        by_cases h4 : (C : Int) ≤ c
        · rw [if_pos h4, if_neg (by omega)]
        · rw [if_neg h4, if_pos (by omega)]
theorem dr_hasPair {N R C : Nat} {r c d : Int} (hr : xR r) (hc : xR c) (hd : xR d) (hb : R ≤ 7 ∧ C ≤ 7) : f_dr_hasPair N r c d (R : Int) (C : Int) = some (if (0 ≤ r ∧ r < R ∧ 0 ≤ c ∧ c < C) ∧ ((d = 0 ∧ c + 1 < C) ∨ (d = 1 ∧ r + 1 < R)) then 1 else 0) := by
  unfold f_dr_hasPair
  rw [dr_hasCell hr hc hb, bd_some]
  by_cases h1 : 0 ≤ r ∧ r < R ∧ 0 ≤ c ∧ c < C
  · rw [if_pos h1, og_pos (by decide), if_neg (by decide), og_pos hd]
    by_cases h2 : d = 0
    · rw [if_pos h2, og_pos (by omega), og_pos (by omega)]
      by_cases h3 : (C : Int) ≤ c + 1
      · rw [if_pos h3, if_neg (by omega)]
      · rw [if_neg h3, if_pos (by omega)]
    · rw [if_neg h2]
      by_cases h3 : d = 1
      · rw [if_pos h3, og_pos (by omega), og_pos (by omega)]
        by_cases h4 : (R : Int) ≤ r + 1
        · rw [if_pos h4, if_neg (by omega)]
        · rw [if_neg h4, if_pos (by omega)]
      · rw [if_neg h3, if_neg (by omega)]
  · rw [if_neg h1, og_pos (by decide), if_pos rfl, if_neg (fun h => h1 h.1)]
theorem gl_and_one {x : BitVec 64} {k : Nat} (hk : k < 64) : (x &&& (1#64 <<< k)) = 0#64 ↔ x.getLsbD k = false := by
  constructor
  · intro h
    have := congrArg (fun z => z.getLsbD k) h
    simp only [gl_and, gl_one hk, gl_zero] at this
    simpa using this
  · intro h
    apply gl_ext
    intro i hi
    rw [gl_and, gl_one hk, gl_zero]
    by_cases hik : i = k
    · rw [hik, h]; rfl
    · simp [hik]
theorem dr_hasCut {N r c : Nat} {d : Int} (hr : r < 7) (hc : c < 8) (hd : xR d) (cr cb : BitVec 64) : f_dr_hasCut N (r : Int) (c : Int) d cr cb = some (if (if d = 0 then cr else cb).getLsbD (8 * r + c) = true then 1 else 0) := by
  unfold f_dr_hasCut
  rw [og_pos hd, ce_only hr hc]
  by_cases h : d = 0
  · rw [if_pos h, if_pos h, bd_some, bd_some]
    by_cases hx : cr.getLsbD (8 * r + c) = true
    · rw [if_pos hx, if_neg (fun h2 => by rw [gl_and_one (by omega)] at h2; rw [h2] at hx; cases hx)]
    · rw [if_neg hx, if_pos ((gl_and_one (by omega)).mpr (by simpa using hx))]
  · rw [if_neg h, if_neg h, bd_some, bd_some]
    by_cases hx : cb.getLsbD (8 * r + c) = true
    · rw [if_pos hx, if_neg (fun h2 => by rw [gl_and_one (by omega)] at h2; rw [h2] at hx; cases hx)]
    · rw [if_neg hx, if_pos ((gl_and_one (by omega)).mpr (by simpa using hx))]
/-- what a pair of the side d with the step st says of its two cells: jj, over the pairs that are there, pp -/
def JP (N R C : Nat) (d : Int) (st : Nat) (col : Int → Int) (pp jj : Nat → Nat → Bool) (r c : Nat) : Prop :=
  f_dr_hasPair N (r : Int) (c : Int) d (R : Int) (C : Int) = some (if pp r c = true then 1 else 0) ∧
  (pp r c = true → 8 * r + c + st < 56 ∧ xR (col ((8 * r + c : Nat) : Int)) ∧ xR (col ((8 * r + c + st : Nat) : Int)) ∧ (jj r c = true ↔ col ((8 * r + c : Nat) : Int) = col ((8 * r + c + st : Nat) : Int))) ∧
  (¬ pp r c = true → ¬ jj r c = true)
theorem jp_0 {N R C : Nat} {rows cols cl kl : Int} {cr cb : BitVec 64} {col now : Int → Int} (h : RD rows cols cr cb cl kl col now R C) {r c : Nat} (hr : r < R) (hc : c < C) : JP N R C 0 1 col (fun _ c => decide (c + 1 < C)) (fun r c => decide (c + 1 < C ∧ now ((4 + 7 * r + c : Nat) : Int) = now ((4 + 7 * r + c + 1 : Nat) : Int))) r c := by
  obtain ⟨-, -, -, -, hb, -, -, hv, hcol, -⟩ := h
  refine ⟨?_, fun h1 => ?_, fun h1 h2 => ?_⟩
  · rw [dr_hasPair (by omega) (by omega) x_R0 (by omega)]
    by_cases h1 : c + 1 < C
    · rw [if_pos (by omega), if_pos (decide_eq_true h1)]
    · rw [if_neg (by omega), if_neg (fun h2 => h1 (of_decide_eq_true h2))]
  · have h2 := of_decide_eq_true h1
    have c1 := hcol r c hr hc
    have c2 := hcol r (c + 1) hr h2
    rw [show 8 * r + (c + 1) = 8 * r + c + 1 by omega, show 4 + 7 * r + (c + 1) = 4 + 7 * r + c + 1 by omega] at c2
    rw [c1.1, c2.1]
    refine ⟨by omega, by omega, by omega, ?_⟩
    rw [decide_eq_true_eq]
    exact ⟨fun h3 => h3.2, fun h3 => ⟨h2, h3⟩⟩
  · exact h1 (decide_eq_true (of_decide_eq_true h2).1)
theorem jp_1 {N R C : Nat} {rows cols cl kl : Int} {cr cb : BitVec 64} {col now : Int → Int} (h : RD rows cols cr cb cl kl col now R C) {r c : Nat} (hr : r < R) (hc : c < C) : JP N R C 1 8 col (fun r _ => decide (r + 1 < R)) (fun r c => decide (r + 1 < R ∧ now ((4 + 7 * r + c : Nat) : Int) = now ((4 + 7 * r + c + 7 : Nat) : Int))) r c := by
  obtain ⟨-, -, -, -, hb, -, -, hv, hcol, -⟩ := h
  refine ⟨?_, fun h1 => ?_, fun h1 h2 => ?_⟩
  · rw [dr_hasPair (by omega) (by omega) (show xR (1 : Int) by decide) (by omega)]
    by_cases h1 : r + 1 < R
    · rw [if_pos (by omega), if_pos (decide_eq_true h1)]
    · rw [if_neg (by omega), if_neg (fun h2 => h1 (of_decide_eq_true h2))]
  · have h2 := of_decide_eq_true h1
    have c1 := hcol r c hr hc
    have c2 := hcol (r + 1) c h2 hc
    rw [show 8 * (r + 1) + c = 8 * r + c + 8 by omega, show 4 + 7 * (r + 1) + c = 4 + 7 * r + c + 7 by omega] at c2
    rw [c1.1, c2.1]
    refine ⟨by omega, by omega, by omega, ?_⟩
    rw [decide_eq_true_eq]
    exact ⟨fun h3 => h3.2, fun h3 => ⟨h2, h3⟩⟩
  · exact h1 (decide_eq_true (of_decide_eq_true h2).1)
theorem dr_joined_row {N R C : Nat} {pp jj : Nat → Nat → Bool} {d : Int} {st : Nat} {cr cb : BitVec 64} {col : Int → Int} (hb : R ≤ 7 ∧ C ≤ 7) {r : Nat} (hr : r < R) (hj : ∀ c, c < C → JP N R C d st col pp jj r c) (k5 : BitVec 64 → Int → Option (BitVec 64)) :
    ∀ (n c : Nat) (x : BitVec 64), c ≤ C → C < n + c → ∃ y, f_dr_joined_28 N d (st : Int) (r : Int) (R : Int) (C : Int) cr cb col k5 n x (c : Int) = k5 y ((r : Int) + 1) ∧ ∀ i, y.getLsbD i = true ↔ (x.getLsbD i = true ∨ ∃ c', c ≤ c' ∧ c' < C ∧ jj r c' = true ∧ i = 8 * r + c') := by
  intro n
  induction n with
  | zero => intro c x h1 h2; omega
  | succ n ih =>
    intro c x h1 h2
    rw [f_dr_joined_28.eq_2, og_pos (by omega), og_pos (by omega)]
    by_cases h : c = C
    · rw [if_pos (by omega), bd_some]
      exact ⟨x, rfl, fun i => ⟨Or.inl, fun h3 => h3.elim id (fun ⟨c', h4, h5, _⟩ => by omega)⟩⟩
    · obtain ⟨j1, j2, j3⟩ := hj c (by omega)
      rw [if_neg (by omega), ce_number, bd_some, j1, bd_some]
      have e1 : (c : Int) + 1 = ((c + 1 : Nat) : Int) := by omega
      have no : ¬ jj r c = true → ∃ y, f_dr_joined_28 N d (st : Int) (r : Int) (R : Int) (C : Int) cr cb col k5 n x ((c : Int) + 1) = k5 y ((r : Int) + 1) ∧ ∀ i, y.getLsbD i = true ↔ (x.getLsbD i = true ∨ ∃ c', c ≤ c' ∧ c' < C ∧ jj r c' = true ∧ i = 8 * r + c') := by
        intro hq
        rw [e1]
        obtain ⟨y, hy1, hy2⟩ := ih (c + 1) x (by omega) (by omega)
        refine ⟨y, hy1, fun i => ?_⟩
        rw [hy2 i]
        constructor
        · rintro (h3 | ⟨c', h3, h4⟩)
          · exact Or.inl h3
          · exact Or.inr ⟨c', by omega, h4⟩
        · rintro (h3 | ⟨c', h3, h4, h5, h6⟩)
          · exact Or.inl h3
          · by_cases hcc : c' = c
            · subst hcc
              exact absurd h5 hq
            · exact Or.inr ⟨c', by omega, h4, h5, h6⟩
      by_cases hp : pp r c = true
      · obtain ⟨p1, p2, p3, p4⟩ := j2 hp
        have e2 : (r : Int) * 8 + (c : Int) = ((8 * r + c : Nat) : Int) := by omega
        have e3 : (r : Int) * 8 + (c : Int) + (st : Int) = ((8 * r + c + st : Nat) : Int) := by omega
        rw [if_pos hp, og_pos (by decide), if_neg (by decide), e3, e2, og_pos (by omega), og_pos (by omega), og_pos p2, og_pos p3]
        by_cases hq : jj r c = true
        · rw [if_pos (p4.mp hq), og_pos (by omega), bd_some, bd_some, bd_some]
          show ∃ y, f_dr_joined_28 N d (st : Int) (r : Int) (R : Int) (C : Int) cr cb col k5 n (x ||| (1#64 <<< (8 * r + c))) ((c : Int) + 1) = _ ∧ _
          rw [e1]
          obtain ⟨y, hy1, hy2⟩ := ih (c + 1) (x ||| (1#64 <<< (8 * r + c))) (by omega) (by omega)
          refine ⟨y, hy1, fun i => ?_⟩
          rw [hy2 i, gl_or, gl_one (by omega)]
          simp only [Bool.or_eq_true, decide_eq_true_eq]
          constructor
          · rintro ((h3 | h3) | ⟨c', h3, h4⟩)
            · exact Or.inl h3
            · exact Or.inr ⟨c, Nat.le_refl _, by omega, hq, h3⟩
            · exact Or.inr ⟨c', by omega, h4⟩
          · rintro (h3 | ⟨c', h3, h4, h5, h6⟩)
            · exact Or.inl (Or.inl h3)
            · by_cases hcc : c' = c
              · subst hcc
                exact Or.inl (Or.inr h6)
              · exact Or.inr ⟨c', by omega, h4, h5, h6⟩
        · rw [if_neg (fun h3 => hq (p4.mpr h3)), bd_some, bd_some]
          exact no hq
      · rw [if_neg hp, og_pos (by decide), if_pos rfl, bd_some, bd_some]
        exact no (j3 hp)
theorem dr_joined {N R C : Nat} (hN : 4000 ≤ N) {pp jj : Nat → Nat → Bool} {d : Int} {st : Nat} (hd : xR d) (hst : (st : Int) = if d = 0 then 1 else 8) {cr cb : BitVec 64} {col : Int → Int} (hb : R ≤ 7 ∧ C ≤ 7) (hj : ∀ r c, r < R → c < C → JP N R C d st col pp jj r c) :
    ∃ y, f_dr_joined N d (R : Int) (C : Int) cr cb col = some y ∧ ∀ i, y.getLsbD i = true ↔ (i / 8 < R ∧ i % 8 < C ∧ jj (i / 8) (i % 8) = true) ∧ (if d = 0 then cr else cb).getLsbD i = false := by
  have key : ∀ (n r : Nat) (x : BitVec 64), r ≤ R → R < n + r → ∃ y, f_dr_joined_16 N d (st : Int) (R : Int) (C : Int) cr cb col n x (r : Int) = some (y &&& ((if d = 0 then cr else cb) ^^^ 18446744073709551615#64)) ∧ ∀ i, y.getLsbD i = true ↔ (x.getLsbD i = true ∨ ∃ r' c', r ≤ r' ∧ r' < R ∧ c' < C ∧ jj r' c' = true ∧ i = 8 * r' + c') := by
    intro n
    induction n with
    | zero => intro r x h1 h2; omega
    | succ n ih =>
      intro r x h1 h2
      rw [f_dr_joined_16.eq_2, og_pos (by omega), og_pos (by omega)]
      by_cases h : r = R
      · rw [if_pos (by omega), og_pos hd]
        refine ⟨x, ?_, fun i => ⟨Or.inl, fun h3 => h3.elim id (fun ⟨r', c', h4, h5, _⟩ => by omega)⟩⟩
        by_cases h3 : d = 0
        · rw [if_pos h3, if_pos h3, bd_some]
        · rw [if_neg h3, if_neg h3, bd_some]
      · rw [if_neg (by omega)]
        obtain ⟨z, hz1, hz2⟩ := dr_joined_row (N := N) (pp := pp) (jj := jj) (d := d) (st := st) (cr := cr) (cb := cb) (col := col) hb (r := r) (by omega) (fun c hc => hj r c (by omega) hc) (f_dr_joined_16 N d (st : Int) (R : Int) (C : Int) cr cb col n) N 0 x (by omega) (by omega)
        have e0 : ((0 : Nat) : Int) = 0 := rfl
        rw [e0] at hz1
        rw [hz1]
        have e1 : (r : Int) + 1 = ((r + 1 : Nat) : Int) := by omega
        rw [e1]
        obtain ⟨y, hy1, hy2⟩ := ih (r + 1) z (by omega) (by omega)
        refine ⟨y, hy1, fun i => ?_⟩
        rw [hy2 i, hz2 i]
        constructor
        · rintro ((h3 | ⟨c', h3, h4, h5, h6⟩) | ⟨r', c', h3, h4⟩)
          · exact Or.inl h3
          · exact Or.inr ⟨r, c', Nat.le_refl _, by omega, h4, h5, h6⟩
          · exact Or.inr ⟨r', c', by omega, h4⟩
        · rintro (h3 | ⟨r', c', h3, h4, h5, h6, h7⟩)
          · exact Or.inl (Or.inl h3)
          · by_cases hrr : r' = r
            · subst hrr
              exact Or.inl (Or.inr ⟨c', Nat.zero_le _, h5, h6, h7⟩)
            · exact Or.inr ⟨r', c', by omega, h4, h5, h6, h7⟩
  obtain ⟨y, hy1, hy2⟩ := key N 0 0#64 (by omega) (by omega)
  have e0 : ((0 : Nat) : Int) = 0 := rfl
  rw [e0] at hy1
  have hrun : f_dr_joined N d (R : Int) (C : Int) cr cb col = f_dr_joined_16 N d (st : Int) (R : Int) (C : Int) cr cb col N (0#64) 0 := by
    unfold f_dr_joined
    rw [og_pos hd, hst]
    by_cases h3 : d = 0
    · rw [if_pos h3, if_pos h3, bd_some]
    · rw [if_neg h3, if_neg h3, bd_some]
  refine ⟨_, hrun.trans hy1, fun i => ?_⟩
  rw [gl_and, Bool.and_eq_true, hy2 i]
  constructor
  · rintro ⟨h | ⟨r', c', h1, h2, h3, h4, h5⟩, h6⟩
    · rw [gl_zero] at h; cases h
    · have a1 : i / 8 = r' := by omega
      have a2 : i % 8 = c' := by omega
      rw [gl_not _ (by omega)] at h6
      rw [a1, a2]
      exact ⟨⟨h2, h3, h4⟩, by simpa using h6⟩
  · rintro ⟨⟨h1, h2, h3⟩, h4⟩
    refine ⟨Or.inr ⟨i / 8, i % 8, Nat.zero_le _, h1, h2, h3, by omega⟩, ?_⟩
    rw [gl_not _ (by omega), h4]
    rfl
theorem rd_joined {N R C : Nat} (hN : 4000 ≤ N) {rows cols cl kl : Int} {cr cb : BitVec 64} {col now : Int → Int} (h : RD rows cols cr cb cl kl col now R C) : ∃ jr jb, f_dr_joined N 0 rows cols cr cb col = some jr ∧ f_dr_joined N 1 rows cols cr cb col = some jb ∧ MD now R C jr jb := by
  have h0 := h
  obtain ⟨rfl, rfl, hn0, hn1, hb, -, -, hv, -, hcr, hcb, hcu, hcd⟩ := h0
  obtain ⟨jr, a1, a2⟩ := dr_joined (N := N) (R := R) (C := C) hN (d := 0) (st := 1) x_R0 rfl (cr := cr) (cb := cb) (col := col) (by omega) (fun r c hr hc => jp_0 h hr hc)
  obtain ⟨jb, b1, b2⟩ := dr_joined (N := N) (R := R) (C := C) hN (d := 1) (st := 8) (show xR (1 : Int) by decide) rfl (cr := cr) (cb := cb) (col := col) (by omega) (fun r c hr hc => jp_1 h hr hc)
  rw [if_pos rfl] at a2
  rw [if_neg (show ¬ (1 : Int) = 0 by decide)] at b2
  refine ⟨jr, jb, a1, b1, hn0, hn1, hb, hv, fun i => ?_, fun i => ?_⟩
  · rw [a2 i, decide_eq_true_eq]
    constructor
    · rintro ⟨⟨h1, h2, h3, h4⟩, h5⟩
      refine ⟨h1, h3, h4, ?_⟩
      rcases hcu (7 * (i / 8) + i % 8) (by omega) with hu | hu
      · rw [← hu]; congr 2; omega
      · have hq := (hcr i).mpr ⟨h1, h3, by rw [← hu.1]; congr 2; omega⟩
        rw [hq] at h5; cases h5
    · rintro ⟨h1, h2, h3, h4⟩
      refine ⟨⟨h1, by omega, h2, h3⟩, ?_⟩
      cases hx : cr.getLsbD i with
      | false => rfl
      | true => have := ((hcr i).mp hx).2.2; omega
  · rw [b2 i, decide_eq_true_eq]
    constructor
    · rintro ⟨⟨h1, h2, h3, h4⟩, h5⟩
      refine ⟨h3, h2, h4, ?_⟩
      rcases hcd (7 * (i / 8) + i % 8) (by omega) with hu | hu
      · rw [← hu]; congr 2; omega
      · have hq := (hcb i).mpr ⟨h3, h2, by rw [← hu.1]; congr 2; omega⟩
        rw [hq] at h5; cases h5
    · rintro ⟨h1, h2, h3, h4⟩
      refine ⟨⟨by omega, h2, h1, h3⟩, ?_⟩
      cases hx : cb.getLsbD i with
      | false => rfl
      | true => have := ((hcb i).mp hx).2.2; omega
