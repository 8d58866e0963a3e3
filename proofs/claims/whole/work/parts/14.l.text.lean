/-! ===== PURE: the text ===== -/
def TX (len : Int) (ch : Int → Int) (typed : Int) (tx : Int → Int) : Prop := len = typed ∧ 0 ≤ typed ∧ typed ≤ 80 ∧ ∀ i : Int, 0 ≤ i → i < typed → ch i = tx i ∧ 0 ≤ tx i ∧ tx i ≤ 255
theorem qu_appendCharacter {N : Nat} {len typed : Int} {ch tx : Int → Int} (h : TX len ch typed tx) {z : Int} (hz : xR z) :
    ∃ Rg Rm, f_gp_appendCharacter N z len ch = some Rg ∧ f_mo_appendCharacter N z typed tx = some Rm ∧ Rg.1 = Rm.1 ∧ TX Rg.2.1 Rg.2.2 Rm.2.1 Rm.2.2 := by
  obtain ⟨rfl, h1, h2, h3⟩ := h
  by_cases a : 0 ≤ z ∧ z ≤ 255
  · by_cases c : len < 80
    · have g1 : f_gp_appendCharacter N z len ch = some (len + 1, len + 1, upi ch len z) := by
        unfold f_gp_appendCharacter f_te_append
        rw [og_pos hz, if_neg (by omega), if_pos a.2, og_pos (by omega), if_pos c, og_pos (by omega), bd_some, bd_some, bd_some]
        show (og (xR (1 : Int)) <| if (1 : Int) = 0 then some (-3, len + 1, upi ch len z) else some (len + 1, len + 1, upi ch len z)) = _
        rw [og_pos (by decide), if_neg (by decide)]
      have g2 : f_mo_appendCharacter N z len tx = some (len + 1, len + 1, upi tx len z) := by
        unfold f_mo_appendCharacter
        rw [mo_in hz x_R0 (by decide), bd_some, if_pos a, og_pos (by decide), if_neg (by decide), og_pos (by omega), if_neg (by omega), og_pos (by omega), bd_some, bd_some]
      refine ⟨_, _, g1, g2, rfl, rfl, by show 0 ≤ len + 1; omega, by show len + 1 ≤ 80; omega, ?_⟩
      intro i hi1 hi2
      show upi ch len z i = upi tx len z i ∧ 0 ≤ upi tx len z i ∧ upi tx len z i ≤ 255
      have hi3 : i < len + 1 := hi2
      by_cases d : i = len
      · subst d
        rw [upi_s, upi_s]
        exact ⟨rfl, by omega, a.2⟩
      · rw [upi_n _ _ d, upi_n _ _ d]
        exact h3 i hi1 (by omega)
    · have g1 : f_gp_appendCharacter N z len ch = some (-3, len, ch) := by
        unfold f_gp_appendCharacter f_te_append
        rw [og_pos hz, if_neg (by omega), if_pos a.2, og_pos (by omega), if_neg c, bd_some]
        show (og (xR (0 : Int)) <| if (0 : Int) = 0 then some (-3, len, ch) else some (len, len, ch)) = _
        rw [og_pos (by decide), if_pos rfl]
      have g2 : f_mo_appendCharacter N z len tx = some (-3, len, tx) := by
        unfold f_mo_appendCharacter
        rw [mo_in hz x_R0 (by decide), bd_some, if_pos a, og_pos (by decide), if_neg (by decide), og_pos (by omega), if_pos (by omega)]
      exact ⟨_, _, g1, g2, rfl, rfl, h1, h2, h3⟩
  · have g1 : f_gp_appendCharacter N z len ch = some (-1, len, ch) := by
      unfold f_gp_appendCharacter
      rw [og_pos hz]
      by_cases d : z < 0
      · rw [if_pos d]
      · rw [if_neg d, if_neg (by omega)]
    have g2 : f_mo_appendCharacter N z len tx = some (-1, len, tx) := by
      unfold f_mo_appendCharacter
      rw [mo_in hz x_R0 (by decide), bd_some, if_neg a, og_pos (by decide), if_pos rfl]
    exact ⟨_, _, g1, g2, rfl, rfl, h1, h2, h3⟩
theorem te_isDigit {N : Nat} {z : Int} (hz : xR z) : f_te_isDigit N z = some (if 48 ≤ z ∧ z ≤ 53 then 1 else 0) := by
  unfold f_te_isDigit
  rw [og_pos hz]
  by_cases a : z < 48
  · rw [if_pos a, if_neg (by omega)]
  · rw [if_neg a]
    by_cases b : 53 < z
    · rw [if_pos b, if_neg (by omega)]
    · rw [if_neg b, if_pos (by omega)]
def TI (R W c : Nat) (rd col : Int → Int) : Prop := R ≤ 7 ∧ (R = 7 → c = 0) ∧ (R = 0 → W = 0 ∧ c ≤ 7) ∧ (1 ≤ R → 1 ≤ W ∧ W ≤ 7 ∧ c ≤ W) ∧
  (∀ r k : Nat, (r < R ∧ k < W) ∨ (r = R ∧ k < c) → col ((8 * r + k : Nat) : Int) = rd ((7 * r + k : Nat) : Int) ∧ 0 ≤ rd ((7 * r + k : Nat) : Int) ∧ rd ((7 * r + k : Nat) : Int) ≤ 5)
def RdOk (rows cols : Int) (rd col : Int → Int) : Prop := ∃ R C : Nat, rows = R ∧ cols = C ∧ (1 ≤ R ∧ R ≤ 7 ∧ 1 ≤ C ∧ C ≤ 7) ∧ ∀ r k : Nat, r < R → k < C → col ((8 * r + k : Nat) : Int) = rd ((7 * r + k : Nat) : Int) ∧ 0 ≤ rd ((7 * r + k : Nat) : Int) ∧ rd ((7 * r + k : Nat) : Int) ≤ 5
theorem tx_lock {N L : Nat} {ch tx : Int → Int} (hl : L ≤ 80) (ht : ∀ i : Int, 0 ≤ i → i < L → ch i = tx i ∧ 0 ≤ tx i ∧ tx i ≤ 255) (dr : Int) : ∀ (n R W c p : Nat) (rd col : Int → Int) (dc : Int), 80 < n + p → p ≤ L → TI R W c rd col → (1 ≤ R → dc = W) →
    ∃ res rows cols rd', f_te_errorOffset_9 N (L : Int) ch n (R : Int) (W : Int) (c : Int) (p : Int) = some res ∧ f_mo_reads_14 N (L : Int) tx n (c : Int) (p : Int) (R : Int) (W : Int) rd = some (res, rows, cols, rd') ∧
      ((res = -1 ∧ ∃ col', f_te_copyTo_7 N dr (L : Int) ch n (R : Int) (c : Int) (p : Int) dc col = some (rows, cols, col') ∧ RdOk rows cols rd' col') ∨ (0 ≤ res ∧ res ≤ 80))
  | 0, R, W, c, p, rd, col, dc, hn, hp, hI, hd => by omega
  | n + 1, R, W, c, p, rd, col, dc, hn, hp, hI, hd => by
    obtain ⟨i1, i2, i3, i4, i5⟩ := hI
    have hcb : c ≤ 7 := by
      by_cases hR : R = 0
      · exact (i3 hR).2
      · have := i4 (by omega); omega
    have hWb : W ≤ 7 := by
      by_cases hR : R = 0
      · have := (i3 hR).1; omega
      · have := i4 (by omega); omega
    by_cases he : L ≤ p
    · have e1 : ((L : Nat) : Int) ≤ (p : Int) := by omega
      by_cases hR : R = 0
      · have a1 : f_te_errorOffset_9 N (L : Int) ch (n + 1) (R : Int) (W : Int) (c : Int) (p : Int) = some (L : Int) := by
          rw [f_te_errorOffset_9.eq_2, og_pos (by omega), og_pos (by omega), if_pos e1, og_pos (by omega), if_pos (by omega)]; unfold f_te_errorOffset_119; exact rfl
        have a2 : f_mo_reads_14 N (L : Int) tx (n + 1) (c : Int) (p : Int) (R : Int) (W : Int) rd = some ((L : Int), (R : Int), (W : Int), rd) := by
          rw [f_mo_reads_14.eq_2, og_pos (by omega), og_pos (by omega), if_pos e1, og_pos (by omega), if_pos (by omega)]; unfold f_mo_reads_170; exact rfl
        exact ⟨_, _, _, _, a1, a2, Or.inr (by omega)⟩
      · by_cases hc : c = 0
        · have a1 : f_te_errorOffset_9 N (L : Int) ch (n + 1) (R : Int) (W : Int) (c : Int) (p : Int) = some (-1) := by
            rw [f_te_errorOffset_9.eq_2, og_pos (by omega), og_pos (by omega), if_pos e1, og_pos (by omega), if_neg (by omega), og_pos (by omega), if_pos (by omega)]
          have a2 : f_mo_reads_14 N (L : Int) tx (n + 1) (c : Int) (p : Int) (R : Int) (W : Int) rd = some (-1, (R : Int), (W : Int), rd) := by
            rw [f_mo_reads_14.eq_2, og_pos (by omega), og_pos (by omega), if_pos e1, og_pos (by omega), if_neg (by omega), og_pos (by omega), if_pos (by omega)]
          refine ⟨_, _, _, _, a1, a2, Or.inl ⟨rfl, col, ?_, R, W, rfl, rfl, ?_, ?_⟩⟩
          · rw [f_te_copyTo_7.eq_2, og_pos (by omega), og_pos (by omega), if_pos e1, hd (by omega)]
          · have := i4 (by omega); omega
          · intro r k hr hk
            exact i5 r k (Or.inl ⟨hr, hk⟩)
        · have a1 : f_te_errorOffset_9 N (L : Int) ch (n + 1) (R : Int) (W : Int) (c : Int) (p : Int) = some (L : Int) := by
            rw [f_te_errorOffset_9.eq_2, og_pos (by omega), og_pos (by omega), if_pos e1, og_pos (by omega), if_neg (by omega), og_pos (by omega), if_neg (by omega)]; unfold f_te_errorOffset_119; exact rfl
          have a2 : f_mo_reads_14 N (L : Int) tx (n + 1) (c : Int) (p : Int) (R : Int) (W : Int) rd = some ((L : Int), (R : Int), (W : Int), rd) := by
            rw [f_mo_reads_14.eq_2, og_pos (by omega), og_pos (by omega), if_pos e1, og_pos (by omega), if_neg (by omega), og_pos (by omega), if_neg (by omega)]; unfold f_mo_reads_170; exact rfl
          exact ⟨_, _, _, _, a1, a2, Or.inr (by omega)⟩
    · have e1 : ¬ ((L : Nat) : Int) ≤ (p : Int) := by omega
      obtain ⟨t1, t2, t3⟩ := ht (p : Int) (by omega) (by omega)
      have tR : xR (tx (p : Int)) := by omega
      have s1 : ∀ k : Nat, ((k : Nat) : Int) + 1 = ((k + 1 : Nat) : Int) := fun k => by omega
      by_cases c59 : tx (p : Int) = 59
      · -- a semicolon
        by_cases hc : c = 0
        · have a1 : f_te_errorOffset_9 N (L : Int) ch (n + 1) (R : Int) (W : Int) (c : Int) (p : Int) = some (p : Int) := by
            rw [f_te_errorOffset_9.eq_2, og_pos (by omega), og_pos (by omega), if_neg e1, og_pos (by omega), bd_some, t1, og_pos tR, if_pos c59, og_pos (by omega), if_pos (by omega)]
          have a2 : f_mo_reads_14 N (L : Int) tx (n + 1) (c : Int) (p : Int) (R : Int) (W : Int) rd = some ((p : Int), (R : Int), (W : Int), rd) := by
            rw [f_mo_reads_14.eq_2, og_pos (by omega), og_pos (by omega), if_neg e1, og_pos (by omega), bd_some, og_pos (by omega)]
            have : (if (R : Int) = 0 then some 7 else some (W : Int)) = some (if (R : Int) = 0 then 7 else (W : Int)) := by split <;> rfl
            rw [this, bd_some, og_pos tR, if_neg (by omega), mo_in tR (by decide) (by decide), bd_some, if_neg (by omega), og_pos (by decide), if_pos rfl]
            unfold f_mo_reads_106
            rw [og_pos tR, if_pos c59, og_pos (by omega), if_pos (by omega)]
          exact ⟨_, _, _, _, a1, a2, Or.inr (by omega)⟩
        · by_cases hw : R = 0 ∨ c = W
          · have a1 : f_te_errorOffset_9 N (L : Int) ch (n + 1) (R : Int) (W : Int) (c : Int) (p : Int) = f_te_errorOffset_9 N (L : Int) ch n ((R + 1 : Nat) : Int) (c : Int) ((0 : Nat) : Int) ((p + 1 : Nat) : Int) := by
              rw [f_te_errorOffset_9.eq_2, og_pos (by omega), og_pos (by omega), if_neg e1, og_pos (by omega), bd_some, t1, og_pos tR, if_pos c59, og_pos (by omega), if_neg (by omega), og_pos (by omega)]
              have hk : f_te_errorOffset_50 N (L : Int) ch (f_te_errorOffset_9 N (L : Int) ch n) (R : Int) (c : Int) (p : Int) = f_te_errorOffset_9 N (L : Int) ch n ((R + 1 : Nat) : Int) (c : Int) ((0 : Nat) : Int) ((p + 1 : Nat) : Int) := by
                unfold f_te_errorOffset_50
                rw [bd_some, bd_some, s1, s1]; rfl
              by_cases hR : R = 0
              · rw [if_pos (by omega), hk]
              · rw [if_neg (by omega), og_pos (by omega), if_pos (by omega), hk]
            have a2 : f_mo_reads_14 N (L : Int) tx (n + 1) (c : Int) (p : Int) (R : Int) (W : Int) rd = f_mo_reads_14 N (L : Int) tx n ((0 : Nat) : Int) ((p + 1 : Nat) : Int) ((R + 1 : Nat) : Int) (c : Int) rd := by
              rw [f_mo_reads_14.eq_2, og_pos (by omega), og_pos (by omega), if_neg e1, og_pos (by omega), bd_some, og_pos (by omega)]
              have : (if (R : Int) = 0 then some 7 else some (W : Int)) = some (if (R : Int) = 0 then 7 else (W : Int)) := by split <;> rfl
              rw [this, bd_some, og_pos tR, if_neg (by omega), mo_in tR (by decide) (by decide), bd_some, if_neg (by omega), og_pos (by decide), if_pos rfl]
              unfold f_mo_reads_106
              rw [og_pos tR, if_pos c59, og_pos (by omega), if_neg (by omega), og_pos (by omega)]
              have hk : f_mo_reads_131 N (L : Int) tx (f_mo_reads_14 N (L : Int) tx n) (c : Int) (p : Int) (R : Int) (W : Int) rd = f_mo_reads_14 N (L : Int) tx n ((0 : Nat) : Int) ((p + 1 : Nat) : Int) ((R + 1 : Nat) : Int) (c : Int) rd := by
                unfold f_mo_reads_131
                rw [bd_some, bd_some, s1, s1]; rfl
              by_cases hR : R = 0
              · rw [if_pos (by omega), hk]
              · rw [if_neg (by omega), og_pos (by omega), if_pos (by omega), hk]
            have a3 : f_te_copyTo_7 N dr (L : Int) ch (n + 1) (R : Int) (c : Int) (p : Int) dc col = f_te_copyTo_7 N dr (L : Int) ch n ((R + 1 : Nat) : Int) ((0 : Nat) : Int) ((p + 1 : Nat) : Int) (c : Int) col := by
              rw [f_te_copyTo_7.eq_2, og_pos (by omega), og_pos (by omega), if_neg e1, og_pos (by omega), bd_some, t1, og_pos tR, if_pos c59, bd_some, bd_some, bd_some, s1, s1]; rfl
            rw [a1, a2, a3]
            have hR7 : R ≠ 7 := fun hh => hc (i2 hh)
            refine tx_lock hl ht dr n (R + 1) c 0 (p + 1) rd col (c : Int) (by omega) (by omega) ⟨by omega, fun _ => rfl, fun hh => by omega, fun _ => ⟨by omega, hcb, by omega⟩, ?_⟩ (fun _ => rfl)
            intro r k hrk
            rcases hrk with ⟨h1, h2⟩ | ⟨h1, h2⟩
            · by_cases hr : r = R
              · exact i5 r k (Or.inr ⟨hr, h2⟩)
              · exact i5 r k (Or.inl ⟨by omega, by omega⟩)
            · omega
          · have a1 : f_te_errorOffset_9 N (L : Int) ch (n + 1) (R : Int) (W : Int) (c : Int) (p : Int) = some (p : Int) := by
              rw [f_te_errorOffset_9.eq_2, og_pos (by omega), og_pos (by omega), if_neg e1, og_pos (by omega), bd_some, t1, og_pos tR, if_pos c59, og_pos (by omega), if_neg (by omega), og_pos (by omega), if_neg (by omega), og_pos (by omega), if_neg (by omega)]
            have a2 : f_mo_reads_14 N (L : Int) tx (n + 1) (c : Int) (p : Int) (R : Int) (W : Int) rd = some ((p : Int), (R : Int), (W : Int), rd) := by
              rw [f_mo_reads_14.eq_2, og_pos (by omega), og_pos (by omega), if_neg e1, og_pos (by omega), bd_some, og_pos (by omega)]
              have : (if (R : Int) = 0 then some 7 else some (W : Int)) = some (if (R : Int) = 0 then 7 else (W : Int)) := by split <;> rfl
              rw [this, bd_some, og_pos tR, if_neg (by omega), mo_in tR (by decide) (by decide), bd_some, if_neg (by omega), og_pos (by decide), if_pos rfl]
              unfold f_mo_reads_106
              rw [og_pos tR, if_pos c59, og_pos (by omega), if_neg (by omega), og_pos (by omega), if_neg (by omega), og_pos (by omega), if_neg (by omega)]
            exact ⟨_, _, _, _, a1, a2, Or.inr (by omega)⟩
      · by_cases c32 : tx (p : Int) = 32
        · have a1 : f_te_errorOffset_9 N (L : Int) ch (n + 1) (R : Int) (W : Int) (c : Int) (p : Int) = f_te_errorOffset_9 N (L : Int) ch n (R : Int) (W : Int) (c : Int) ((p + 1 : Nat) : Int) := by
            rw [f_te_errorOffset_9.eq_2, og_pos (by omega), og_pos (by omega), if_neg e1, og_pos (by omega), bd_some, t1, og_pos tR, if_neg c59, if_pos c32, bd_some, s1]
          have a2 : f_mo_reads_14 N (L : Int) tx (n + 1) (c : Int) (p : Int) (R : Int) (W : Int) rd = f_mo_reads_14 N (L : Int) tx n (c : Int) ((p + 1 : Nat) : Int) (R : Int) (W : Int) rd := by
            rw [f_mo_reads_14.eq_2, og_pos (by omega), og_pos (by omega), if_neg e1, og_pos (by omega), bd_some, og_pos (by omega)]
            have : (if (R : Int) = 0 then some 7 else some (W : Int)) = some (if (R : Int) = 0 then 7 else (W : Int)) := by split <;> rfl
            rw [this, bd_some, og_pos tR, if_pos c32, bd_some, s1]
          have a3 : f_te_copyTo_7 N dr (L : Int) ch (n + 1) (R : Int) (c : Int) (p : Int) dc col = f_te_copyTo_7 N dr (L : Int) ch n (R : Int) (c : Int) ((p + 1 : Nat) : Int) dc col := by
            rw [f_te_copyTo_7.eq_2, og_pos (by omega), og_pos (by omega), if_neg e1, og_pos (by omega), bd_some, t1, og_pos tR, if_neg c59, te_isDigit tR, bd_some, if_neg (by omega), og_pos (by decide), if_pos rfl, bd_some, bd_some, s1]
          rw [a1, a2, a3]
          exact tx_lock hl ht dr n R W c (p + 1) rd col dc (by omega) (by omega) ⟨i1, i2, i3, i4, i5⟩ hd
        · have hr : ∀ {a b : Int}, (if (R : Int) = 0 then some a else some b) = some (if (R : Int) = 0 then a else b) := by intro a b; split <;> rfl
          have hwd : (if (R : Int) = 0 then (7 : Int) else (W : Int)) = ((if R = 0 then 7 else W : Nat) : Int) := by
            by_cases hR : R = 0
            · rw [if_pos (by omega), if_pos hR]; rfl
            · rw [if_neg (by omega), if_neg hR]
          have hwb : c ≤ (if R = 0 then 7 else W : Nat) ∧ (if R = 0 then 7 else W : Nat) ≤ 7 := by
            by_cases hR : R = 0
            · rw [if_pos hR]; omega
            · rw [if_neg hR]; have := i4 (by omega); omega
          by_cases hbad : ¬ (48 ≤ tx (p : Int) ∧ tx (p : Int) ≤ 53) ∨ R = 7 ∨ c = (if R = 0 then 7 else W : Nat)
          · have a1 : f_te_errorOffset_9 N (L : Int) ch (n + 1) (R : Int) (W : Int) (c : Int) (p : Int) = some (p : Int) := by
              rw [f_te_errorOffset_9.eq_2, og_pos (by omega), og_pos (by omega), if_neg e1, og_pos (by omega), bd_some, t1, og_pos tR, if_neg c59, if_neg c32, og_pos (by omega), hr, bd_some, te_isDigit tR, bd_some, hwd]
              by_cases hdg : 48 ≤ tx (p : Int) ∧ tx (p : Int) ≤ 53
              · rw [if_pos hdg, og_pos (by decide), if_neg (by decide)]
                by_cases h7 : R = 7
                · rw [if_pos (by omega)]
                · rw [if_neg (by omega), og_pos (by omega), og_pos (by omega), if_pos (by omega)]
              · rw [if_neg hdg, og_pos (by decide), if_pos rfl]
            have a2 : f_mo_reads_14 N (L : Int) tx (n + 1) (c : Int) (p : Int) (R : Int) (W : Int) rd = some ((p : Int), (R : Int), (W : Int), rd) := by
              have hk : f_mo_reads_106 N (L : Int) tx (f_mo_reads_14 N (L : Int) tx n) (c : Int) (p : Int) (tx (p : Int)) (R : Int) (W : Int) rd = some ((p : Int), (R : Int), (W : Int), rd) := by
                unfold f_mo_reads_106
                rw [og_pos tR, if_neg c59]
              rw [f_mo_reads_14.eq_2, og_pos (by omega), og_pos (by omega), if_neg e1, og_pos (by omega), bd_some, og_pos (by omega), hr, bd_some, og_pos tR, if_neg c32, mo_in tR (by decide) (by decide), bd_some, hwd]
              by_cases hdg : 48 ≤ tx (p : Int) ∧ tx (p : Int) ≤ 53
              · rw [if_pos hdg, og_pos (by decide), if_neg (by decide)]
                by_cases h7 : R = 7
                · rw [if_pos (by omega), hk]
                · rw [if_neg (by omega), og_pos (by omega), og_pos (by omega), if_pos (by omega), hk]
              · rw [if_neg hdg, og_pos (by decide), if_pos rfl, hk]
            exact ⟨_, _, _, _, a1, a2, Or.inr (by omega)⟩
          · have hdg : 48 ≤ tx (p : Int) ∧ tx (p : Int) ≤ 53 := Classical.byContradiction fun hh => hbad (Or.inl hh)
            have h7 : ¬ R = 7 := fun hh => hbad (Or.inr (Or.inl hh))
            have hcw : ¬ c = (if R = 0 then 7 else W : Nat) := fun hh => hbad (Or.inr (Or.inr hh))
            have e8 : (R : Int) * 8 + (c : Int) = ((8 * R + c : Nat) : Int) := by omega
            have e7 : 7 * (R : Int) + (c : Int) = ((7 * R + c : Nat) : Int) := by omega
            have a1 : f_te_errorOffset_9 N (L : Int) ch (n + 1) (R : Int) (W : Int) (c : Int) (p : Int) = f_te_errorOffset_9 N (L : Int) ch n (R : Int) (W : Int) ((c + 1 : Nat) : Int) ((p + 1 : Nat) : Int) := by
              rw [f_te_errorOffset_9.eq_2, og_pos (by omega), og_pos (by omega), if_neg e1, og_pos (by omega), bd_some, t1, og_pos tR, if_neg c59, if_neg c32, og_pos (by omega), hr, bd_some, te_isDigit tR, bd_some, hwd, if_pos hdg, og_pos (by decide), if_neg (by decide), if_neg (by omega), og_pos (by omega), og_pos (by omega), if_neg (by omega), bd_some, bd_some, s1, s1]
            have a2 : f_mo_reads_14 N (L : Int) tx (n + 1) (c : Int) (p : Int) (R : Int) (W : Int) rd = f_mo_reads_14 N (L : Int) tx n ((c + 1 : Nat) : Int) ((p + 1 : Nat) : Int) (R : Int) (W : Int) (upi rd ((7 * R + c : Nat) : Int) (tx (p : Int) - 48)) := by
              rw [f_mo_reads_14.eq_2, og_pos (by omega), og_pos (by omega), if_neg e1, og_pos (by omega), bd_some, og_pos (by omega), hr, bd_some, og_pos tR, if_neg c32, mo_in tR (by decide) (by decide), bd_some, hwd, if_pos hdg, og_pos (by decide), if_neg (by decide), if_neg (by omega), og_pos (by omega), og_pos (by omega), if_neg (by omega), og_pos (by omega), bd_some, bd_some, bd_some, s1, s1, e7]
            have a3 : f_te_copyTo_7 N dr (L : Int) ch (n + 1) (R : Int) (c : Int) (p : Int) dc col = f_te_copyTo_7 N dr (L : Int) ch n (R : Int) ((c + 1 : Nat) : Int) ((p + 1 : Nat) : Int) dc (upi col ((8 * R + c : Nat) : Int) (tx (p : Int) - 48)) := by
              rw [f_te_copyTo_7.eq_2, og_pos (by omega), og_pos (by omega), if_neg e1, og_pos (by omega), bd_some, t1, og_pos tR, if_neg c59, te_isDigit tR, bd_some, if_pos hdg, og_pos (by decide), if_neg (by decide), og_pos (by omega), if_neg (by omega), og_pos (by omega), if_neg (by omega), ce_number, bd_some, og_pos (by omega), bd_some, bd_some, bd_some, bd_some, s1, s1, e8]
            rw [a1, a2, a3]
            refine tx_lock hl ht dr n R W (c + 1) (p + 1) _ _ dc (by omega) (by omega) ⟨i1, fun hh => absurd hh h7, fun hh => ⟨(i3 hh).1, ?_⟩, fun hh => ⟨(i4 hh).1, (i4 hh).2.1, ?_⟩, ?_⟩ hd
            · rw [if_pos hh] at hcw; omega
            · rw [if_neg (by omega)] at hcw
              have := i4 hh; omega
            · intro r k hrk
              by_cases hq : r = R ∧ k = c
              · obtain ⟨rfl, rfl⟩ := hq
                rw [upi_s, upi_s]
                omega
              · rw [upi_n _ _ (by omega), upi_n _ _ (by omega)]
                exact i5 r k (by omega)
