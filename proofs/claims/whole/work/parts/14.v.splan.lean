/-! ===== PURE: the plan, the class's side ===== -/
theorem span_inj : ∀ t b t' b' : Fin 7, t.val ≤ b.val → t'.val ≤ b'.val → b.val * (b.val + 1) / 2 + t.val = b'.val * (b'.val + 1) / 2 + t'.val → t.val = t'.val ∧ b.val = b'.val := by decide +kernel
theorem span_lt : ∀ t b : Fin 7, t.val ≤ b.val → b.val * (b.val + 1) / 2 + t.val < 28 := by decide +kernel
theorem plc_lt {t b l r : Nat} (htb : t ≤ b) (hb : b ≤ 6) (hlr : l ≤ r) (hr : r ≤ 6) : plc t b l r < 784 := by
  have h1 := span_lt ⟨t, by omega⟩ ⟨b, by omega⟩ htb
  have h2 := span_lt ⟨l, by omega⟩ ⟨r, by omega⟩ hlr
  unfold plc
  simp only at h1 h2
  omega
theorem plc_inj {t b l r t' b' l' r' : Nat} (htb : t ≤ b) (hb : b ≤ 6) (hlr : l ≤ r) (hr : r ≤ 6) (htb' : t' ≤ b') (hb' : b' ≤ 6) (hlr' : l' ≤ r') (hr' : r' ≤ 6) (h : plc t b l r = plc t' b' l' r') : t = t' ∧ b = b' ∧ l = l' ∧ r = r' := by
  have h1 := span_lt ⟨t, by omega⟩ ⟨b, by omega⟩ htb
  have h2 := span_lt ⟨l, by omega⟩ ⟨r, by omega⟩ hlr
  have h3 := span_lt ⟨t', by omega⟩ ⟨b', by omega⟩ htb'
  have h4 := span_lt ⟨l', by omega⟩ ⟨r', by omega⟩ hlr'
  unfold plc at h
  simp only at h1 h2 h3 h4
  have a1 := span_inj ⟨t, by omega⟩ ⟨b, by omega⟩ ⟨t', by omega⟩ ⟨b', by omega⟩ htb htb' (by simp only; omega)
  have a2 := span_inj ⟨l, by omega⟩ ⟨r, by omega⟩ ⟨l', by omega⟩ ⟨r', by omega⟩ hlr hlr' (by simp only; omega)
  exact ⟨a1.1, a1.2, a2.1, a2.2⟩
theorem sp_span {N t b : Nat} (hb : b ≤ 6) : f_sp_span N (t : Int) (b : Int) = some ((b * (b + 1) / 2 + t : Nat) : Int) := by
  have e : (b : Int) * ((b : Int) + 1) = ((b * (b + 1) : Nat) : Int) := by rw [Int.natCast_mul]; rfl
  have h : b * (b + 1) ≤ 6 * 7 := Nat.mul_le_mul hb (by omega)
  unfold f_sp_span
  rw [e, og_pos (by omega)]
  congr 1
theorem sp_place {N t b l r : Nat} (hb : b ≤ 6) (hr : r ≤ 6) : f_sp_place N (t : Int) (b : Int) (l : Int) (r : Int) = some ((plc t b l r : Nat) : Int) := by
  unfold f_sp_place plc
  rw [sp_span hb, bd_some, sp_span hr, bd_some]
  congr 1
def ARel (acc : Int × Int × Int) (w ln : Int) : Prop := (acc = (-1, 0, -1) ∧ w = 1048576 ∧ ln = -1) ∨ ((0 ≤ acc.1 ∧ acc.1 ≤ 49 ∧ 0 ≤ acc.2.1 ∧ acc.2.1 ≤ 96 ∧ 0 ≤ acc.2.2) ∧ w = 128 * acc.1 + acc.2.1 ∧ ln = acc.2.2)
theorem sp_offer {N p : Nat} (hp : p < 784) {acc c : Int × Int × Int} {w ln : Int → Int} (h : ARel acc (w p) (ln p)) (hc : 0 ≤ c.1 ∧ c.1 ≤ 49 ∧ 0 ≤ c.2.1 ∧ c.2.1 ≤ 96 ∧ 0 ≤ c.2.2) :
    ∃ w' ln', f_sp_offer N (p : Int) (128 * c.1 + c.2.1) c.2.2 w ln = some (w', ln') ∧ ARel (lx acc c) (w' p) (ln' p) ∧ ∀ j : Int, j ≠ p → w' j = w j ∧ ln' j = ln j := by
  have hup : ARel c (upi w p (128 * c.1 + c.2.1) p) (upi ln p c.2.2 p) := by
    rw [upi_s, upi_s]; exact Or.inr ⟨hc, rfl, rfl⟩
  unfold f_sp_offer
  rcases h with ⟨h1, h2, h3⟩ | ⟨h1, h2, h3⟩
  · rw [og_pos (by omega), og_pos (by omega), og_pos (by omega), if_neg (by omega), bd_some, bd_some]
    refine ⟨_, _, rfl, ?_, fun j hj => ⟨upi_n _ _ hj, upi_n _ _ hj⟩⟩
    unfold lx
    rw [if_pos (Or.inl (by rw [h1]))]
    exact hup
  · rw [og_pos (by omega), og_pos (by omega), og_pos (by omega)]
    by_cases cc : w p ≤ 128 * c.1 + c.2.1
    · rw [if_pos cc]
      refine ⟨_, _, rfl, ?_, fun j hj => ⟨rfl, rfl⟩⟩
      unfold lx
      rw [if_neg (by omega)]
      exact Or.inr ⟨h1, h2, h3⟩
    · rw [if_neg cc, bd_some, bd_some]
      refine ⟨_, _, rfl, ?_, fun j hj => ⟨upi_n _ _ hj, upi_n _ _ hj⟩⟩
      unfold lx
      rw [if_pos (by omega)]
      exact hup
theorem good_lim {t b l r : Nat} (hb : b ≤ 6) (hr : r ≤ 6) {x : Int × Int × Int} (h : plGood t b l r x ∧ plLine t b l r x) : 0 ≤ x.1 ∧ x.1 ≤ 49 ∧ 0 ≤ x.2.1 ∧ x.2.1 ≤ 96 ∧ 0 ≤ x.2.2 := by
  obtain ⟨⟨h1, h2, h3, h4⟩, h5⟩ := h
  have := area_le (t := t) (l := l) hb hr
  unfold plLine at h5
  omega
section SPLAN
variable {N : Nat} {P all jr jb : BitVec 64} {cl kl : Int}
def SubOk (N : Nat) (P all jr jb : BitVec 64) (cl kl : Int) (t b l r : Nat) (w : Int → Int) : Prop := ∀ t' b' l' r' : Nat, t ≤ t' → t' ≤ b' → b' ≤ b → l ≤ l' → l' ≤ r' → r' ≤ r → (b' - t') + (r' - l') < (b - t) + (r - l) → w ((plc t' b' l' r' : Nat) : Int) = 128 * (pln N P all jr jb cl kl t' b' l' r').1 + (pln N P all jr jb cl kl t' b' l' r').2.1
theorem part_146 (ho : EmOk (emB N P all jr jb cl kl) (cbB P jb) (crB P jr)) {t b l r : Nat} (htb : t ≤ b) (hb : b ≤ 6) (hlr : l ≤ r) (hr : r ≤ 6) {part : BitVec 64} (hbits : ∀ i, part.getLsbD i = true ↔ P.getLsbD i = true ∧ t ≤ i / 8 ∧ i / 8 ≤ b ∧ l ≤ i % 8 ∧ i % 8 ≤ r) {w0 l0 : Int → Int} (hsub : SubOk N P all jr jb cl kl t b l r w0) :
    ∀ (n k : Nat) (acc : Int × Int × Int) (w ln : Int → Int), l ≤ k → k ≤ r → r < n + k → ARel acc (w ((plc t b l r : Nat) : Int)) (ln ((plc t b l r : Nat) : Int)) → (∀ j : Int, j ≠ ((plc t b l r : Nat) : Int) → w j = w0 j ∧ ln j = l0 j) →
      ∃ w' ln', f_sp_planPart_146 N (t : Int) (b : Int) (l : Int) (r : Int) ((plc t b l r : Nat) : Int) part jr n (k : Int) w ln = some (w', ln') ∧ ARel (foldL (fun k => cand (pln N P all jr jb cl kl t b l k) (pln N P all jr jb cl kl t b (k + 1) r) (crB P jr k t b) (7 + (k : Int))) (r - k) k acc) (w' ((plc t b l r : Nat) : Int)) (ln' ((plc t b l r : Nat) : Int)) ∧ ∀ j : Int, j ≠ ((plc t b l r : Nat) : Int) → w' j = w0 j ∧ ln' j = l0 j := by
  intro n
  induction n with
  | zero => intro k acc w ln h1 h2 h3; omega
  | succ n ih =>
    intro k acc w ln h1 h2 h3 hA hw
    rw [f_sp_planPart_146.eq_2, og_pos (by omega), og_pos (by omega)]
    by_cases hk : k = r
    · rw [if_pos (by omega)]
      refine ⟨w, ln, rfl, ?_, hw⟩
      rw [show r - k = 0 by omega]; exact hA
    · rw [if_neg (by omega), sp_place hb (by omega), bd_some, show (k : Int) + 1 = ((k + 1 : Nat) : Int) by omega, sp_place hb hr, bd_some]
      have p1 := plc_lt htb hb (l := l) (r := k) h1 (by omega)
      have p2 := plc_lt htb hb (l := k + 1) (r := r) (by omega) hr
      have p3 := plc_lt htb hb hlr hr
      have d1 : plc t b l k ≠ plc t b l r := fun hq => by have := plc_inj htb hb h1 (by omega) htb hb hlr hr hq; omega
      have d2 : plc t b (k + 1) r ≠ plc t b l r := fun hq => by have := plc_inj htb hb (by omega) hr htb hb hlr hr hq; omega
      obtain ⟨y, y1, -, y3⟩ := sp_right (N := N) (k := k) (jr := jr) hb hr hbits h1 h2
      have g1 := pl_bound ho ((b - t) + (k - l)) t b l k (Nat.le_refl _) htb hb h1 (by omega)
      have g2 := pl_bound ho ((b - t) + (r - (k + 1))) t b (k + 1) r (Nat.le_refl _) htb hb (by omega) hr
      have gc := good_lim hb hr (cand_v (t := t) (b := b) (l := l) (r := r) (k := k) h1 (by omega) htb g1.1 g2.1 (ho.2.2.2 k t b htb hb))
      have v1 := hsub t b l k (Nat.le_refl _) htb (Nat.le_refl _) (Nat.le_refl _) h1 (by omega) (by omega)
      have v2 := hsub t b (k + 1) r (Nat.le_refl _) htb (Nat.le_refl _) (by omega) (by omega) (Nat.le_refl _) (by omega)
      rw [og_pos (by omega), og_pos (by omega), y1, bd_some, bd_some, (hw _ (by omega)).1, (hw _ (by omega)).1, v1, v2, y3]
      obtain ⟨w', ln', q1, q2, q3⟩ := sp_offer (N := N) p3 hA gc
      have e : 128 * (pln N P all jr jb cl kl t b l k).1 + (pln N P all jr jb cl kl t b l k).2.1 + (128 * (pln N P all jr jb cl kl t b (k + 1) r).1 + (pln N P all jr jb cl kl t b (k + 1) r).2.1) + crB P jr k t b = 128 * (cand (pln N P all jr jb cl kl t b l k) (pln N P all jr jb cl kl t b (k + 1) r) (crB P jr k t b) (7 + (k : Int))).1 + (cand (pln N P all jr jb cl kl t b l k) (pln N P all jr jb cl kl t b (k + 1) r) (crB P jr k t b) (7 + (k : Int))).2.1 := by
        unfold cand
        show _ = 128 * ((pln N P all jr jb cl kl t b l k).1 + (pln N P all jr jb cl kl t b (k + 1) r).1) + ((pln N P all jr jb cl kl t b l k).2.1 + (pln N P all jr jb cl kl t b (k + 1) r).2.1 + crB P jr k t b)
        omega
      rw [e]
      have q1' : f_sp_offer N ((plc t b l r : Nat) : Int) (128 * (cand (pln N P all jr jb cl kl t b l k) (pln N P all jr jb cl kl t b (k + 1) r) (crB P jr k t b) (7 + (k : Int))).1 + (cand (pln N P all jr jb cl kl t b l k) (pln N P all jr jb cl kl t b (k + 1) r) (crB P jr k t b) (7 + (k : Int))).2.1) (7 + (k : Int)) w ln = some (w', ln') := q1
      rw [q1', bd_some, bd_some]
      obtain ⟨w2, ln2, z1, z2, z3⟩ := ih (k + 1) _ w' ln' (by omega) (by omega) (by omega) q2 (fun j hj => ⟨(q3 j hj).1.trans (hw j hj).1, (q3 j hj).2.trans (hw j hj).2⟩)
      refine ⟨w2, ln2, z1, ?_, z3⟩
      rw [show r - k = (r - (k + 1)) + 1 by omega]
      exact z2
theorem part_76 (hN : 4000 ≤ N) (ho : EmOk (emB N P all jr jb cl kl) (cbB P jb) (crB P jr)) {t b l r : Nat} (htb : t ≤ b) (hb : b ≤ 6) (hlr : l ≤ r) (hr : r ≤ 6) {part : BitVec 64} (hbits : ∀ i, part.getLsbD i = true ↔ P.getLsbD i = true ∧ t ≤ i / 8 ∧ i / 8 ≤ b ∧ l ≤ i % 8 ∧ i % 8 ≤ r) {w0 l0 : Int → Int} (hsub : SubOk N P all jr jb cl kl t b l r w0) :
    ∀ (n k : Nat) (acc : Int × Int × Int) (w ln : Int → Int), t ≤ k → k ≤ b → b < n + k → ARel acc (w ((plc t b l r : Nat) : Int)) (ln ((plc t b l r : Nat) : Int)) → (∀ j : Int, j ≠ ((plc t b l r : Nat) : Int) → w j = w0 j ∧ ln j = l0 j) →
      ∃ w' ln', f_sp_planPart_76 N (t : Int) (b : Int) (l : Int) (r : Int) ((plc t b l r : Nat) : Int) part jr jb n (k : Int) w ln = some (w', ln') ∧ ARel (foldL (fun k => cand (pln N P all jr jb cl kl t b l k) (pln N P all jr jb cl kl t b (k + 1) r) (crB P jr k t b) (7 + (k : Int))) (r - l) l (foldL (fun k => cand (pln N P all jr jb cl kl t k l r) (pln N P all jr jb cl kl (k + 1) b l r) (cbB P jb k l r) (k : Int)) (b - k) k acc)) (w' ((plc t b l r : Nat) : Int)) (ln' ((plc t b l r : Nat) : Int)) ∧ ∀ j : Int, j ≠ ((plc t b l r : Nat) : Int) → w' j = w0 j ∧ ln' j = l0 j := by
  intro n
  induction n with
  | zero => intro k acc w ln h1 h2 h3; omega
  | succ n ih =>
    intro k acc w ln h1 h2 h3 hA hw
    rw [f_sp_planPart_76.eq_2, og_pos (by omega), og_pos (by omega)]
    by_cases hk : k = b
    · rw [if_pos (by omega), show b - k = 0 by omega]
      exact part_146 ho htb hb hlr hr hbits hsub N l acc w ln (Nat.le_refl _) hlr (by omega) hA hw
    · rw [if_neg (by omega), sp_place (by omega) hr, bd_some, show (k : Int) + 1 = ((k + 1 : Nat) : Int) by omega, sp_place hb hr, bd_some]
      have p1 := plc_lt (t := t) (b := k) h1 (by omega) hlr hr
      have p2 := plc_lt (t := k + 1) (b := b) (by omega) hb hlr hr
      have p3 := plc_lt htb hb hlr hr
      have d1 : plc t k l r ≠ plc t b l r := fun hq => by have := plc_inj h1 (by omega) hlr hr htb hb hlr hr hq; omega
      have d2 : plc (k + 1) b l r ≠ plc t b l r := fun hq => by have := plc_inj (by omega) hb hlr hr htb hb hlr hr hq; omega
      obtain ⟨y, y1, -, y3⟩ := sp_below (N := N) (k := k) (jb := jb) hb hr hbits h1 h2
      have g1 := pl_bound ho ((k - t) + (r - l)) t k l r (Nat.le_refl _) h1 (by omega) hlr hr
      have g2 := pl_bound ho ((b - (k + 1)) + (r - l)) (k + 1) b l r (Nat.le_refl _) (by omega) hb hlr hr
      have gc := good_lim hb hr (cand_h (t := t) (b := b) (l := l) (r := r) (k := k) h1 (by omega) hlr g1.1 g2.1 (ho.2.2.1 k l r hlr hr))
      have v1 := hsub t k l r (Nat.le_refl _) h1 (by omega) (Nat.le_refl _) hlr (Nat.le_refl _) (by omega)
      have v2 := hsub (k + 1) b l r (by omega) (by omega) (Nat.le_refl _) (Nat.le_refl _) hlr (Nat.le_refl _) (by omega)
      rw [og_pos (by omega), og_pos (by omega), y1, bd_some, bd_some, (hw _ (by omega)).1, (hw _ (by omega)).1, v1, v2, y3]
      obtain ⟨w', ln', q1, q2, q3⟩ := sp_offer (N := N) p3 hA gc
      have e : 128 * (pln N P all jr jb cl kl t k l r).1 + (pln N P all jr jb cl kl t k l r).2.1 + (128 * (pln N P all jr jb cl kl (k + 1) b l r).1 + (pln N P all jr jb cl kl (k + 1) b l r).2.1) + cbB P jb k l r = 128 * (cand (pln N P all jr jb cl kl t k l r) (pln N P all jr jb cl kl (k + 1) b l r) (cbB P jb k l r) (k : Int)).1 + (cand (pln N P all jr jb cl kl t k l r) (pln N P all jr jb cl kl (k + 1) b l r) (cbB P jb k l r) (k : Int)).2.1 := by
        unfold cand
        show _ = 128 * ((pln N P all jr jb cl kl t k l r).1 + (pln N P all jr jb cl kl (k + 1) b l r).1) + ((pln N P all jr jb cl kl t k l r).2.1 + (pln N P all jr jb cl kl (k + 1) b l r).2.1 + cbB P jb k l r)
        omega
      rw [e]
      have q1' : f_sp_offer N ((plc t b l r : Nat) : Int) (128 * (cand (pln N P all jr jb cl kl t k l r) (pln N P all jr jb cl kl (k + 1) b l r) (cbB P jb k l r) (k : Int)).1 + (cand (pln N P all jr jb cl kl t k l r) (pln N P all jr jb cl kl (k + 1) b l r) (cbB P jb k l r) (k : Int)).2.1) (k : Int) w ln = some (w', ln') := q1
      rw [q1', bd_some, bd_some]
      obtain ⟨w2, ln2, z1, z2, z3⟩ := ih (k + 1) _ w' ln' (by omega) (by omega) (by omega) q2 (fun j hj => ⟨(q3 j hj).1.trans (hw j hj).1, (q3 j hj).2.trans (hw j hj).2⟩)
      refine ⟨w2, ln2, z1, ?_, z3⟩
      rw [show b - k = (b - (k + 1)) + 1 by omega]
      exact z2
theorem sp_planPart {R C : Nat} (hN : 4000 ≤ N) (hbb : R ≤ 7 ∧ C ≤ 7) (hall : ∀ i, all.getLsbD i = true ↔ i / 8 < R ∧ i % 8 < C) (hP : ∀ i, P.getLsbD i = true → all.getLsbD i = true) (hcl : xR cl) (hkl : xR kl) (hcl1 : 1 ≤ cl) (hkl0 : 0 ≤ kl) {t b l r : Nat} (htb : t ≤ b) (hb : b ≤ 6) (hlr : l ≤ r) (hr : r ≤ 6) {w ln : Int → Int} (hsub : SubOk N P all jr jb cl kl t b l r w) :
    ∃ w' ln', f_sp_planPart N (t : Int) (b : Int) (l : Int) (r : Int) cl kl all jr jb P w ln = some (w', ln') ∧ w' ((plc t b l r : Nat) : Int) = 128 * (pln N P all jr jb cl kl t b l r).1 + (pln N P all jr jb cl kl t b l r).2.1 ∧ ln' ((plc t b l r : Nat) : Int) = (pln N P all jr jb cl kl t b l r).2.2 ∧ ∀ j : Int, j ≠ ((plc t b l r : Nat) : Int) → w' j = w j ∧ ln' j = ln j := by
  have ho := emB_ok hN (jr := jr) (jb := jb) hbb hall hP hcl hkl hcl1 hkl0
  obtain ⟨x, x1, x2, x3, -, x5⟩ := emB_spec hN (jr := jr) (jb := jb) hbb hall hP hcl hkl htb hb hlr hr
  have p3 := plc_lt htb hb hlr hr
  have har := area_le (t := t) (l := l) hb hr
  unfold f_sp_planPart
  rw [sp_place hb hr, bd_some, x1, bd_some, bd_some, x3, bd_some, og_pos (by omega), bd_some, og_pos (by omega)]
  have hlim := pl_lim ho htb hb hlr hr
  by_cases c : emB N P all jr jb cl kl t b l r = -1
  · rw [if_pos c, bd_some]
    have hsub' : SubOk N P all jr jb cl kl t b l r (upi w ((plc t b l r : Nat) : Int) 1048576) := by
      intro t' b' l' r' h1 h2 h3 h4 h5 h6 h7
      rw [upi_n _ _ (fun hq => by
        have := plc_inj h2 (by omega) h5 (by omega) htb hb hlr hr (by omega)
        omega)]
      exact hsub t' b' l' r' h1 h2 h3 h4 h5 h6 h7
    obtain ⟨w', ln', q1, q2, q3⟩ := part_76 hN ho htb hb hlr hr x2 (w0 := upi w ((plc t b l r : Nat) : Int) 1048576) (l0 := upi ln ((plc t b l r : Nat) : Int) (-1)) hsub' N t (-1, 0, -1) _ _ (Nat.le_refl _) htb (by omega) (Or.inl ⟨rfl, upi_s _ _ _, upi_s _ _ _⟩) (fun j hj => ⟨rfl, rfl⟩)
    refine ⟨w', ln', q1, ?_⟩
    have heq : pln N P all jr jb cl kl t b l r = foldL (fun k => cand (pln N P all jr jb cl kl t b l k) (pln N P all jr jb cl kl t b (k + 1) r) (crB P jr k t b) (7 + (k : Int))) (r - l) l (foldL (fun k => cand (pln N P all jr jb cl kl t k l r) (pln N P all jr jb cl kl (k + 1) b l r) (cbB P jb k l r) (k : Int)) (b - t) t (-1, 0, -1)) := by
      show pl (emB N P all jr jb cl kl) (cbB P jb) (crB P jr) t b l r = _
      rw [pl_eq (by omega)]
      unfold plF
      rw [if_pos c]
      rfl
    rw [← heq] at q2
    rcases q2 with ⟨z1, z2, z3⟩ | ⟨z1, z2, z3⟩
    · exfalso
      have : (pln N P all jr jb cl kl t b l r).2.2 = -1 := by rw [z1]
      exact (hlim.2.2.2.2.2.2.mp this) c
    · refine ⟨z2, z3, fun j hj => ⟨(q3 j hj).1.trans (upi_n _ _ hj), (q3 j hj).2.trans (upi_n _ _ hj)⟩⟩
  · rw [if_neg c, bd_some]
    have heq : pln N P all jr jb cl kl t b l r = (emB N P all jr jb cl kl t b l r, 0, -1) := (pl_bound ho _ t b l r (Nat.le_refl _) htb hb hlr hr).2.2 c
    refine ⟨_, _, rfl, ?_, ?_, fun j hj => ⟨upi_n _ _ hj, upi_n _ _ hj⟩⟩
    · rw [upi_s, heq]
      show emB N P all jr jb cl kl t b l r * 128 = 128 * emB N P all jr jb cl kl t b l r + 0
      omega
    · rw [upi_s, heq]
end SPLAN
