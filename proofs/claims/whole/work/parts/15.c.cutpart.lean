/-! ===== PURE: the cuts of a split, the class's side ===== -/
section CUTSET
variable {N : Nat} {P all jr jb : BitVec 64} {cl kl : Int}
/-- what the line of a rectangle cuts, numbered as the reference does -/
def LnS (P jr jb : BitVec 64) (t b l r ln k : Nat) : Prop :=
  if ln < 7 then 49 ≤ k ∧ (k - 49) / 7 = ln ∧ l ≤ (k - 49) % 7 ∧ (k - 49) % 7 ≤ r ∧ P.getLsbD (eb (k - 49)) = true ∧ jb.getLsbD (eb (k - 49)) = true
  else k < 49 ∧ k % 7 = ln - 7 ∧ t ≤ k / 7 ∧ k / 7 ≤ b ∧ P.getLsbD (eb k) = true ∧ jr.getLsbD (eb k) = true
def StT (N : Nat) (P all jr jb : BitVec 64) (cl kl : Int) (T : Nat → Nat → Nat → Nat → Nat → Prop) (t b l r k : Nat) : Prop :=
  (pln N P all jr jb cl kl t b l r).2.2 ≠ -1 ∧ (LnS P jr jb t b l r (pln N P all jr jb cl kl t b l r).2.2.toNat k ∨ (if (pln N P all jr jb cl kl t b l r).2.2.toNat < 7 then T t (pln N P all jr jb cl kl t b l r).2.2.toNat l r k ∨ T ((pln N P all jr jb cl kl t b l r).2.2.toNat + 1) b l r k else T t b l ((pln N P all jr jb cl kl t b l r).2.2.toNat - 7) k ∨ T t b ((pln N P all jr jb cl kl t b l r).2.2.toNat - 7 + 1) r k))
def CS (N : Nat) (P all jr jb : BitVec 64) (cl kl : Int) (t b l r k : Nat) : Prop := ∀ T : Nat → Nat → Nat → Nat → Nat → Prop, (∀ t b l r k, StT N P all jr jb cl kl T t b l r k → T t b l r k) → T t b l r k
theorem StT.mono {T T' : Nat → Nat → Nat → Nat → Nat → Prop} (h : ∀ t b l r k, T t b l r k → T' t b l r k) {t b l r k : Nat} (hs : StT N P all jr jb cl kl T t b l r k) : StT N P all jr jb cl kl T' t b l r k := by
  obtain ⟨h1, h2⟩ := hs
  refine ⟨h1, ?_⟩
  rcases h2 with h2 | h2
  · exact Or.inl h2
  · refine Or.inr ?_
    by_cases c : (pln N P all jr jb cl kl t b l r).2.2.toNat < 7
    · rw [if_pos c] at h2 ⊢
      exact h2.imp (h _ _ _ _ _) (h _ _ _ _ _)
    · rw [if_neg c] at h2 ⊢
      exact h2.imp (h _ _ _ _ _) (h _ _ _ _ _)
theorem CS.in {t b l r k : Nat} (h : StT N P all jr jb cl kl (CS N P all jr jb cl kl) t b l r k) : CS N P all jr jb cl kl t b l r k := fun T hT => hT t b l r k (h.mono (fun _ _ _ _ _ hq => hq T hT))
theorem CS.iff {t b l r k : Nat} : CS N P all jr jb cl kl t b l r k ↔ StT N P all jr jb cl kl (CS N P all jr jb cl kl) t b l r k :=
  ⟨fun h => h (fun t b l r k => StT N P all jr jb cl kl (CS N P all jr jb cl kl) t b l r k) (fun _ _ _ _ _ hs => hs.mono (fun _ _ _ _ _ hq => CS.in hq)), CS.in⟩
theorem CS.none {t b l r k : Nat} (h : (pln N P all jr jb cl kl t b l r).2.2 = -1) : ¬ CS N P all jr jb cl kl t b l r k := fun hc => (CS.iff.mp hc).1 h
theorem CS.joined {t b l r k : Nat} (h : CS N P all jr jb cl kl t b l r k) : (k < 49 → jr.getLsbD (eb k) = true) ∧ (49 ≤ k → jb.getLsbD (eb (k - 49)) = true) := by
  refine h (fun _ _ _ _ k => (k < 49 → jr.getLsbD (eb k) = true) ∧ (49 ≤ k → jb.getLsbD (eb (k - 49)) = true)) (fun t b l r k hs => ?_)
  obtain ⟨-, h2⟩ := hs
  rcases h2 with h2 | h2
  · unfold LnS at h2
    by_cases c : (pln N P all jr jb cl kl t b l r).2.2.toNat < 7
    · rw [if_pos c] at h2
      exact ⟨fun hk => by omega, fun _ => h2.2.2.2.2.2⟩
    · rw [if_neg c] at h2
      exact ⟨fun _ => h2.2.2.2.2.2, fun hk => by omega⟩
  · by_cases c : (pln N P all jr jb cl kl t b l r).2.2.toNat < 7
    · rw [if_pos c] at h2
      exact h2.elim id id
    · rw [if_neg c] at h2
      exact h2.elim id id
def bk (x y : BitVec 64) (k : Nat) : Prop := if k < 49 then x.getLsbD (eb k) = true else y.getLsbD (eb (k - 49)) = true
theorem bk_r {x x' y z : BitVec 64} {t b l r ln : Nat} (hln : 7 ≤ ln) (hl7 : ln - 7 < 7) (hb6 : b ≤ 6) (hz : ∀ i, z.getLsbD i = true ↔ (P.getLsbD i = true ∧ jr.getLsbD i = true) ∧ i % 8 = ln - 7 ∧ t ≤ i / 8 ∧ i / 8 ≤ b) (hx : x' = x ||| z) {k : Nat} (hk : k < 98) : bk x' y k ↔ bk x y k ∨ LnS P jr jb t b l r ln k := by
  unfold bk LnS
  rw [if_neg (show ¬ ln < 7 by omega)]
  by_cases c : k < 49
  · rw [if_pos c, if_pos c, hx, gl_or, Bool.or_eq_true, hz]
    obtain ⟨e1, e2, -⟩ := eb_rc k
    rw [e1, e2]
    constructor
    · rintro (h | ⟨⟨h1, h2⟩, h3, h4, h5⟩)
      · exact Or.inl h
      · exact Or.inr ⟨c, h3, h4, h5, h1, h2⟩
    · rintro (h | ⟨_, h3, h4, h5, h1, h2⟩)
      · exact Or.inl h
      · exact Or.inr ⟨⟨h1, h2⟩, h3, h4, h5⟩
  · rw [if_neg c, if_neg c]
    constructor
    · intro h; exact Or.inl h
    · rintro (h | ⟨h, _⟩)
      · exact h
      · omega
theorem bk_b {x y y' z : BitVec 64} {t b l r ln : Nat} (hln : ln < 7) (hr6 : r ≤ 6) (hz : ∀ i, z.getLsbD i = true ↔ (P.getLsbD i = true ∧ jb.getLsbD i = true) ∧ i / 8 = ln ∧ l ≤ i % 8 ∧ i % 8 ≤ r) (hy : y' = y ||| z) {k : Nat} (hk : k < 98) : bk x y' k ↔ bk x y k ∨ LnS P jr jb t b l r ln k := by
  unfold bk LnS
  rw [if_pos hln]
  by_cases c : k < 49
  · rw [if_pos c, if_pos c]
    constructor
    · intro h; exact Or.inl h
    · rintro (h | ⟨h, _⟩)
      · exact h
      · omega
  · rw [if_neg c, if_neg c, hy, gl_or, Bool.or_eq_true, hz]
    obtain ⟨e1, e2, -⟩ := eb_rc (k - 49)
    rw [e1, e2]
    constructor
    · rintro (h | ⟨⟨h1, h2⟩, h3, h4, h5⟩)
      · exact Or.inl h
      · exact Or.inr ⟨by omega, h3, h4, h5, h1, h2⟩
    · rintro (h | ⟨_, h3, h4, h5, h1, h2⟩)
      · exact Or.inl h
      · exact Or.inr ⟨⟨h1, h2⟩, h3, h4, h5⟩
theorem grid_or {x y : BitVec 64} (h1 : Grid x) (h2 : Grid y) : Grid (x ||| y) := fun i hi => by
  rw [gl_or, Bool.or_eq_true] at hi
  exact hi.elim (h1 i) (h2 i)
theorem sp_cutPart (hN : 4000 ≤ N) (hg : Grid P) (ho : EmOk (emB N P all jr jb cl kl) (cbB P jb) (crB P jr)) {t0 b0 l0 r0 : Nat} {w ln : Int → Int} (hS : SPT N P all jr jb cl kl t0 b0 l0 r0 w ln) (hb0 : b0 ≤ 6) (hr0 : r0 ≤ 6) :
    ∀ (d t b l r dep : Nat) (cr cb : BitVec 64), t0 ≤ t → t ≤ b → b ≤ b0 → l0 ≤ l → l ≤ r → r ≤ r0 → (b - t) + (r - l) < d → dep + ((b - t) + (r - l)) ≤ 14 → Grid cr → Grid cb →
      ∃ cr' cb', f_sp_cutPart N d (t : Int) (b : Int) (l : Int) (r : Int) (dep : Int) cr cb jr jb P ln = some (cr', cb') ∧ Grid cr' ∧ Grid cb' ∧ ∀ k, k < 98 → (bk cr' cb' k ↔ bk cr cb k ∨ CS N P all jr jb cl kl t b l r k) := by
  intro d
  induction d with
  | zero => intro t b l r dep cr cb h1 h2 h3 h4 h5 h6 h7; omega
  | succ d ih =>
    intro t b l r dep cr cb h1 h2 h3 h4 h5 h6 h7 h8 g1 g2
    have hln := (hS t b l r h1 h2 h3 h4 h5 h6).2
    have hlim := pl_lim ho h2 (show b ≤ 6 by omega) h5 (show r ≤ 6 by omega)
    have hbd := pl_bound ho _ t b l r (Nat.le_refl _) h2 (show b ≤ 6 by omega) h5 (show r ≤ 6 by omega)
    have hlx : -1 ≤ (pln N P all jr jb cl kl t b l r).2.2 ∧ (pln N P all jr jb cl kl t b l r).2.2 ≤ 13 := ⟨hlim.2.2.2.2.1, hlim.2.2.2.2.2.1⟩
    have hpl := plc_lt h2 (show b ≤ 6 by omega) h5 (show r ≤ 6 by omega)
    rw [f_sp_cutPart.eq_2]
    rw [sp_place (by omega) (by omega), bd_some, og_pos (by omega), bd_some, hln, og_pos (by omega)]
    by_cases c : (pln N P all jr jb cl kl t b l r).2.2 = -1
    · rw [if_pos c]
      exact ⟨cr, cb, rfl, g1, g2, fun k hk => ⟨Or.inl, fun hq => hq.elim id (fun hc => absurd hc (CS.none c))⟩⟩
    · rw [if_neg c, og_pos (by omega), if_pos (by omega)]
      have hL : plLine t b l r (pln N P all jr jb cl kl t b l r) := hbd.2.1 (Classical.byContradiction fun hq => c (hlim.2.2.2.2.2.2.mpr hq))
      obtain ⟨x, x1, x2⟩ := ce_block (N := N) hN (t := t) (b := b) (l := l) (r := r) (by omega) h2 (by omega) h5
      have hbits : ∀ i, (P &&& x).getLsbD i = true ↔ P.getLsbD i = true ∧ t ≤ i / 8 ∧ i / 8 ≤ b ∧ l ≤ i % 8 ∧ i % 8 ≤ r := fun i => by
        rw [gl_and, Bool.and_eq_true, x2 i]
      rw [x1, bd_some, bd_some]
      have hgen : ∀ (k : Nat) (T : Nat → Nat → Nat → Nat → Nat → Prop), StT N P all jr jb cl kl T t b l r k ↔ (LnS P jr jb t b l r (pln N P all jr jb cl kl t b l r).2.2.toNat k ∨ (if (pln N P all jr jb cl kl t b l r).2.2.toNat < 7 then T t (pln N P all jr jb cl kl t b l r).2.2.toNat l r k ∨ T ((pln N P all jr jb cl kl t b l r).2.2.toNat + 1) b l r k else T t b l ((pln N P all jr jb cl kl t b l r).2.2.toNat - 7) k ∨ T t b ((pln N P all jr jb cl kl t b l r).2.2.toNat - 7 + 1) r k)) := fun k T => ⟨fun hq => hq.2, fun hq => ⟨c, hq⟩⟩
      unfold plLine at hL
      obtain ⟨m, hm⟩ : ∃ m : Nat, (pln N P all jr jb cl kl t b l r).2.2 = m := ⟨(pln N P all jr jb cl kl t b l r).2.2.toNat, by omega⟩
      rw [hm] at hL hgen ⊢
      rw [show ((m : Nat) : Int).toNat = m by omega] at hgen
      by_cases c7 : 7 ≤ m
      · rw [if_pos (by omega), bd_some, show (m : Int) - 7 = ((m - 7 : Nat) : Int) by omega]
        obtain ⟨y, y1, y2, -⟩ := sp_right (N := N) (k := m - 7) (jr := jr) (show b ≤ 6 by omega) (show r ≤ 6 by omega) hbits (by omega) (by omega)
        rw [y1, bd_some, bd_some, show (dep : Int) + 1 = ((dep + 1 : Nat) : Int) by omega, show ((m - 7 : Nat) : Int) + 1 = ((m - 7 + 1 : Nat) : Int) by omega]
        have hgy : Grid y := fun i hi => hg i ((y2 i).mp hi).1.1
        obtain ⟨cr1, cb1, p1, p2, p3, p4⟩ := ih t b l (m - 7) (dep + 1) (cr ||| y) cb h1 h2 h3 h4 (by omega) (by omega) (by omega) (by omega) (grid_or g1 hgy) g2
        obtain ⟨cr2, cb2, q1, q2, q3, q4⟩ := ih t b (m - 7 + 1) r (dep + 1) cr1 cb1 h1 h2 h3 (by omega) (by omega) h6 (by omega) (by omega) p2 p3
        rw [p1, bd_some]
        refine ⟨cr2, cb2, ?_, q2, q3, fun k hk => ?_⟩
        · show Option.bind (f_sp_cutPart N d (t : Int) (b : Int) ((m - 7 + 1 : Nat) : Int) (r : Int) ((dep + 1 : Nat) : Int) cr1 cb1 jr jb P ln) _ = _
          rw [q1, bd_some]
        · rw [q4 k hk, p4 k hk, bk_r (P := P) (jr := jr) (jb := jb) (t := t) (b := b) (l := l) (r := r) (ln := m) c7 (by omega) (by omega) y2 rfl hk, CS.iff (t := t) (b := b) (l := l) (r := r), hgen, if_neg (show ¬ m < 7 by omega)]
          constructor
          · rintro (((h | h) | h) | h)
            · exact Or.inl h
            · exact Or.inr (Or.inl h)
            · exact Or.inr (Or.inr (Or.inl h))
            · exact Or.inr (Or.inr (Or.inr h))
          · rintro (h | h | h | h)
            · exact Or.inl (Or.inl (Or.inl h))
            · exact Or.inl (Or.inl (Or.inr h))
            · exact Or.inl (Or.inr h)
            · exact Or.inr h
      · rw [if_neg (by omega)]
        obtain ⟨y, y1, y2, -⟩ := sp_below (N := N) (k := m) (jb := jb) (show b ≤ 6 by omega) (show r ≤ 6 by omega) hbits (by omega) (by omega)
        rw [y1, bd_some, bd_some, show (dep : Int) + 1 = ((dep + 1 : Nat) : Int) by omega, show (m : Int) + 1 = ((m + 1 : Nat) : Int) by omega]
        have hgy : Grid y := fun i hi => hg i ((y2 i).mp hi).1.1
        obtain ⟨cr1, cb1, p1, p2, p3, p4⟩ := ih t m l r (dep + 1) cr (cb ||| y) h1 (by omega) (by omega) h4 h5 h6 (by omega) (by omega) g1 (grid_or g2 hgy)
        obtain ⟨cr2, cb2, q1, q2, q3, q4⟩ := ih (m + 1) b l r (dep + 1) cr1 cb1 (by omega) (by omega) h3 h4 h5 h6 (by omega) (by omega) p2 p3
        rw [p1, bd_some]
        refine ⟨cr2, cb2, ?_, q2, q3, fun k hk => ?_⟩
        · show Option.bind (f_sp_cutPart N d ((m + 1 : Nat) : Int) (b : Int) (l : Int) (r : Int) ((dep + 1 : Nat) : Int) cr1 cb1 jr jb P ln) _ = _
          rw [q1, bd_some]
        · rw [q4 k hk, p4 k hk, bk_b (P := P) (jr := jr) (jb := jb) (t := t) (b := b) (l := l) (r := r) (ln := m) (by omega) (by omega) y2 rfl hk, CS.iff (t := t) (b := b) (l := l) (r := r), hgen, if_pos (show m < 7 by omega)]
          constructor
          · rintro (((h | h) | h) | h)
            · exact Or.inl h
            · exact Or.inr (Or.inl h)
            · exact Or.inr (Or.inr (Or.inl h))
            · exact Or.inr (Or.inr (Or.inr h))
          · rintro (h | h | h | h)
            · exact Or.inl (Or.inl (Or.inl h))
            · exact Or.inl (Or.inl (Or.inr h))
            · exact Or.inl (Or.inr h)
            · exact Or.inr h
end CUTSET
