/-! ===== PURE: the reference's count of holes ===== -/
def oth (R C : Nat) (S : Nat → Bool) (v : Nat) : Prop := v < 49 ∧ v / 7 < R ∧ v % 7 < C ∧ S v = false
theorem eh_in {R C : Nat} {S : Nat → Bool} {s v : Nat} (hs : oth R C S s) (h : Rch (EH R C S) (fun a => a = s) v) : oth R C S v :=
  h.ind (oth R C S) (fun a ha => by rw [ha]; exact hs) (fun _ _ _ _ hE => hE.2)
theorem eh_symm {R C : Nat} {S : Nat → Bool} {s v : Nat} (hs : oth R C S s) (h : Rch (EH R C S) (fun a => a = s) v) : Rch (EH R C S) (fun a => a = v) s := by
  refine h.ind (fun z => Rch (EH R C S) (fun w => w = z) s) (fun z hz => by rw [hz]; exact Rch.start rfl) (fun x y hx hT hE => ?_)
  have h1 : Rch (EH R C S) (fun w => w = y) x := (Rch.start rfl : Rch (EH R C S) (fun w => w = y) y).step ⟨⟨hE.1.2.1, hE.1.1, hE.1.2.2.2, hE.1.2.2.1⟩, eh_in hs hx⟩
  exact h1.trans hT
/-- the first cell of a hole -/
def hroot (R C : Nat) (S : Nat → Bool) (s : Nat) : Prop := oth R C S s ∧ ∀ t, Rch (EH R C S) (fun a => a = s) t → s ≤ t ∧ edg R C t = false
noncomputable def isT (P : Prop) : Bool := @decide P (Classical.propDecidable P)
theorem isT_t {P : Prop} (h : P) : isT P = true := by unfold isT; exact @decide_eq_true P (Classical.propDecidable P) h
theorem isT_f {P : Prop} (h : ¬ P) : isT P = false := by unfold isT; exact @decide_eq_false P (Classical.propDecidable P) h
theorem isT_p {P : Prop} (h : isT P = true) : P := by unfold isT at h; exact @of_decide_eq_true P (Classical.propDecidable P) h
theorem isT_c {P Q : Prop} (h : P ↔ Q) : isT P = isT Q := by rw [propext h]
noncomputable def holeN (R C : Nat) (S : Nat → Bool) : Int := cntB (fun s => isT (hroot R C S s)) 49
theorem holes_scan {N R C : Nat} (hN : 4000 ≤ N) {now marks : Int → Int} {jr jb : BitVec 64} (h : MD now R C jr jb) {id : Int} (hid : xR id) (hm : ∀ j : Int, 0 ≤ j → j < 49 → xR (marks j)) :
    ∀ (n k : Nat) (q s0 : Int → Int), k ≤ 49 → 49 < n + k → (∀ v : Nat, v < 49 → s0 v = 0 ∨ s0 v = 1) → (∀ v : Nat, v < 49 → (s0 v = 1 ↔ ∃ t, t < k ∧ oth R C (fun z => decide (marks (z : Int) = id)) t ∧ Rch (EH R C (fun z => decide (marks (z : Int) = id))) (fun a => a = t) v)) →
      ∃ (q1 s1 : Int → Int), f_mo_holesOf_26 N id now marks n (cntB (fun s => isT (hroot R C (fun z => decide (marks (z : Int) = id)) s)) k) k q s0 = some (holeN R C (fun z => decide (marks (z : Int) = id)), q1, s1) := by
  have hb7 := h.2.2.1
  generalize hS : (fun z : Nat => decide (marks (z : Int) = id)) = S
  intro n
  induction n with
  | zero => intro k q s0 hk hn; omega
  | succ n ih =>
    intro k q s0 hk hn h01 hI
    rw [f_mo_holesOf_26.eq_2, og_pos (by omega)]
    by_cases hend : k = 49
    · subst hend
      rw [if_pos (by omega)]
      exact ⟨q, s0, rfl⟩
    · have hk49 : k < 49 := by omega
      have e1 : (k : Int) + 1 = ((k + 1 : Nat) : Int) := by omega
      rw [if_neg (by omega), og_pos (by omega), mo_isCell h (by omega) (by omega), bd_some]
      -- a cell that isn't one of the others
      have hskip : ¬ oth R C S k → (∀ v : Nat, v < 49 → (s0 v = 1 ↔ ∃ t, t < k + 1 ∧ oth R C S t ∧ Rch (EH R C S) (fun a => a = t) v)) ∧ cntB (fun s => isT (hroot R C S s)) (k + 1) = cntB (fun s => isT (hroot R C S s)) k := by
        intro hno
        refine ⟨fun v hv => ?_, ?_⟩
        · rw [hI v hv]
          constructor
          · rintro ⟨t, ht, h1⟩; exact ⟨t, by omega, h1⟩
          · rintro ⟨t, ht, h1⟩
            refine ⟨t, ?_, h1⟩
            have : t ≠ k := fun e => hno (e ▸ h1.1)
            omega
        · rw [cntB_s, isT_f (fun hq => hno hq.1)]; simp
      by_cases hc : 0 ≤ (k : Int) / 7 ∧ (k : Int) / 7 < R ∧ 0 ≤ (k : Int) % 7 ∧ (k : Int) % 7 < C
      · rw [if_pos hc, og_pos (by decide), if_neg (by decide), og_pos (by omega), og_pos (hm _ (by omega) (by omega)), og_pos hid]
        have hSk : S k = decide (marks (k : Int) = id) := by rw [← hS]
        by_cases hmk : marks (k : Int) = id
        · rw [if_pos hmk, bd_some, e1]
          obtain ⟨g1, g2⟩ := hskip (fun hq => by have := hq.2.2.2; rw [hSk] at this; simp [hmk] at this)
          rw [← g2]
          exact ih (k + 1) q s0 (by omega) (by omega) h01 g1
        · have ho : oth R C S k := ⟨hk49, by omega, by omega, by rw [hSk]; simp [hmk]⟩
          have hx : xR (s0 k) := by have := h01 k hk49; omega
          rw [if_neg hmk, og_pos hx]
          by_cases hs : s0 k = 0
          · rw [if_pos hs]
            have hfree : ∀ t, t < k → oth R C S t → ¬ Rch (EH R C S) (fun a => a = t) k := fun t ht hot hr => by
              have := (hI k hk49).mpr ⟨t, ht, hot, hr⟩
              omega
            obtain ⟨is, q1, s1, r1, r2, r3, r4, r5⟩ := mo_isHole (q0 := q) hN h hid hm hk49 h01 (fun v hv => by
              rw [hS] at hv
              have hov := eh_in ho hv
              refine ⟨hov.1, ?_⟩
              rcases h01 v hov.1 with h1 | h1
              · exact h1
              · obtain ⟨t, ht, hot, hr⟩ := (hI v hov.1).mp h1
                exact absurd (hr.trans (eh_symm ho hv)) (hfree t ht hot))
            rw [hS] at r3 r5
            rw [r1, bd_some]
            show ∃ (q1' s1' : Int → Int), (og (xR is) <| Option.bind (if is = 0 then some 0 else some 1) fun r_38 => Option.bind (some (cntB (fun s => isT (hroot R C S s)) k + r_38)) fun l3_39 => Option.bind (some ((k : Int) + 1)) fun l4_40 => f_mo_holesOf_26 N id now marks n l3_39 l4_40 q1 s1) = some (holeN R C S, q1', s1')
            have hroot_is : cntB (fun s => isT (hroot R C S s)) (k + 1) = cntB (fun s => isT (hroot R C S s)) k + is := by
              rw [cntB_s]
              rcases r2 with h0 | h1
              · rw [isT_f (fun hq => by have := r3.mpr (fun u hu => (hq.2 u hu).2); omega), h0]; simp
              · rw [isT_t ⟨ho, fun t ht => ⟨by
                  apply Classical.byContradiction
                  intro hlt
                  exact hfree t (by omega) (eh_in ho ht) (eh_symm ho ht), (r3.mp h1) t ht⟩⟩, h1]; simp
            have hif : (if is = 0 then some (0 : Int) else some 1) = some is := by
              rcases r2 with h0 | h0 <;> rw [h0] <;> rfl
            rw [og_pos (by omega), hif, bd_some, bd_some, bd_some, ← hroot_is, e1]
            refine ih (k + 1) q1 s1 (by omega) (by omega) r4 (fun v hv => ?_)
            rw [r5 v hv, hI v hv]
            constructor
            · rintro (⟨t, ht, h1⟩ | h1)
              · exact ⟨t, by omega, h1⟩
              · exact ⟨k, by omega, ho, h1⟩
            · rintro ⟨t, ht, h1, h2⟩
              by_cases htk : t = k
              · subst htk; exact Or.inr h2
              · exact Or.inl ⟨t, by omega, h1, h2⟩
          · rw [if_neg hs, bd_some, e1]
            obtain ⟨t0, ht0, hot0, hr0⟩ := (hI k hk49).mp (by have := h01 k hk49; omega)
            have g2 : cntB (fun s => isT (hroot R C S s)) (k + 1) = cntB (fun s => isT (hroot R C S s)) k := by
              rw [cntB_s, isT_f (fun hq => by have := (hq.2 t0 (eh_symm hot0 hr0)).1; omega)]; simp
            rw [← g2]
            refine ih (k + 1) q s0 (by omega) (by omega) h01 (fun v hv => ?_)
            rw [hI v hv]
            constructor
            · rintro ⟨t, ht, h1⟩; exact ⟨t, by omega, h1⟩
            · rintro ⟨t, ht, h1, h2⟩
              by_cases htk : t = k
              · subst htk; exact ⟨t0, ht0, hot0, hr0.trans h2⟩
              · exact ⟨t, by omega, h1, h2⟩
      · rw [if_neg hc, og_pos (by decide), if_pos rfl, bd_some, e1]
        obtain ⟨g1, g2⟩ := hskip (fun hq => by have := hq.1; have := hq.2.1; have := hq.2.2.1; omega)
        rw [← g2]
        exact ih (k + 1) q s0 (by omega) (by omega) h01 g1
theorem holes_clear {N R C : Nat} (hN : 4000 ≤ N) {now marks : Int → Int} {jr jb : BitVec 64} (h : MD now R C jr jb) {id : Int} (hid : xR id) (hm : ∀ j : Int, 0 ≤ j → j < 49 → xR (marks j)) {q : Int → Int} :
    ∀ (n k : Nat) (s0 : Int → Int), k ≤ 49 → 49 < n + k → (∀ v : Nat, v < k → s0 v = 0) →
      ∃ (q1 s1 : Int → Int), f_mo_holesOf_2 N id q now marks n k s0 = some (holeN R C (fun z => decide (marks (z : Int) = id)), q1, s1) := by
  intro n
  induction n with
  | zero => intro k s0 hk hn; omega
  | succ n ih =>
    intro k s0 hk hn h0
    rw [f_mo_holesOf_2.eq_2, og_pos (by omega)]
    by_cases hend : k = 49
    · subst hend
      rw [if_pos (by omega)]
      have := holes_scan hN h hid hm N 0 q s0 (by omega) (by omega) (fun v hv => Or.inl (h0 v hv)) (fun v hv => ⟨fun h1 => by have := h0 v hv; omega, fun ⟨t, ht, _⟩ => by omega⟩)
      exact this
    · rw [if_neg (by omega), og_pos (by omega), bd_some, bd_some, show (k : Int) + 1 = ((k + 1 : Nat) : Int) by omega]
      refine ih (k + 1) _ (by omega) (by omega) (fun v hv => ?_)
      by_cases hvk : (v : Int) = k
      · rw [hvk, upi_s]
      · rw [upi_n _ _ hvk]; exact h0 v (by omega)
theorem mo_holesOf {N R C : Nat} (hN : 4000 ≤ N) {now marks : Int → Int} {jr jb : BitVec 64} (h : MD now R C jr jb) {id : Int} (hid : xR id) (hm : ∀ j : Int, 0 ≤ j → j < 49 → xR (marks j)) {q s0 : Int → Int} :
    ∃ (q1 s1 : Int → Int), f_mo_holesOf N id now q s0 marks = some (holeN R C (fun z => decide (marks (z : Int) = id)), q1, s1) :=
  holes_clear hN h hid hm N 0 s0 (by omega) (by omega) (fun v hv => by omega)
