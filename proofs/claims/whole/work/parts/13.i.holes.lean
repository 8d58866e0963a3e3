/-! ===== PURE: the reference's holes ===== -/
/-- a step over sides or corners to another cell of the drawing, that isn't marked id -/
def EH (R C : Nat) (S : Nat → Bool) (u v : Nat) : Prop := (v / 7 ≤ u / 7 + 1 ∧ u / 7 ≤ v / 7 + 1 ∧ v % 7 ≤ u % 7 + 1 ∧ u % 7 ≤ v % 7 + 1) ∧ v < 49 ∧ v / 7 < R ∧ v % 7 < C ∧ S v = false
def kto (u w : Nat) : Int := 7 * ((u : Int) / 7 + (w : Int) / 3 - 1) + (u : Int) % 7 + (w : Int) % 3 - 1
def kok (R C : Nat) (marks : Int → Int) (id : Int) (u w : Nat) : Bool := decide ((0 ≤ (u : Int) / 7 + (w : Int) / 3 - 1 ∧ (u : Int) / 7 + (w : Int) / 3 - 1 < R ∧ 0 ≤ (u : Int) % 7 + (w : Int) % 3 - 1 ∧ (u : Int) % 7 + (w : Int) % 3 - 1 < C) ∧ ¬ marks (kto u w) = id)
def pss (v : Int) (ok : Bool) (st : Int × (Int → Int) × (Int → Int)) : Int × (Int → Int) × (Int → Int) := if ok = true ∧ st.2.2 v = 0 then (st.1 + 1, upi st.2.1 st.1 v, upi st.2.2 v 1) else st
theorem pss_t {v : Int} {ok : Bool} {st : Int × (Int → Int) × (Int → Int)} (h1 : ok = true) (h2 : st.2.2 v = 0) : pss v ok st = (st.1 + 1, upi st.2.1 st.1 v, upi st.2.2 v 1) := if_pos ⟨h1, h2⟩
theorem pss_f {v : Int} {ok : Bool} {st : Int × (Int → Int) × (Int → Int)} (h : ¬ (ok = true ∧ st.2.2 v = 0)) : pss v ok st = st := if_neg h
theorem hole_way {N R C : Nat} {now marks : Int → Int} {jr jb : BitVec 64} (h : MD now R C jr jb) {id : Int} (hid : xR id) (hm : ∀ j : Int, 0 ≤ j → j < 49 → xR (marks j)) {u : Nat} (hu : u < 49) {is k : Int} (k23 : Int → Int → Int → (Int → Int) → (Int → Int) → Option (Int × (Int → Int) × (Int → Int))) {w : Nat} (hw : w < 9) {st : Int × (Int → Int) × (Int → Int)} (hx : ∀ j : Int, 0 ≤ j → j < 49 → xR (st.2.2 j)) (hr : kok R C marks id u w = true → st.2.2 (kto u w) = 0 → 0 ≤ st.1 ∧ st.1 < 49) (n : Nat) :
    f_mo_isHole_83 N id is k ((u : Int) / 7) ((u : Int) % 7) now marks k23 (n + 1) st.1 w st.2.1 st.2.2 = f_mo_isHole_83 N id is k ((u : Int) / 7) ((u : Int) % 7) now marks k23 n (pss (kto u w) (kok R C marks id u w) st).1 ((w : Int) + 1) (pss (kto u w) (kok R C marks id u w) st).2.1 (pss (kto u w) (kok R C marks id u w) st).2.2 := by
  have hb7 := h.2.2.1
  rw [f_mo_isHole_83.eq_2, og_pos (by omega), if_neg (by omega), og_pos (by omega), bd_some, mo_isCell h (by omega) (by omega), bd_some]
  have e0 : 7 * ((u : Int) / 7 + (w : Int) / 3 - 1) + (u : Int) % 7 + (w : Int) % 3 - 1 = kto u w := rfl
  rw [e0]
  by_cases hc : 0 ≤ (u : Int) / 7 + (w : Int) / 3 - 1 ∧ (u : Int) / 7 + (w : Int) / 3 - 1 < R ∧ 0 ≤ (u : Int) % 7 + (w : Int) % 3 - 1 ∧ (u : Int) % 7 + (w : Int) % 3 - 1 < C
  · have hto : 0 ≤ kto u w ∧ kto u w < 49 := by unfold kto; omega
    rw [if_pos hc, og_pos (by decide), if_neg (by decide), og_pos hto, og_pos (hm _ hto.1 hto.2), og_pos hid]
    by_cases hmk : marks (kto u w) = id
    · rw [if_pos hmk, bd_some, bd_some, pss_f (fun hq => by have := hq.1; unfold kok at this; simp at this; exact this.2 hmk)]
    · have hok : kok R C marks id u w = true := by unfold kok; exact decide_eq_true ⟨hc, hmk⟩
      rw [if_neg hmk, og_pos (hx _ hto.1 hto.2)]
      by_cases hs : st.2.2 (kto u w) = 0
      · rw [if_pos hs, bd_some, og_pos (hr hok hs), bd_some, bd_some, bd_some, bd_some, pss_t hok hs]
      · rw [if_neg hs, bd_some, bd_some, pss_f (fun hq => hs hq.2)]
  · rw [if_neg hc, og_pos (by decide), if_pos rfl, bd_some, bd_some, pss_f (fun hq => by have := hq.1; unfold kok at this; rw [decide_eq_true_eq] at this; exact hc this.1)]
theorem kok_E {R C : Nat} (hb : R ≤ 7 ∧ C ≤ 7) {marks : Int → Int} {id : Int} {u : Nat} (hu : u < 49) {w : Nat} (hw : w < 9) (h : kok R C marks id u w = true) : ∃ v : Nat, kto u w = v ∧ EH R C (fun z => decide (marks (z : Int) = id)) u v := by
  unfold kok at h
  rw [decide_eq_true_eq] at h
  obtain ⟨h1, h2⟩ := h
  have hto : kto u w = ((7 * (u / 7 + w / 3 - 1) + (u % 7 + w % 3 - 1) : Nat) : Int) := by unfold kto; omega
  refine ⟨_, hto, ⟨by omega, by omega, by omega, by omega⟩, by omega, by omega, by omega, ?_⟩
  rw [hto] at h2
  simp only [decide_eq_false_iff_not]
  exact h2
theorem E_kok {R C : Nat} (hb : R ≤ 7 ∧ C ≤ 7) {marks : Int → Int} {id : Int} {u v : Nat} (hu : u < 49) (h : EH R C (fun z => decide (marks (z : Int) = id)) u v) : ∃ w, w < 9 ∧ kok R C marks id u w = true ∧ kto u w = v := by
  obtain ⟨h1, h2, h3, h4, h5⟩ := h
  simp only [decide_eq_false_iff_not] at h5
  have hto : kto u (3 * (v / 7 + 1 - u / 7) + (v % 7 + 1 - u % 7)) = v := by
    unfold kto
    omega
  refine ⟨3 * (v / 7 + 1 - u / 7) + (v % 7 + 1 - u % 7), by omega, ?_, hto⟩
  unfold kok
  rw [decide_eq_true_eq, hto]
  refine ⟨?_, h5⟩
  omega
/-- what holds in the queue of a hole -/
def SQ (E : Nat → Nat → Prop) (s : Nat) (s0 : Int → Int) (st : Int × (Int → Int) × (Int → Int)) : Prop :=
  cntB (fun v => decide (st.2.2 (v : Int) = 1)) 49 = cntB (fun v => decide (s0 (v : Int) = 1)) 49 + st.1 ∧ 0 ≤ st.1 ∧
  (∀ i : Nat, (i : Int) < st.1 → ∃ v : Nat, v < 49 ∧ st.2.1 i = v ∧ st.2.2 v = 1 ∧ Rch E (fun a => a = s) v) ∧
  (∀ v : Nat, v < 49 → st.2.2 v = 1 → s0 v = 1 ∨ ∃ i : Nat, (i : Int) < st.1 ∧ st.2.1 i = v) ∧
  (∀ j : Int, st.2.2 j = s0 j ∨ ∃ v : Nat, j = v ∧ v < 49 ∧ Rch E (fun a => a = s) v ∧ st.2.2 j = 1)
theorem SQ.room {E : Nat → Nat → Prop} {s : Nat} {s0 : Int → Int} {st : Int × (Int → Int) × (Int → Int)} (h : SQ E s s0 st) {v : Nat} (hv : v < 49) (hm : st.2.2 v = 0) : 0 ≤ st.1 ∧ st.1 < 49 := by
  have h0 := cntB_nn (fun v => decide (s0 (v : Int) = 1)) 49
  have h2 := cntB_lt (p := fun v => decide (st.2.2 (v : Int) = 1)) (q := fun _ => true) (n := 49) (k := v) (fun _ _ _ => rfl) hv (by simp; omega) rfl
  rw [cntB_true, h.1] at h2
  have := h.2.1
  omega
theorem SQ.le {E : Nat → Nat → Prop} {s : Nat} {s0 : Int → Int} {st : Int × (Int → Int) × (Int → Int)} (h : SQ E s s0 st) : st.1 ≤ 49 := by
  have h0 := cntB_nn (fun v => decide (s0 (v : Int) = 1)) 49
  have h1 := cntB_nn (fun v => decide (st.2.2 (v : Int) = 1)) 49
  rw [h.1] at h1
  omega
theorem sq_psh {E : Nat → Nat → Prop} {s : Nat} {s0 : Int → Int} {st : Int × (Int → Int) × (Int → Int)} (h : SQ E s s0 st) (h01 : ∀ v : Nat, v < 49 → s0 v = 0 ∨ s0 v = 1) {v : Nat} {ok : Bool} (hv : ok = true → v < 49 ∧ Rch E (fun a => a = s) v) :
    SQ E s s0 (pss v ok st) ∧ (∀ j : Int, st.2.2 j = 1 → (pss v ok st).2.2 j = 1) ∧ (∀ i : Nat, (i : Int) < st.1 → (pss v ok st).2.1 i = st.2.1 i) ∧ st.1 ≤ (pss v ok st).1 ∧ (ok = true → (pss v ok st).2.2 v = 1) := by
  obtain ⟨b1, b0, b2, b3, b4⟩ := h
  by_cases hc : ok = true ∧ st.2.2 v = 0
  · obtain ⟨hv1, hv2⟩ := hv hc.1
    rw [pss_t hc.1 hc.2]
    refine ⟨⟨?_, ?_, ?_, ?_, ?_⟩, ?_, ?_, ?_, ?_⟩
    · show cntB (fun w => decide (upi st.2.2 v 1 (w : Int) = 1)) 49 = _ + (st.1 + 1)
      rw [← Int.add_assoc, ← b1]
      refine cntB_upd (k := v) hv1 ?_ ?_ ?_
      · simp; omega
      · simp [upi_s]
      · intro i hi hne
        rw [upi_n _ _ (by omega)]
    · show 0 ≤ st.1 + 1
      omega
    · intro i hi
      have hi : (i : Int) < st.1 + 1 := hi
      by_cases hil : (i : Int) = st.1
      · exact ⟨v, hv1, by show upi st.2.1 st.1 (v : Int) (i : Int) = v; rw [hil, upi_s], by show upi st.2.2 v 1 v = 1; rw [upi_s], hv2⟩
      · obtain ⟨w, hw1, hw2, hw3, hw4⟩ := b2 i (by omega)
        refine ⟨w, hw1, by show upi st.2.1 st.1 (v : Int) (i : Int) = w; rw [upi_n _ _ hil]; exact hw2, ?_, hw4⟩
        show upi st.2.2 v 1 w = 1
        by_cases hwv : (w : Int) = v
        · rw [hwv, upi_s]
        · rw [upi_n _ _ hwv]; exact hw3
    · intro w hw hm
      have hm : upi st.2.2 v 1 w = 1 := hm
      by_cases hwv : (w : Int) = v
      · refine Or.inr ⟨st.1.toNat, ?_, ?_⟩
        · show ((st.1.toNat : Nat) : Int) < st.1 + 1
          omega
        · show upi st.2.1 st.1 (v : Int) ((st.1.toNat : Nat) : Int) = w
          rw [show ((st.1.toNat : Nat) : Int) = st.1 by omega, upi_s, hwv]
      · rw [upi_n _ _ hwv] at hm
        rcases b3 w hw hm with h1 | ⟨i, hi1, hi2⟩
        · exact Or.inl h1
        · refine Or.inr ⟨i, ?_, ?_⟩
          · show (i : Int) < st.1 + 1
            omega
          · show upi st.2.1 st.1 (v : Int) (i : Int) = w
            rw [upi_n _ _ (by omega)]; exact hi2
    · intro j
      show upi st.2.2 v 1 j = s0 j ∨ ∃ w : Nat, j = w ∧ w < 49 ∧ Rch E (fun a => a = s) w ∧ upi st.2.2 v 1 j = 1
      by_cases hj : j = v
      · exact Or.inr ⟨v, hj, hv1, hv2, by rw [hj, upi_s]⟩
      · rw [upi_n _ _ hj]; exact b4 j
    · intro j hj
      show upi st.2.2 v 1 j = 1
      by_cases hjv : j = v
      · rw [hjv, upi_s]
      · rw [upi_n _ _ hjv]; exact hj
    · intro i hi
      show upi st.2.1 st.1 (v : Int) (i : Int) = st.2.1 i
      rw [upi_n _ _ (by omega)]
    · show st.1 ≤ st.1 + 1
      omega
    · intro _
      show upi st.2.2 v 1 v = 1
      rw [upi_s]
  · rw [pss_f hc]
    refine ⟨⟨b1, b0, b2, b3, b4⟩, fun j hj => hj, fun i _ => rfl, Int.le_refl _, fun hok => ?_⟩
    obtain ⟨hv1, hv2⟩ := hv hok
    rcases b4 v with h1 | ⟨w, -, -, -, h1⟩
    · have h2 := h01 v hv1
      rcases h2 with h2 | h2
      · exact absurd ⟨hok, by omega⟩ hc
      · omega
    · exact h1
