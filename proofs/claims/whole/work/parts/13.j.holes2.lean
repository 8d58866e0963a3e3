/-! ===== PURE: the reference's holes, the search ===== -/
def edg (R C u : Nat) : Bool := decide (u / 7 = 0 ∨ u % 7 = 0 ∨ u / 7 + 1 = R ∨ u % 7 + 1 = C)
theorem mo_isEdge {N R C : Nat} {now : Int → Int} {jr jb : BitVec 64} (h : MD now R C jr jb) {u : Nat} (hu : u < 49) : f_mo_isEdge N u now = some (if edg R C u = true then 1 else 0) := by
  obtain ⟨h0, h1, hb7, -⟩ := h
  unfold f_mo_isEdge
  rw [h0, h1, og_pos (by omega), bd_some, bd_some, og_pos (by omega)]
  unfold edg
  by_cases c1 : u / 7 = 0
  · rw [if_pos (by omega), if_pos (by simp; omega)]
  · rw [if_neg (by omega), og_pos (by omega)]
    by_cases c2 : u % 7 = 0
    · rw [if_pos (by omega), if_pos (by simp; omega)]
    · rw [if_neg (by omega), og_pos (by omega)]
      by_cases c3 : u / 7 + 1 = R
      · rw [if_pos (by omega), if_pos (by simp; omega)]
      · rw [if_neg (by omega), og_pos (by omega)]
        by_cases c4 : u % 7 + 1 = C
        · rw [if_pos (by omega), if_pos (by simp; omega)]
        · rw [if_neg (by omega), if_neg (by simp; omega)]
theorem hole_cell {N R C : Nat} {now marks : Int → Int} {jr jb : BitVec 64} (h : MD now R C jr jb) {id : Int} (hid : xR id) (hm : ∀ j : Int, 0 ≤ j → j < 49 → xR (marks j)) {u : Nat} (hu : u < 49) {is k : Int} {s : Nat} {s0 : Int → Int} (h01 : ∀ v : Nat, v < 49 → s0 v = 0 ∨ s0 v = 1) (hu2 : Rch (EH R C (fun z => decide (marks (z : Int) = id))) (fun a => a = s) u) (k23 : Int → Int → Int → (Int → Int) → (Int → Int) → Option (Int × (Int → Int) × (Int → Int))) :
    ∀ (d w : Nat), w + d = 9 → ∀ (n : Nat) (st : Int × (Int → Int) × (Int → Int)), d < n → SQ (EH R C (fun z => decide (marks (z : Int) = id))) s s0 st → (∀ w' : Nat, w' < w → kok R C marks id u w' = true → st.2.2 (kto u w') = 1) →
      ∃ st', f_mo_isHole_83 N id is k ((u : Int) / 7) ((u : Int) % 7) now marks k23 n st.1 w st.2.1 st.2.2 = k23 is st'.1 (k + 1) st'.2.1 st'.2.2 ∧ SQ (EH R C (fun z => decide (marks (z : Int) = id))) s s0 st' ∧ (∀ w' : Nat, w' < 9 → kok R C marks id u w' = true → st'.2.2 (kto u w') = 1) ∧ (∀ j : Int, st.2.2 j = 1 → st'.2.2 j = 1) ∧ (∀ i : Nat, (i : Int) < st.1 → st'.2.1 i = st.2.1 i) ∧ st.1 ≤ st'.1 := by
  have hb7 := h.2.2.1
  intro d
  induction d with
  | zero =>
    intro w hw n st hn hB hW
    have hw4 : w = 9 := by omega
    subst hw4
    obtain ⟨n, rfl⟩ : ∃ m, n = m + 1 := ⟨n - 1, by omega⟩
    refine ⟨st, ?_, hB, hW, fun j hj => hj, fun i _ => rfl, Int.le_refl _⟩
    rw [f_mo_isHole_83.eq_2, og_pos (by omega), if_pos (by omega), bd_some]
  | succ d ih =>
    intro w hw n st hn hB hW
    obtain ⟨n, rfl⟩ : ∃ m, n = m + 1 := ⟨n - 1, by omega⟩
    have hx : ∀ j : Int, 0 ≤ j → j < 49 → xR (st.2.2 j) := fun j h1 h2 => by
      rcases hB.2.2.2.2 j with h3 | ⟨v, -, -, -, h3⟩
      · rw [h3]
        have := h01 j.toNat (by omega)
        rw [show ((j.toNat : Nat) : Int) = j by omega] at this
        omega
      · rw [h3]; omega
    rw [hole_way (N := N) h hid hm hu (is := is) (k := k) k23 (w := w) (by omega) hx (fun hok hneg => by
      obtain ⟨v, hv1, hv2⟩ := kok_E ⟨by omega, by omega⟩ hu (by omega) hok
      rw [hv1] at hneg
      exact hB.room hv2.2.1 hneg) n]
    by_cases hok : kok R C marks id u w = true
    · obtain ⟨v, hv1, hv2⟩ := kok_E ⟨by omega, by omega⟩ hu (by omega) hok
      rw [hv1]
      obtain ⟨p1, p2, p3, p4, p5⟩ := sq_psh hB h01 (v := v) (ok := kok R C marks id u w) (fun _ => ⟨hv2.2.1, hu2.step hv2⟩)
      have e1 : ((w + 1 : Nat) : Int) = (w : Int) + 1 := by omega
      rw [← e1]
      obtain ⟨st', q1, q2, q3, q4, q5, q6⟩ := ih (w + 1) (by omega) n _ (by omega) p1 (fun w' hw' hk => by
        by_cases hww : w' = w
        · subst hww
          rw [hv1]; exact p5 hok
        · exact p2 _ (hW w' (by omega) hk))
      exact ⟨st', q1, q2, q3, fun j hj => q4 j (p2 j hj), fun i hi => (q5 i (by omega)).trans (p3 i hi), by omega⟩
    · have e0 : pss (kto u w) (kok R C marks id u w) st = st := pss_f (fun hq => hok hq.1)
      rw [e0]
      have e1 : ((w + 1 : Nat) : Int) = (w : Int) + 1 := by omega
      rw [← e1]
      exact ih (w + 1) (by omega) n st (by omega) hB (fun w' hw' hk => by
        by_cases hww : w' = w
        · subst hww; exact absurd hk hok
        · exact hW w' (by omega) hk)
theorem hole_loop {N R C : Nat} (hN : 4000 ≤ N) {now marks : Int → Int} {jr jb : BitVec 64} (h : MD now R C jr jb) {id : Int} (hid : xR id) (hm : ∀ j : Int, 0 ≤ j → j < 49 → xR (marks j)) {s : Nat} {s0 : Int → Int} (h01 : ∀ v : Nat, v < 49 → s0 v = 0 ∨ s0 v = 1) (hR : ∀ v, Rch (EH R C (fun z => decide (marks (z : Int) = id))) (fun a => a = s) v → v < 49 ∧ s0 v = 0) :
    ∀ (n k : Nat) (is : Int) (st : Int × (Int → Int) × (Int → Int)), (k : Int) ≤ st.1 → 49 < n + k → SQ (EH R C (fun z => decide (marks (z : Int) = id))) s s0 st → (∀ (i : Nat), i < k → ∀ u v : Nat, st.2.1 i = u → EH R C (fun z => decide (marks (z : Int) = id)) u v → st.2.2 v = 1) → (is = 0 ∨ is = 1) → (is = 1 ↔ ∀ (i : Nat), i < k → ∀ u : Nat, st.2.1 i = u → edg R C u = false) →
      ∃ (is' : Int) (st' : Int × (Int → Int) × (Int → Int)), f_mo_isHole_23 N id now marks n is st.1 k st.2.1 st.2.2 = some (is', st'.2.1, st'.2.2) ∧ SQ (EH R C (fun z => decide (marks (z : Int) = id))) s s0 st' ∧ (∀ u v : Nat, Rch (EH R C (fun z => decide (marks (z : Int) = id))) (fun a => a = s) u → st'.2.2 u = 1 → EH R C (fun z => decide (marks (z : Int) = id)) u v → st'.2.2 v = 1) ∧ (∀ j : Int, st.2.2 j = 1 → st'.2.2 j = 1) ∧ (is' = 0 ∨ is' = 1) ∧ (is' = 1 ↔ ∀ u : Nat, Rch (EH R C (fun z => decide (marks (z : Int) = id))) (fun a => a = s) u → st'.2.2 u = 1 → edg R C u = false) := by
  intro n
  induction n with
  | zero =>
    intro k is st hk hn hB hC hi hie
    have := hB.le
    omega
  | succ n ih =>
    intro k is st hk hn hB hC hi hie
    have hle := hB.le
    have hnn := hB.2.1
    rw [f_mo_isHole_23.eq_2, og_pos (by omega), og_pos (by omega)]
    by_cases hend : st.1 ≤ (k : Int)
    · rw [if_pos hend, og_pos hi]
      have hin : ∀ u : Nat, Rch (EH R C (fun z => decide (marks (z : Int) = id))) (fun a => a = s) u → st.2.2 u = 1 → ∃ i : Nat, i < k ∧ st.2.1 i = u := fun u hu hmu => by
        obtain ⟨hu49, hu0⟩ := hR u hu
        rcases hB.2.2.2.1 u hu49 hmu with h1 | ⟨i, hi1, hi2⟩
        · omega
        · exact ⟨i, by omega, hi2⟩
      refine ⟨is, st, rfl, hB, fun u v hu hmu hE => ?_, fun j hj => hj, hi, ?_⟩
      · obtain ⟨i, hi1, hi2⟩ := hin u hu hmu
        exact hC i hi1 u v hi2 hE
      · rw [hie]
        constructor
        · intro hq u hu hmu
          obtain ⟨i, hi1, hi2⟩ := hin u hu hmu
          exact hq i hi1 u hi2
        · intro hq i hik u hu
          obtain ⟨v, hv1, hv2, hv3, hv4⟩ := hB.2.2.1 i (by omega)
          have : u = v := by omega
          subst this
          exact hq u hv4 hv3
    · rw [if_neg hend, og_pos (by omega)]
      obtain ⟨u, hu1, hu2, hu3, hu4⟩ := hB.2.2.1 k (by omega)
      rw [hu2, og_pos (by omega), bd_some, bd_some, og_pos (by omega), mo_isEdge h hu1, bd_some]
      obtain ⟨is2, hi2, hi3, hi4⟩ : ∃ is2 : Int, (if is = 0 then some 0 else og (xR (if edg R C u = true then 1 else 0)) (if (if edg R C u = true then 1 else 0 : Int) = 0 then some 1 else some 0)) = some is2 ∧ (is2 = 0 ∨ is2 = 1) ∧ (is2 = 1 ↔ (is = 1 ∧ edg R C u = false)) := by
        by_cases c1 : is = 0
        · exact ⟨0, by rw [if_pos c1], Or.inl rfl, by constructor <;> omega⟩
        · rw [if_neg c1]
          cases hc : edg R C u with
          | true => exact ⟨0, by rw [if_pos rfl, og_pos (by omega), if_neg (by decide)], Or.inl rfl, by constructor <;> simp⟩
          | false => exact ⟨1, by rw [if_neg (by decide), og_pos (by omega), if_pos rfl], Or.inr rfl, ⟨fun _ => ⟨by omega, rfl⟩, fun _ => rfl⟩⟩
      rw [hi2, bd_some]
      obtain ⟨st', q1, q2, q3, q4, q5, q6⟩ := hole_cell (N := N) h hid hm hu1 (is := is2) (k := (k : Int)) h01 hu4 (f_mo_isHole_23 N id now marks n) 9 0 (by omega) N st (by omega) hB (fun w' hw' => by omega)
      have e0 : ((0 : Nat) : Int) = 0 := rfl
      rw [e0] at q1
      rw [q1]
      have e1 : ((k + 1 : Nat) : Int) = (k : Int) + 1 := by omega
      rw [← e1]
      obtain ⟨is', st2, r1, r2, r3, r4, r5, r6⟩ := ih (k + 1) is2 st' (by omega) (by omega) q2 (fun i hi u' v hq hE => by
        by_cases hik : i = k
        · subst hik
          rw [q5 i (by omega), hu2] at hq
          have : u = u' := by omega
          subst this
          obtain ⟨w, hw, hok, hto⟩ := E_kok ⟨by have := h.2.2.1; omega, by have := h.2.2.1; omega⟩ hu1 hE
          rw [← hto]
          exact q3 w hw hok
        · rw [q5 i (by omega)] at hq
          exact q4 _ (hC i (by omega) u' v hq hE)) hi3 (by
        rw [hi4, hie]
        constructor
        · rintro ⟨h1, h2⟩ i hi u' hq
          rw [q5 i (by omega)] at hq
          by_cases hik : i = k
          · subst hik
            have : u = u' := by omega
            subst this
            exact h2
          · exact h1 i (by omega) u' hq
        · intro hq
          refine ⟨fun i hi u' hu' => hq i (by omega) u' (by rw [q5 i (by omega)]; exact hu'), hq k (by omega) u (by rw [q5 k (by omega)]; exact hu2)⟩)
      exact ⟨is', st2, r1, r2, r3, fun j hj => r4 j (q4 j hj), r5, r6⟩
theorem mo_isHole {N R C : Nat} (hN : 4000 ≤ N) {now marks : Int → Int} {jr jb : BitVec 64} (h : MD now R C jr jb) {id : Int} (hid : xR id) (hm : ∀ j : Int, 0 ≤ j → j < 49 → xR (marks j)) {s : Nat} (hs : s < 49) {s0 q0 : Int → Int} (h01 : ∀ v : Nat, v < 49 → s0 v = 0 ∨ s0 v = 1) (hR : ∀ v, Rch (EH R C (fun z => decide (marks (z : Int) = id))) (fun a => a = s) v → v < 49 ∧ s0 v = 0) :
    ∃ (is : Int) (q1 s1 : Int → Int), f_mo_isHole N id s now q0 s0 marks = some (is, q1, s1) ∧ (is = 0 ∨ is = 1) ∧ (is = 1 ↔ ∀ u : Nat, Rch (EH R C (fun z => decide (marks (z : Int) = id))) (fun a => a = s) u → edg R C u = false) ∧ (∀ v : Nat, v < 49 → s1 v = 0 ∨ s1 v = 1) ∧ (∀ v : Nat, v < 49 → (s1 v = 1 ↔ s0 v = 1 ∨ Rch (EH R C (fun z => decide (marks (z : Int) = id))) (fun a => a = s) v)) := by
  have hs0 := (hR s (Rch.start rfl)).2
  unfold f_mo_isHole
  rw [og_pos (by omega), bd_some, bd_some]
  have hB : SQ (EH R C (fun z => decide (marks (z : Int) = id))) s s0 (1, upi q0 0 s, upi s0 s 1) := by
    refine ⟨?_, ?_, ?_, ?_, ?_⟩
    · show cntB (fun v => decide (upi s0 s 1 (v : Int) = 1)) 49 = _ + 1
      refine cntB_upd (k := s) hs (by simp; omega) (by simp [upi_s]) (fun i hi his => by rw [upi_n _ _ (by omega)])
    · show (0 : Int) ≤ 1
      omega
    · intro i hi
      have hi : (i : Int) < 1 := hi
      have hi0 : i = 0 := by omega
      subst hi0
      exact ⟨s, hs, (by show upi q0 0 (s : Int) ((0 : Nat) : Int) = s; exact upi_s _ _ _), (by show upi s0 s 1 s = 1; exact upi_s _ _ _), Rch.start rfl⟩
    · intro v hv hm
      have hm : upi s0 s 1 v = 1 := hm
      by_cases hvs : (v : Int) = s
      · exact Or.inr ⟨0, by show ((0 : Nat) : Int) < 1; omega, by show upi q0 0 (s : Int) ((0 : Nat) : Int) = v; rw [hvs]; exact upi_s _ _ _⟩
      · rw [upi_n _ _ hvs] at hm; exact Or.inl hm
    · intro j
      show upi s0 s 1 j = s0 j ∨ ∃ w : Nat, j = w ∧ w < 49 ∧ Rch _ (fun a => a = s) w ∧ upi s0 s 1 j = 1
      by_cases hj : j = s
      · exact Or.inr ⟨s, hj, hs, Rch.start rfl, by rw [hj, upi_s]⟩
      · exact Or.inl (upi_n _ _ hj)
  obtain ⟨is, st, r1, r2, r3, r4, r5, r6⟩ := hole_loop hN h hid hm h01 hR N 0 1 (1, upi q0 0 s, upi s0 s 1) (by show ((0 : Nat) : Int) ≤ 1; omega) (by omega) hB (fun i hi => by omega) (Or.inr rfl) ⟨fun _ i hi => by omega, fun _ => rfl⟩
  have e0 : ((0 : Nat) : Int) = 0 := rfl
  rw [e0] at r1
  have hall : ∀ v, Rch (EH R C (fun z => decide (marks (z : Int) = id))) (fun a => a = s) v → st.2.2 v = 1 := fun v hv =>
    (hv.ind (fun v => Rch (EH R C (fun z => decide (marks (z : Int) = id))) (fun a => a = s) v ∧ st.2.2 v = 1) (fun a ha => by subst ha; exact ⟨Rch.start rfl, r4 _ (upi_s _ _ _)⟩) (fun x y _ hx hE => ⟨hx.1.step hE, r3 x y hx.1 hx.2 hE⟩)).2
  refine ⟨is, st.2.1, st.2.2, r1, r5, ?_, ?_, ?_⟩
  · rw [r6]
    exact ⟨fun hq u hu => hq u hu (hall u hu), fun hq u hu _ => hq u hu⟩
  · intro v hv
    rcases r2.2.2.2.2 v with h1 | ⟨w, -, -, -, h1⟩
    · rw [h1]; exact h01 v hv
    · exact Or.inr h1
  · intro v hv
    constructor
    · intro h1
      rcases r2.2.2.2.2 v with h2 | ⟨w, hw1, -, hw2, -⟩
      · left; omega
      · right
        have : v = w := by omega
        rw [this]; exact hw2
    · rintro (h1 | h1)
      · refine r4 v ?_
        show upi s0 s 1 v = 1
        by_cases hvs : (v : Int) = s
        · rw [hvs, upi_s]
        · rw [upi_n _ _ hvs]; exact h1
      · exact hall v h1
