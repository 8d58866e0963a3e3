/-! ===== PURE: cliques, the reference ===== -/
def VQ (v : Int) (T2 T3 T4 : Prop) : Prop := (1 ≤ v ∧ v ≤ 4) ∧ (2 ≤ v ↔ T2) ∧ (3 ≤ v ↔ T3) ∧ (4 ≤ v ↔ T4)
theorem VQ.of {v : Int} {T2 T3 T4 U2 U3 U4 : Prop} (h : VQ v T2 T3 T4) (h2 : T2 ↔ U2) (h3 : T3 ↔ U3) (h4 : T4 ↔ U4) : VQ v U2 U3 U4 := ⟨h.1, h.2.1.trans h2, h.2.2.1.trans h3, h.2.2.2.trans h4⟩
theorem ex_end {c k : Nat} (h : c ≤ k) (P : Nat → Prop) (T : Prop) : T ↔ T ∨ ∃ x, k ≤ x ∧ x < c ∧ P x := ⟨Or.inl, fun hh => hh.elim id (fun ⟨x, h1, h2, _⟩ => by omega)⟩
theorem ex_no {c k : Nat} {P : Nat → Prop} (hP : ¬ P k) (T : Prop) : (T ∨ ∃ x, k + 1 ≤ x ∧ x < c ∧ P x) ↔ T ∨ ∃ x, k ≤ x ∧ x < c ∧ P x := by
  constructor
  · rintro (h | ⟨x, h1, h2, h3⟩)
    · exact Or.inl h
    · exact Or.inr ⟨x, by omega, h2, h3⟩
  · rintro (h | ⟨x, h1, h2, h3⟩)
    · exact Or.inl h
    · refine Or.inr ⟨x, ?_, h2, h3⟩
      have : x ≠ k := fun e => hP (e ▸ h3)
      omega
theorem ex_yes {c k : Nat} (hk : k < c) {P : Nat → Prop} (T : Prop) : ((T ∨ P k) ∨ ∃ x, k + 1 ≤ x ∧ x < c ∧ P x) ↔ T ∨ ∃ x, k ≤ x ∧ x < c ∧ P x := by
  constructor
  · rintro ((h | h) | ⟨x, h1, h2, h3⟩)
    · exact Or.inl h
    · exact Or.inr ⟨k, by omega, hk, h⟩
    · exact Or.inr ⟨x, by omega, h2, h3⟩
  · rintro (h | ⟨x, h1, h2, h3⟩)
    · exact Or.inl (Or.inl h)
    · by_cases hxk : x = k
      · subst hxk; exact Or.inl (Or.inr h3)
      · exact Or.inr ⟨x, by omega, h2, h3⟩
def Anr (nearm : Int → Int) (a b : Nat) : Prop := nearm ((49 * a + b : Nat) : Int) = 1
theorem mo_areNear {N : Nat} {nearm : Int → Int} (hn : ∀ a b : Nat, a < 49 → b < 49 → nearm ((49 * a + b : Nat) : Int) = 0 ∨ nearm ((49 * a + b : Nat) : Int) = 1) {a b : Nat} (ha : a < 49) (hb : b < 49) : f_mo_areNear N (a : Int) (b : Int) nearm = some (nearm ((49 * a + b : Nat) : Int)) := by
  unfold f_mo_areNear
  rw [show 49 * (a : Int) + (b : Int) = ((49 * a + b : Nat) : Int) by omega, og_pos (by omega), og_pos (hn a b ha hb)]
def E4 (nearm : Int → Int) (cnt i j k m : Nat) : Prop := ∃ l, m ≤ l ∧ l < cnt ∧ (Anr nearm i l ∧ Anr nearm j l ∧ Anr nearm k l)
def E43 (nearm : Int → Int) (cnt i j m : Nat) : Prop := ∃ k, m ≤ k ∧ k < cnt ∧ ((Anr nearm i k ∧ Anr nearm j k) ∧ E4 nearm cnt i j k (k + 1))
def E33 (nearm : Int → Int) (cnt i j m : Nat) : Prop := ∃ k, m ≤ k ∧ k < cnt ∧ (Anr nearm i k ∧ Anr nearm j k)
def E42 (nearm : Int → Int) (cnt i m : Nat) : Prop := ∃ j, m ≤ j ∧ j < cnt ∧ (Anr nearm i j ∧ E43 nearm cnt i j (j + 1))
def E32 (nearm : Int → Int) (cnt i m : Nat) : Prop := ∃ j, m ≤ j ∧ j < cnt ∧ (Anr nearm i j ∧ E33 nearm cnt i j (j + 1))
def E22 (nearm : Int → Int) (cnt i m : Nat) : Prop := ∃ j, m ≤ j ∧ j < cnt ∧ Anr nearm i j
def E41 (nearm : Int → Int) (cnt m : Nat) : Prop := ∃ i, m ≤ i ∧ i < cnt ∧ E42 nearm cnt i (i + 1)
def E31 (nearm : Int → Int) (cnt m : Nat) : Prop := ∃ i, m ≤ i ∧ i < cnt ∧ E32 nearm cnt i (i + 1)
def E21 (nearm : Int → Int) (cnt m : Nat) : Prop := ∃ i, m ≤ i ∧ i < cnt ∧ E22 nearm cnt i (i + 1)
theorem cl_111 {N cnt : Nat} (hc : cnt ≤ 49) {nearm : Int → Int} (hn : ∀ a b : Nat, a < 49 → b < 49 → nearm ((49 * a + b : Nat) : Int) = 0 ∨ nearm ((49 * a + b : Nat) : Int) = 1) {i j k : Nat} (hi : i < cnt) (hj : j < cnt) (hk : k < cnt) (t b l r : Int) (q pane size many : Int → Int) (k9 k22 k61 : Int → Int → Option (Int × Int × Int × Int × Int × Int × (Int → Int) × (Int → Int) × (Int → Int) × (Int → Int) × (Int → Int))) {T2 T3 : Prop} (h2 : T2) (h3 : T3) :
    ∀ (n m : Nat) (v : Int) (T4 : Prop), m ≤ cnt → 49 < n + m → VQ v T2 T3 T4 → ∃ v', f_mo_largestClique_111 N (i : Int) (j : Int) (k : Int) t b l r (cnt : Int) q pane size nearm many k9 k22 k61 n v (m : Int) = k61 v' ((k : Int) + 1) ∧ VQ v' T2 T3 (T4 ∨ E4 nearm cnt i j k m) := by
  intro n
  induction n with
  | zero => intro m v T4 hm hn2; omega
  | succ n ih =>
    intro m v T4 hm hn2 hV
    rw [f_mo_largestClique_111.eq_2, og_pos (by omega), og_pos (by omega)]
    by_cases hend : m = cnt
    · rw [if_pos (by omega), bd_some]
      exact ⟨v, rfl, hV.of Iff.rfl Iff.rfl (ex_end (by omega) _ _)⟩
    · have e1 : (m : Int) + 1 = ((m + 1 : Nat) : Int) := by omega
      have a1 := hn i m (by omega) (by omega)
      have a2 := hn j m (by omega) (by omega)
      have a3 := hn k m (by omega) (by omega)
      have hskip : ¬ (Anr nearm i m ∧ Anr nearm j m ∧ Anr nearm k m) → ∃ v', f_mo_largestClique_111 N (i : Int) (j : Int) (k : Int) t b l r (cnt : Int) q pane size nearm many k9 k22 k61 n v ((m + 1 : Nat) : Int) = k61 v' ((k : Int) + 1) ∧ VQ v' T2 T3 (T4 ∨ E4 nearm cnt i j k m) := fun hno => by
        obtain ⟨v', r1, r2⟩ := ih (m + 1) v T4 (by omega) (by omega) hV
        exact ⟨v', r1, r2.of Iff.rfl Iff.rfl (ex_no hno _)⟩
      rw [if_neg (by omega), mo_areNear hn (by omega) (by omega), bd_some, og_pos (by omega)]
      by_cases c1 : nearm ((49 * i + m : Nat) : Int) = 0
      · rw [if_pos c1, bd_some, bd_some, e1]
        exact hskip (fun hh => by have : nearm ((49 * i + m : Nat) : Int) = 1 := hh.1; omega)
      · rw [if_neg c1, mo_areNear hn (by omega) (by omega), bd_some, og_pos (by omega)]
        by_cases c2 : nearm ((49 * j + m : Nat) : Int) = 0
        · rw [if_pos c2, bd_some, bd_some, e1]
          exact hskip (fun hh => by have : nearm ((49 * j + m : Nat) : Int) = 1 := hh.2.1; omega)
        · rw [if_neg c2, mo_areNear hn (by omega) (by omega), bd_some, og_pos (by omega)]
          by_cases c3 : nearm ((49 * k + m : Nat) : Int) = 0
          · rw [if_pos c3, bd_some, bd_some, e1]
            exact hskip (fun hh => by have : nearm ((49 * k + m : Nat) : Int) = 1 := hh.2.2; omega)
          · rw [if_neg c3, bd_some, bd_some, e1]
            have hyes : Anr nearm i m ∧ Anr nearm j m ∧ Anr nearm k m := ⟨by unfold Anr; omega, by unfold Anr; omega, by unfold Anr; omega⟩
            obtain ⟨v', r1, r2⟩ := ih (m + 1) 4 (T4 ∨ (Anr nearm i m ∧ Anr nearm j m ∧ Anr nearm k m)) (by omega) (by omega) ⟨by omega, ⟨fun _ => h2, fun _ => by omega⟩, ⟨fun _ => h3, fun _ => by omega⟩, ⟨fun _ => Or.inr hyes, fun _ => by omega⟩⟩
            exact ⟨v', r1, r2.of Iff.rfl Iff.rfl (ex_yes (c := cnt) (k := m) (P := fun l => Anr nearm i l ∧ Anr nearm j l ∧ Anr nearm k l) (by omega) T4)⟩
theorem cl_61 {N cnt : Nat} (hN : 4000 ≤ N) (hc : cnt ≤ 49) {nearm : Int → Int} (hn : ∀ a b : Nat, a < 49 → b < 49 → nearm ((49 * a + b : Nat) : Int) = 0 ∨ nearm ((49 * a + b : Nat) : Int) = 1) {i j : Nat} (hi : i < cnt) (hj : j < cnt) (t b l r : Int) (q pane size many : Int → Int) (k9 k22 : Int → Int → Option (Int × Int × Int × Int × Int × Int × (Int → Int) × (Int → Int) × (Int → Int) × (Int → Int) × (Int → Int))) {T2 : Prop} (h2 : T2) :
    ∀ (n m : Nat) (v : Int) (T3 T4 : Prop), m ≤ cnt → 49 < n + m → VQ v T2 T3 T4 → ∃ v', f_mo_largestClique_61 N (i : Int) (j : Int) t b l r (cnt : Int) q pane size nearm many k9 k22 n v (m : Int) = k22 v' ((j : Int) + 1) ∧ VQ v' T2 (T3 ∨ E33 nearm cnt i j m) (T4 ∨ E43 nearm cnt i j m) := by
  intro n
  induction n with
  | zero => intro m v T3 T4 hm hn2; omega
  | succ n ih =>
    intro m v T3 T4 hm hn2 hV
    rw [f_mo_largestClique_61.eq_2, og_pos (by omega), og_pos (by omega)]
    by_cases hend : m = cnt
    · rw [if_pos (by omega), bd_some]
      exact ⟨v, rfl, hV.of Iff.rfl (ex_end (by omega) _ _) (ex_end (by omega) _ _)⟩
    · have e1 : (m : Int) + 1 = ((m + 1 : Nat) : Int) := by omega
      have a1 := hn i m (by omega) (by omega)
      have a2 := hn j m (by omega) (by omega)
      have hskip : ¬ (Anr nearm i m ∧ Anr nearm j m) → ∃ v', f_mo_largestClique_61 N (i : Int) (j : Int) t b l r (cnt : Int) q pane size nearm many k9 k22 n v ((m + 1 : Nat) : Int) = k22 v' ((j : Int) + 1) ∧ VQ v' T2 (T3 ∨ E33 nearm cnt i j m) (T4 ∨ E43 nearm cnt i j m) := fun hno => by
        obtain ⟨v', r1, r2⟩ := ih (m + 1) v T3 T4 (by omega) (by omega) hV
        exact ⟨v', r1, r2.of Iff.rfl (ex_no hno _) (ex_no (fun hh => hno hh.1) _)⟩
      rw [if_neg (by omega), mo_areNear hn (by omega) (by omega), bd_some, og_pos (by omega)]
      by_cases c1 : nearm ((49 * i + m : Nat) : Int) = 0
      · rw [if_pos c1, bd_some, e1]
        exact hskip (fun hh => by have : nearm ((49 * i + m : Nat) : Int) = 1 := hh.1; omega)
      · rw [if_neg c1, mo_areNear hn (by omega) (by omega), bd_some, og_pos (by omega)]
        by_cases c2 : nearm ((49 * j + m : Nat) : Int) = 0
        · rw [if_pos c2, bd_some, e1]
          exact hskip (fun hh => by have : nearm ((49 * j + m : Nat) : Int) = 1 := hh.2; omega)
        · have hv4 := hV.1
          rw [if_neg c2, og_pos (by omega)]
          have hyes : Anr nearm i m ∧ Anr nearm j m := ⟨by unfold Anr; omega, by unfold Anr; omega⟩
          obtain ⟨w, hw, hw2⟩ : ∃ w : Int, (if (3 : Int) ≤ v then some v else some 3) = some w ∧ VQ w T2 (T3 ∨ (Anr nearm i m ∧ Anr nearm j m)) T4 := by
            by_cases c : (3 : Int) ≤ v
            · exact ⟨v, by rw [if_pos c], hV.1, hV.2.1, ⟨fun _ => Or.inr hyes, fun _ => c⟩, hV.2.2.2⟩
            · refine ⟨3, by rw [if_neg c], by omega, ⟨fun _ => h2, fun _ => by omega⟩, ⟨fun _ => Or.inr hyes, fun _ => by omega⟩, ⟨fun h => by omega, fun h => by have := hV.2.2.2.mpr h; omega⟩⟩
          rw [hw, bd_some, bd_some, e1]
          obtain ⟨v', r1, r2⟩ := cl_111 (N := N) hc hn hi hj (by omega : m < cnt) t b l r q pane size many k9 k22 (f_mo_largestClique_61 N (i : Int) (j : Int) t b l r (cnt : Int) q pane size nearm many k9 k22 n) h2 (Or.inr hyes : T3 ∨ (Anr nearm i m ∧ Anr nearm j m)) N (m + 1) w T4 (by omega) (by omega) hw2
          rw [r1, e1]
          obtain ⟨v2, s1, s2⟩ := ih (m + 1) v' _ _ (by omega) (by omega) r2
          refine ⟨v2, s1, s2.of Iff.rfl (ex_yes (c := cnt) (k := m) (P := fun k => Anr nearm i k ∧ Anr nearm j k) (by omega) T3) (Iff.trans ?_ (ex_yes (c := cnt) (k := m) (P := fun k => (Anr nearm i k ∧ Anr nearm j k) ∧ E4 nearm cnt i j k (k + 1)) (by omega) T4))⟩
          constructor
          · rintro ((h | h) | h)
            · exact Or.inl (Or.inl h)
            · exact Or.inl (Or.inr ⟨hyes, h⟩)
            · exact Or.inr h
          · rintro ((h | h) | h)
            · exact Or.inl (Or.inl h)
            · exact Or.inl (Or.inr h.2)
            · exact Or.inr h
theorem cl_22 {N cnt : Nat} (hN : 4000 ≤ N) (hc : cnt ≤ 49) {nearm : Int → Int} (hn : ∀ a b : Nat, a < 49 → b < 49 → nearm ((49 * a + b : Nat) : Int) = 0 ∨ nearm ((49 * a + b : Nat) : Int) = 1) {i : Nat} (hi : i < cnt) (t b l r : Int) (q pane size many : Int → Int) (k9 : Int → Int → Option (Int × Int × Int × Int × Int × Int × (Int → Int) × (Int → Int) × (Int → Int) × (Int → Int) × (Int → Int))) :
    ∀ (n m : Nat) (v : Int) (T2 T3 T4 : Prop), m ≤ cnt → 49 < n + m → VQ v T2 T3 T4 → ∃ v', f_mo_largestClique_22 N (i : Int) t b l r (cnt : Int) q pane size nearm many k9 n v (m : Int) = k9 v' ((i : Int) + 1) ∧ VQ v' (T2 ∨ E22 nearm cnt i m) (T3 ∨ E32 nearm cnt i m) (T4 ∨ E42 nearm cnt i m) := by
  intro n
  induction n with
  | zero => intro m v T2 T3 T4 hm hn2; omega
  | succ n ih =>
    intro m v T2 T3 T4 hm hn2 hV
    rw [f_mo_largestClique_22.eq_2, og_pos (by omega), og_pos (by omega)]
    by_cases hend : m = cnt
    · rw [if_pos (by omega), bd_some]
      exact ⟨v, rfl, hV.of (ex_end (by omega) _ _) (ex_end (by omega) _ _) (ex_end (by omega) _ _)⟩
    · have e1 : (m : Int) + 1 = ((m + 1 : Nat) : Int) := by omega
      have a1 := hn i m (by omega) (by omega)
      rw [if_neg (by omega), mo_areNear hn (by omega) (by omega), bd_some, og_pos (by omega)]
      by_cases c1 : nearm ((49 * i + m : Nat) : Int) = 0
      · rw [if_pos c1, bd_some, e1]
        have hno : ¬ Anr nearm i m := fun hh => by have : nearm ((49 * i + m : Nat) : Int) = 1 := hh; omega
        obtain ⟨v', r1, r2⟩ := ih (m + 1) v T2 T3 T4 (by omega) (by omega) hV
        exact ⟨v', r1, r2.of (ex_no hno _) (ex_no (fun hh => hno hh.1) _) (ex_no (fun hh => hno hh.1) _)⟩
      · have hv4 := hV.1
        rw [if_neg c1, og_pos (by omega)]
        have hyes : Anr nearm i m := by unfold Anr; omega
        obtain ⟨w, hw, hw2⟩ : ∃ w : Int, (if (2 : Int) ≤ v then some v else some 2) = some w ∧ VQ w (T2 ∨ Anr nearm i m) T3 T4 := by
          by_cases c : (2 : Int) ≤ v
          · exact ⟨v, by rw [if_pos c], hV.1, ⟨fun _ => Or.inr hyes, fun _ => c⟩, hV.2.2.1, hV.2.2.2⟩
          · refine ⟨2, by rw [if_neg c], by omega, ⟨fun _ => Or.inr hyes, fun _ => by omega⟩, ⟨fun h => by omega, fun h => by have := hV.2.2.1.mpr h; omega⟩, ⟨fun h => by omega, fun h => by have := hV.2.2.2.mpr h; omega⟩⟩
        rw [hw, bd_some, bd_some, e1]
        obtain ⟨v', r1, r2⟩ := cl_61 (N := N) hN hc hn hi (by omega : m < cnt) t b l r q pane size many k9 (f_mo_largestClique_22 N (i : Int) t b l r (cnt : Int) q pane size nearm many k9 n) (Or.inr hyes : T2 ∨ Anr nearm i m) N (m + 1) w T3 T4 (by omega) (by omega) hw2
        rw [r1, e1]
        obtain ⟨v2, s1, s2⟩ := ih (m + 1) v' _ _ _ (by omega) (by omega) r2
        have tr : ∀ (T P E : Prop), ((T ∨ P) ∨ E) ↔ ((T ∨ (Anr nearm i m ∧ P)) ∨ E) := fun T P E => by
          constructor
          · rintro ((h | h) | h)
            · exact Or.inl (Or.inl h)
            · exact Or.inl (Or.inr ⟨hyes, h⟩)
            · exact Or.inr h
          · rintro ((h | h) | h)
            · exact Or.inl (Or.inl h)
            · exact Or.inl (Or.inr h.2)
            · exact Or.inr h
        exact ⟨v2, s1, s2.of (ex_yes (c := cnt) (k := m) (P := fun j => Anr nearm i j) (by omega) T2) ((tr T3 _ _).trans (ex_yes (c := cnt) (k := m) (P := fun j => Anr nearm i j ∧ E33 nearm cnt i j (j + 1)) (by omega) T3)) ((tr T4 _ _).trans (ex_yes (c := cnt) (k := m) (P := fun j => Anr nearm i j ∧ E43 nearm cnt i j (j + 1)) (by omega) T4))⟩
theorem cl_9 {N cnt : Nat} (hN : 4000 ≤ N) (hc : cnt ≤ 49) {nearm : Int → Int} (hn : ∀ a b : Nat, a < 49 → b < 49 → nearm ((49 * a + b : Nat) : Int) = 0 ∨ nearm ((49 * a + b : Nat) : Int) = 1) (t b l r : Int) (q pane size many : Int → Int) :
    ∀ (n m : Nat) (v : Int) (T2 T3 T4 : Prop), m ≤ cnt → 49 < n + m → VQ v T2 T3 T4 → ∃ v', f_mo_largestClique_9 N t b l r (cnt : Int) q pane size nearm many n v (m : Int) = some (v', t, b, l, r, (cnt : Int), q, pane, size, nearm, many) ∧ VQ v' (T2 ∨ E21 nearm cnt m) (T3 ∨ E31 nearm cnt m) (T4 ∨ E41 nearm cnt m) := by
  intro n
  induction n with
  | zero => intro m v T2 T3 T4 hm hn2; omega
  | succ n ih =>
    intro m v T2 T3 T4 hm hn2 hV
    rw [f_mo_largestClique_9.eq_2, og_pos (by omega), og_pos (by omega)]
    by_cases hend : m = cnt
    · rw [if_pos (by omega)]
      exact ⟨v, rfl, hV.of (ex_end (by omega) _ _) (ex_end (by omega) _ _) (ex_end (by omega) _ _)⟩
    · have e1 : (m : Int) + 1 = ((m + 1 : Nat) : Int) := by omega
      rw [if_neg (by omega), bd_some, e1]
      obtain ⟨v', r1, r2⟩ := cl_22 (N := N) hN hc hn (by omega : m < cnt) t b l r q pane size many (f_mo_largestClique_9 N t b l r (cnt : Int) q pane size nearm many n) N (m + 1) v T2 T3 T4 (by omega) (by omega) hV
      rw [r1, e1]
      obtain ⟨v2, s1, s2⟩ := ih (m + 1) v' _ _ _ (by omega) (by omega) r2
      exact ⟨v2, s1, s2.of (ex_yes (c := cnt) (k := m) (P := fun i => E22 nearm cnt i (i + 1)) (by omega) T2) (ex_yes (c := cnt) (k := m) (P := fun i => E32 nearm cnt i (i + 1)) (by omega) T3) (ex_yes (c := cnt) (k := m) (P := fun i => E42 nearm cnt i (i + 1)) (by omega) T4)⟩
