/-! ===== PURE: the next pane of an order, by removal, and of the reference ===== -/
theorem few_bound {cnt : Nat} (hc : cnt ≤ 49) {near : Int → BitVec 64} (hnr : ∀ a b : Nat, a < cnt → (near a).getLsbD b = true → b < cnt ∧ b ≠ a) {set : BitVec 64} {k : Nat} (hk : k < cnt) : 0 ≤ popc (near (k : Int) &&& set) ∧ popc (near (k : Int) &&& set) < 49 := by
  refine ⟨(popc_nn _).1, ?_⟩
  unfold popc
  rw [cntB_tail (m := cnt) 64 (by omega) (fun i h1 h2 => by
    rw [gl_and]
    cases hx : (near (k : Int)).getLsbD i with
    | false => rfl
    | true => have := (hnr k i hk hx).1; omega)]
  have h1 := cntB_lt (p := (near (k : Int) &&& set).getLsbD) (q := fun _ => true) (n := cnt) (k := k) (fun _ _ _ => rfl) hk (by
    rw [gl_and]
    cases hx : (near (k : Int)).getLsbD k with
    | false => rfl
    | true => exact absurd rfl (hnr k k hk hx).2) rfl
  rw [cntB_true] at h1
  omega
theorem few_loop {N cnt : Nat} (hc : cnt ≤ 49) {near : Int → BitVec 64} (hnr : ∀ a b : Nat, a < cnt → (near a).getLsbD b = true → b < cnt ∧ b ≠ a) {set : BitVec 64} (hex : ∃ y, y < cnt ∧ set.getLsbD y = true) :
    ∀ (n k : Nat) (l3 l4 : Int) (b : Option Nat), k ≤ cnt → 49 < n + k → PickS (fun y => set.getLsbD y) (fun y => popc (near y &&& set)) k b → (b = none → l4 = 49) → (∀ x, b = some x → l3 = x ∧ l4 = popc (near x &&& set)) → ∃ x : Nat, f_co_fewestNeighboursAmong_9 N set (cnt : Int) near n l3 l4 (k : Int) = some (x : Int) ∧ PickB (fun y => set.getLsbD y) (fun y => popc (near y &&& set)) cnt x := by
  intro n
  induction n with
  | zero => intro k l3 l4 b hk hn; omega
  | succ n ih =>
    intro k l3 l4 b hk hn hS hb0 hb1
    have hp := popc_nn (near (k : Int) &&& set)
    have hx4 : 0 ≤ l4 ∧ l4 ≤ 64 := by
      cases b with
      | none => have := hb0 rfl; omega
      | some x => have := (hb1 x rfl).2; have := popc_nn (near (x : Int) &&& set); omega
    rw [f_co_fewestNeighboursAmong_9.eq_2, og_pos (by omega), og_pos (by omega)]
    by_cases hend : k = cnt
    · rw [if_pos (by omega)]
      rw [hend] at hS
      obtain ⟨x, rfl, h2⟩ := pick_end hS hex
      exact ⟨x, by rw [(hb1 x rfl).1], h2⟩
    · have e1 : (k : Int) + 1 = ((k + 1 : Nat) : Int) := by omega
      have hfb := few_bound hc hnr (set := set) (by omega : k < cnt)
      rw [if_neg (by omega), og_pos (by omega), bd_some, og_pos (by omega), Int.toNat_natCast]
      by_cases hr : set.getLsbD k = true
      · rw [if_neg (fun h2 => by rw [gl_and_one (by omega)] at h2; rw [h2] at hr; cases hr), og_pos (by omega), og_pos (by omega)]
        by_cases c : l4 ≤ popc (near (k : Int) &&& set)
        · rw [if_pos c, bd_some, bd_some]
          show ∃ x : Nat, f_co_fewestNeighboursAmong_9 N set (cnt : Int) near n l3 l4 ((k : Int) + 1) = some (x : Int) ∧ _
          rw [e1]
          cases b with
          | none => have := hb0 rfl; omega
          | some x => exact ih (k + 1) l3 l4 (some x) (by omega) (by omega) (pick_keep hS (by show popc (near x &&& set) ≤ popc (near k &&& set); have := (hb1 x rfl).2; omega)) hb0 hb1
        · rw [if_neg c, bd_some, bd_some]
          show ∃ x : Nat, f_co_fewestNeighboursAmong_9 N set (cnt : Int) near n (k : Int) (popc (near (k : Int) &&& set)) ((k : Int) + 1) = some (x : Int) ∧ _
          rw [e1]
          refine ih (k + 1) _ _ (some k) (by omega) (by omega) ?_ (fun h => by cases h) (fun x hx => by cases hx; exact ⟨rfl, rfl⟩)
          cases b with
          | none => exact pick_first hS hr
          | some x => exact pick_new hS hr (by show popc (near k &&& set) < popc (near x &&& set); have := (hb1 x rfl).2; omega)
      · rw [if_pos (by rw [gl_and_one (by omega)]; simpa using hr), bd_some, bd_some]
        show ∃ x : Nat, f_co_fewestNeighboursAmong_9 N set (cnt : Int) near n l3 l4 ((k : Int) + 1) = some (x : Int) ∧ _
        rw [e1]
        exact ih (k + 1) l3 l4 b (by omega) (by omega) (pick_skip hS (by simpa using hr)) hb0 hb1
theorem co_fewest {N cnt : Nat} (hN : 4000 ≤ N) (hc : cnt ≤ 49) {near : Int → BitVec 64} (hnr : ∀ a b : Nat, a < cnt → (near a).getLsbD b = true → b < cnt ∧ b ≠ a) {set : BitVec 64} (hex : ∃ y, y < cnt ∧ set.getLsbD y = true) : ∃ x : Nat, f_co_fewestNeighboursAmong N set (cnt : Int) near = some (x : Int) ∧ PickB (fun y => set.getLsbD y) (fun y => popc (near y &&& set)) cnt x :=
  few_loop hc hnr hex N 0 0 49 none (by omega) (by omega) (fun y hy => by omega) (fun _ => rfl) (fun x hx => by cases hx)
theorem left_loop {N cnt a : Nat} (hc : cnt ≤ 49) (ha : a < cnt) {nearm gone : Int → Int} (hn : ∀ a b : Nat, a < 49 → b < 49 → nearm ((49 * a + b : Nat) : Int) = 0 ∨ nearm ((49 * a + b : Nat) : Int) = 1) (hg : ∀ b : Nat, b < cnt → gone b = 0 ∨ gone b = 1) :
    ∀ (n k : Nat), k ≤ cnt → 49 < n + k → f_mo_leftNear_4 N (a : Int) (cnt : Int) nearm gone n (cntB (fun z => decide (nearm ((49 * a + z : Nat) : Int) = 1) && decide (gone (z : Int) = 0)) k) (k : Int) = some (cntB (fun z => decide (nearm ((49 * a + z : Nat) : Int) = 1) && decide (gone (z : Int) = 0)) cnt) := by
  intro n
  induction n with
  | zero => intro k hk hn2; omega
  | succ n ih =>
    intro k hk hn2
    rw [f_mo_leftNear_4.eq_2, og_pos (by omega), og_pos (by omega)]
    by_cases hend : k = cnt
    · rw [if_pos (by omega), hend]
    · have e1 : (k : Int) + 1 = ((k + 1 : Nat) : Int) := by omega
      have h1 := hn a k (by omega) (by omega)
      have h2 := hg k (by omega)
      have hs := cntB_s (fun z => decide (nearm ((49 * a + z : Nat) : Int) = 1) && decide (gone (z : Int) = 0)) k
      have hnext := ih (k + 1) (by omega) (by omega)
      rw [hs] at hnext
      rw [if_neg (by omega), show 49 * (a : Int) + (k : Int) = ((49 * a + k : Nat) : Int) by omega, og_pos (by omega), og_pos (by omega)]
      rcases h1 with h1 | h1
      · rw [if_pos h1, bd_some, bd_some, bd_some, e1]
        rw [h1] at hnext
        simpa using hnext
      · rw [if_neg (by omega), og_pos (by omega), og_pos (by omega)]
        rcases h2 with h2 | h2
        · rw [if_pos h2, bd_some, bd_some, bd_some, e1]
          rw [h1, h2] at hnext
          simpa using hnext
        · rw [if_neg (by omega), bd_some, bd_some, bd_some, e1]
          rw [h1, h2] at hnext
          simpa using hnext
