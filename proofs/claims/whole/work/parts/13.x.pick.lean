/-! ===== PURE: the next pane of an order ===== -/
def PickB (rem : Nat → Bool) (key : Nat → Int) (k x : Nat) : Prop := x < k ∧ rem x = true ∧ ∀ y, y < k → rem y = true → key x ≤ key y ∧ (y < x → key x < key y)
theorem pick_uniq {rem : Nat → Bool} {key : Nat → Int} {k x y : Nat} (hx : PickB rem key k x) (hy : PickB rem key k y) : x = y := by
  have h1 := hx.2.2 y hy.1 hy.2.1
  have h2 := hy.2.2 x hx.1 hx.2.1
  rcases Nat.lt_trichotomy x y with h | h | h
  · have := h2.2 h; omega
  · exact h
  · have := h1.2 h; omega
/-- between: none of the first k, or the best of them -/
def PickS (rem : Nat → Bool) (key : Nat → Int) (k : Nat) (b : Option Nat) : Prop := match b with
  | none => ∀ y, y < k → rem y = false
  | some x => PickB rem key k x
theorem pick_skip {rem : Nat → Bool} {key : Nat → Int} {k : Nat} {b : Option Nat} (h : PickS rem key k b) (hk : rem k = false) : PickS rem key (k + 1) b := by
  cases b with
  | none =>
    intro y hy
    by_cases hyk : y = k
    · rw [hyk]; exact hk
    · exact h y (by omega)
  | some x =>
    refine ⟨by have := h.1; omega, h.2.1, fun y hy hr => ?_⟩
    by_cases hyk : y = k
    · rw [hyk, hk] at hr; cases hr
    · exact h.2.2 y (by omega) hr
theorem pick_first {rem : Nat → Bool} {key : Nat → Int} {k : Nat} (h : PickS rem key k none) (hk : rem k = true) : PickS rem key (k + 1) (some k) := by
  refine ⟨by omega, hk, fun y hy hr => ?_⟩
  by_cases hyk : y = k
  · rw [hyk]; exact ⟨Int.le_refl _, fun h => by omega⟩
  · rw [h y (by omega)] at hr; cases hr
theorem pick_keep {rem : Nat → Bool} {key : Nat → Int} {k x : Nat} (h : PickS rem key k (some x)) (hle : key x ≤ key k) : PickS rem key (k + 1) (some x) := by
  refine ⟨by have := h.1; omega, h.2.1, fun y hy hr => ?_⟩
  by_cases hyk : y = k
  · rw [hyk]; exact ⟨hle, fun hh => by have := h.1; omega⟩
  · exact h.2.2 y (by omega) hr
theorem pick_new {rem : Nat → Bool} {key : Nat → Int} {k x : Nat} (h : PickS rem key k (some x)) (hk : rem k = true) (hlt : key k < key x) : PickS rem key (k + 1) (some k) := by
  refine ⟨by omega, hk, fun y hy hr => ?_⟩
  by_cases hyk : y = k
  · rw [hyk]; exact ⟨Int.le_refl _, fun h => by omega⟩
  · have := (h.2.2 y (by omega) hr).1
    exact ⟨by omega, fun _ => by omega⟩
theorem pick_end {rem : Nat → Bool} {key : Nat → Int} {k : Nat} {b : Option Nat} (h : PickS rem key k b) (hex : ∃ y, y < k ∧ rem y = true) : ∃ x, b = some x ∧ PickB rem key k x := by
  cases b with
  | none =>
    obtain ⟨y, h1, h2⟩ := hex
    rw [h y h1] at h2; cases h2
  | some x => exact ⟨x, rfl, h⟩
theorem most_loop {N cnt : Nat} (hc : cnt ≤ 49) {near : Int → BitVec 64} {set : BitVec 64} (hex : ∃ y, y < cnt ∧ set.getLsbD y = true) :
    ∀ (n k : Nat) (l3 l4 : Int) (b : Option Nat), k ≤ cnt → 49 < n + k → PickS (fun y => set.getLsbD y) (fun y => -popc (near y)) k b → (b = none → l4 = -1) → (∀ x, b = some x → l3 = x ∧ l4 = popc (near x)) → ∃ x : Nat, f_co_mostNeighbours_8 N set (cnt : Int) near n l3 l4 (k : Int) = some (x : Int) ∧ PickB (fun y => set.getLsbD y) (fun y => -popc (near y)) cnt x := by
  intro n
  induction n with
  | zero => intro k l3 l4 b hk hn; omega
  | succ n ih =>
    intro k l3 l4 b hk hn hS hb0 hb1
    have hp := popc_nn (near (k : Int))
    have hx4 : -1 ≤ l4 ∧ l4 ≤ 64 := by
      cases b with
      | none => have := hb0 rfl; omega
      | some x => have := (hb1 x rfl).2; have := popc_nn (near (x : Int)); omega
    rw [f_co_mostNeighbours_8.eq_2, og_pos (by omega), og_pos (by omega)]
    by_cases hend : k = cnt
    · rw [if_pos (by omega)]
      rw [hend] at hS
      obtain ⟨x, rfl, h2⟩ := pick_end hS hex
      exact ⟨x, by rw [(hb1 x rfl).1], h2⟩
    · have e1 : (k : Int) + 1 = ((k + 1 : Nat) : Int) := by omega
      rw [if_neg (by omega), og_pos (by omega), bd_some, og_pos (by omega), Int.toNat_natCast]
      by_cases hr : set.getLsbD k = true
      · rw [if_neg (fun h2 => by rw [gl_and_one (by omega)] at h2; rw [h2] at hr; cases hr), og_pos (by omega), og_pos (by omega)]
        by_cases c : popc (near (k : Int)) ≤ l4
        · rw [if_pos c, bd_some, bd_some]
          show ∃ x : Nat, f_co_mostNeighbours_8 N set (cnt : Int) near n l3 l4 ((k : Int) + 1) = some (x : Int) ∧ _
          rw [e1]
          cases b with
          | none => have := hb0 rfl; omega
          | some x => exact ih (k + 1) l3 l4 (some x) (by omega) (by omega) (pick_keep hS (by show -popc (near x) ≤ -popc (near k); have := (hb1 x rfl).2; omega)) hb0 hb1
        · rw [if_neg c, bd_some, bd_some]
          show ∃ x : Nat, f_co_mostNeighbours_8 N set (cnt : Int) near n (k : Int) (popc (near (k : Int))) ((k : Int) + 1) = some (x : Int) ∧ _
          rw [e1]
          refine ih (k + 1) _ _ (some k) (by omega) (by omega) ?_ (fun h => by cases h) (fun x hx => by cases hx; exact ⟨rfl, rfl⟩)
          cases b with
          | none => exact pick_first hS hr
          | some x => exact pick_new hS hr (by show -popc (near k) < -popc (near x); have := (hb1 x rfl).2; omega)
      · rw [if_pos (by rw [gl_and_one (by omega)]; simpa using hr), bd_some, bd_some]
        show ∃ x : Nat, f_co_mostNeighbours_8 N set (cnt : Int) near n l3 l4 ((k : Int) + 1) = some (x : Int) ∧ _
        rw [e1]
        exact ih (k + 1) l3 l4 b (by omega) (by omega) (pick_skip hS (by simpa using hr)) hb0 hb1
theorem co_mostNeighbours {N cnt : Nat} (hN : 4000 ≤ N) (hc : cnt ≤ 49) {near : Int → BitVec 64} {set : BitVec 64} (hex : ∃ y, y < cnt ∧ set.getLsbD y = true) : ∃ x : Nat, f_co_mostNeighbours N set (cnt : Int) near = some (x : Int) ∧ PickB (fun y => set.getLsbD y) (fun y => -popc (near y)) cnt x :=
  most_loop hc hex N 0 0 (-1) none (by omega) (by omega) (fun y hy => by omega) (fun _ => rfl) (fun x hx => by cases hx)
