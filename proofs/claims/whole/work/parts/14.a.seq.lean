/-! ===== PURE: the sequences of both sides agree ===== -/
/-- what is left on both sides -/
def LF (cnt : Nat) (set : BitVec 64) (gone : Int → Int) : Prop := (∀ y : Nat, y < cnt → (gone y = 0 ∨ gone y = 1) ∧ (set.getLsbD y = decide (gone (y : Int) = 0))) ∧ ∀ y, set.getLsbD y = true → y < cnt
theorem LF.take {cnt : Nat} (hc : cnt ≤ 49) {set : BitVec 64} {gone : Int → Int} (h : LF cnt set gone) {x : Nat} (hx : x < cnt) : LF cnt (set &&& ((1#64 <<< x) ^^^ 18446744073709551615#64)) (upi gone x 1) := by
  have hb : ∀ y, (set &&& ((1#64 <<< x) ^^^ 18446744073709551615#64)).getLsbD y = (set.getLsbD y && !decide (y = x)) := fun y => by
    rw [gl_and]
    by_cases hy : y < 64
    · rw [gl_not _ hy, gl_one (by omega)]
    · rw [gl_big (x := set) (by omega)]; rfl
  refine ⟨fun y hy => ?_, fun y hy => h.2 y (by rw [hb] at hy; simp at hy; exact hy.1)⟩
  rw [hb]
  by_cases hyx : y = x
  · subst hyx
    rw [upi_s]
    exact ⟨Or.inr rfl, by simp⟩
  · rw [upi_n _ _ (by omega)]
    obtain ⟨h1, h2⟩ := h.1 y hy
    exact ⟨h1, by rw [h2]; simp [hyx]⟩
theorem pick_congr {rem rem' : Nat → Bool} {key key' : Nat → Int} {k x : Nat} (h : PickB rem key k x) (hr : ∀ y, y < k → rem y = rem' y) (hk : ∀ y, y < k → key y = key' y) : PickB rem' key' k x := by
  refine ⟨h.1, by rw [← hr x h.1]; exact h.2.1, fun y hy hry => ?_⟩
  rw [← hr y hy] at hry
  have := h.2.2 y hy hry
  rw [hk x h.1, hk y hy] at this
  exact this
theorem left_cnt {cnt : Nat} (hc : cnt ≤ 49) {set : BitVec 64} {gone : Int → Int} (h : LF cnt set gone) : popc set = cntB (fun y => decide (gone (y : Int) = 0)) cnt := by
  unfold popc
  rw [cntB_tail (m := cnt) 64 (by omega) (fun i h1 h2 => by
    cases hx : set.getLsbD i with
    | false => rfl
    | true => have := h.2 i hx; omega)]
  exact cntB_congr (fun y hy => (h.1 y hy).2)
theorem key2_same {cnt : Nat} (hc : cnt ≤ 49) {near : Int → BitVec 64} {nearm many : Int → Int} (hn : NM cnt near nearm many) {set : BitVec 64} {gone : Int → Int} (h : LF cnt set gone) {a : Nat} (ha : a < cnt) : popc (near (a : Int) &&& set) = keyO 2 cnt nearm many gone a := by
  unfold keyO popc
  rw [if_neg (by omega), if_neg (by omega), cntB_tail (m := cnt) 64 (by omega) (fun i h1 h2 => by
    rw [gl_and]
    cases hx : set.getLsbD i with
    | false => simp
    | true => have := h.2 i hx; omega)]
  refine cntB_congr (fun y hy => ?_)
  rw [gl_and, hn.2.1 a y ha hy, (h.1 y hy).2]
