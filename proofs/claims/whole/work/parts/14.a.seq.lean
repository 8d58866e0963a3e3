/-! ===== PURE: the sequences of both sides agree ===== -/
/-- what is left on both sides -/
def LF (cnt : Nat) (set : BitVec 64) (gone : Int → Int) : Prop := (∀ y : Nat, y < cnt → (gone y = 0 ∨ gone y = 1) ∧ (set.getLsbD y = decide (gone (y : Int) = 0))) ∧ ∀ y, set.getLsbD y = true → y < cnt
theorem LF.take {cnt : Nat} (hc : cnt ≤ 49) {set : BitVec 64} {gone : Int → Int} (h : LF cnt set gone) {x : Nat} (hx : x < cnt) : LF cnt (set &&& ((1#64 <<< x) ^^^ 18446744073709551615#64)) (upi gone x 1) := by
  have hb : ∀ y, (set &&& ((1#64 <<< x) ^^^ 18446744073709551615#64)).getLsbD y = (set.getLsbD y && !decide (y = x)) := fun y => by
    rw [gl_and]
    by_cases hy : y < 64
    · rw [gl_not _ hy, gl_one (by omega)]
    · rw [gl_big (x := set) (by omega)]; rfl
  refine ⟨fun y hy => ?_, fun y hy => h.2 y (by rw [hb] at hy; simp at hy; exact hy.1)⟩
  rw [hb]
  by_cases hyx : y = x
  · subst hyx
    rw [upi_s]
    exact ⟨Or.inr rfl, by simp⟩
  · rw [upi_n _ _ (by omega)]
    obtain ⟨h1, h2⟩ := h.1 y hy
    exact ⟨h1, by rw [h2]; simp [hyx]⟩
theorem pick_congr {rem rem' : Nat → Bool} {key key' : Nat → Int} {k x : Nat} (h : PickB rem key k x) (hr : ∀ y, y < k → rem y = rem' y) (hk : ∀ y, y < k → key y = key' y) : PickB rem' key' k x := by
  refine ⟨h.1, by rw [← hr x h.1]; exact h.2.1, fun y hy hry => ?_⟩
  rw [← hr y hy] at hry
  have := h.2.2 y hy hry
  rw [hk x h.1, hk y hy] at this
  exact this
theorem left_cnt {cnt : Nat} (hc : cnt ≤ 49) {set : BitVec 64} {gone : Int → Int} (h : LF cnt set gone) : popc set = cntB (fun y => decide (gone (y : Int) = 0)) cnt := by
  unfold popc
  rw [cntB_tail (m := cnt) 64 (by omega) (fun i h1 h2 => by
    cases hx : set.getLsbD i with
    | false => rfl
    | true => have := h.2 i hx; omega)]
  exact cntB_congr (fun y hy => (h.1 y hy).2)
theorem key2_same {cnt : Nat} (hc : cnt ≤ 49) {near : Int → BitVec 64} {nearm many : Int → Int} (hn : NM cnt near nearm many) {set : BitVec 64} {gone : Int → Int} (h : LF cnt set gone) {a : Nat} (ha : a < cnt) : popc (near (a : Int) &&& set) = keyO 2 cnt nearm many gone a := by
  unfold keyO popc
  rw [if_neg (by omega), if_neg (by omega), cntB_tail (m := cnt) 64 (by omega) (fun i h1 h2 => by
    rw [gl_and]
    cases hx : set.getLsbD i with
    | false => simp
    | true => have := h.2 i hx; omega)]
  refine cntB_congr (fun y hy => ?_)
  rw [gl_and, hn.2.1 a y ha hy, (h.1 y hy).2]
theorem take_popc {set : BitVec 64} {x : Nat} (hx : x < 64) (hs : set.getLsbD x = true) : popc set = popc (set &&& ((1#64 <<< x) ^^^ 18446744073709551615#64)) + 1 := by
  unfold popc
  refine cntB_upd (k := x) hx ?_ hs (fun i hi hne => ?_)
  · rw [gl_and, gl_not _ hx, gl_one hx]; simp
  · rw [gl_and, gl_not _ hi, gl_one hx]; simp [hne]
theorem left_ex {cnt : Nat} {set : BitVec 64} {gone : Int → Int} (h : LF cnt set gone) (hp : 0 < popc set) : (∃ y, y < cnt ∧ set.getLsbD y = true) ∧ ∃ y : Nat, y < cnt ∧ gone (y : Int) = 0 := by
  have : ¬ set = 0#64 := fun e => by rw [popc_zero.mpr e] at hp; omega
  obtain ⟨i, hi, hx⟩ := gl_ne.mp this
  have hc := h.2 i hx
  refine ⟨⟨i, hc, hx⟩, i, hc, ?_⟩
  rw [(h.1 i hc).2] at hx
  exact of_decide_eq_true hx
theorem seq_1 {N cnt : Nat} (hN : 4000 ≤ N) (hc : 1 ≤ cnt ∧ cnt ≤ 49) {near : Int → BitVec 64} {nearm many : Int → Int} (hn : NM cnt near nearm many) (number : Int → Int) :
    ∀ (n k : Nat) (set : BitVec 64) (gone seqg seqm : Int → Int), k ≤ cnt → 49 < n + k → LF cnt set gone → popc set = (cnt : Int) - k → (∀ i : Nat, i < k → seqg i = seqm i ∧ ∃ x : Nat, x < cnt ∧ seqm i = x) →
      ∃ seqg' seqm' gone', f_co_arrangeByNeighbours_10 N (cnt : Int) near n set (k : Int) seqg = some seqg' ∧ f_mo_colourAll_32 N 1 number (cnt : Int) nearm many n (k : Int) seqm gone = f_mo_colourAll_91 N seqm' gone' (cnt : Int) nearm N 0 0 number ∧ ∀ i : Nat, i < cnt → seqg' i = seqm' i ∧ ∃ x : Nat, x < cnt ∧ seqm' i = x := by
  intro n
  induction n with
  | zero => intro k set gone seqg seqm hk hn2; omega
  | succ n ih =>
    intro k set gone seqg seqm hk hn2 hL hp hs
    by_cases hend : k = cnt
    · refine ⟨seqg, seqm, gone, ?_, ?_, fun i hi => hs i (by omega)⟩
      · rw [f_co_arrangeByNeighbours_10.eq_2, og_pos (by omega), og_pos (by omega), if_pos (by omega)]
      · rw [f_mo_colourAll_32.eq_2, og_pos (by omega), og_pos (by omega), if_pos (by omega)]
    · obtain ⟨ex1, ex2⟩ := left_ex hL (by omega)
      obtain ⟨x, x1, x2⟩ := co_mostNeighbours (near := near) hN hc.2 ex1
      have hm : ∀ a : Nat, a < cnt → 0 ≤ many a ∧ many a ≤ 64 := fun a ha => by rw [hn.2.2.2 a ha]; exact popc_nn _
      obtain ⟨y, y1, y2⟩ := mo_nextPane (o := 1) hN (by omega) hc.2 hn.1 (fun b hb => (hL.1 b hb).1) hm ex2
      have hxy : x = y := pick_uniq (pick_congr x2 (rem' := fun y => decide (gone (y : Int) = 0)) (key' := keyO 1 cnt nearm many gone) (fun z hz => (hL.1 z hz).2) (fun z hz => by
        unfold keyO
        rw [if_neg (by omega), if_pos rfl, hn.2.2.2 z hz])) y2
      subst hxy
      have e1 : (k : Int) + 1 = ((k + 1 : Nat) : Int) := by omega
      have hxc := x2.1
      obtain ⟨sg, sm, g', r1, r2, r3⟩ := ih (k + 1) (set &&& ((1#64 <<< x) ^^^ 18446744073709551615#64)) (upi gone x 1) (upi seqg k x) (upi seqm k x) (by omega) (by omega) (hL.take hc.2 hxc) (by have := take_popc (by omega) x2.2.1; omega) (fun i hi => by
        by_cases hik : i = k
        · subst hik; rw [upi_s, upi_s]; exact ⟨rfl, x, hxc, rfl⟩
        · rw [upi_n _ _ (by omega), upi_n _ _ (by omega)]; exact hs i (by omega))
      refine ⟨sg, sm, g', ?_, ?_, r3⟩
      · rw [f_co_arrangeByNeighbours_10.eq_2, og_pos (by omega), og_pos (by omega), if_neg (by omega), x1, bd_some, og_pos (by omega), bd_some, upi_s, og_pos (by omega), bd_some, bd_some, Int.toNat_natCast, e1]
        exact r1
      · rw [f_mo_colourAll_32.eq_2, og_pos (by omega), og_pos (by omega), if_neg (by omega), og_pos (by omega), if_neg (by omega), bd_some, show (1 : Int) = ((1 : Nat) : Int) from rfl, y1, bd_some, og_pos (by omega), bd_some, upi_s, og_pos (by omega), bd_some, bd_some]
        exact r2
