/-! ===== PURE: the reference's next pane ===== -/
def keyO (o cnt : Nat) (nearm many gone : Int → Int) (a : Nat) : Int := if o = 0 then 0 else if o = 1 then -many a else cntB (fun z => decide (nearm ((49 * a + z : Nat) : Int) = 1) && decide (gone (z : Int) = 0)) cnt
theorem next_loop {N o cnt : Nat} (hN : 4000 ≤ N) (ho : o < 3) (hc : cnt ≤ 49) {nearm many gone : Int → Int} (hn : ∀ a b : Nat, a < 49 → b < 49 → nearm ((49 * a + b : Nat) : Int) = 0 ∨ nearm ((49 * a + b : Nat) : Int) = 1) (hg : ∀ b : Nat, b < cnt → gone b = 0 ∨ gone b = 1) (hm : ∀ a : Nat, a < cnt → 0 ≤ many a ∧ many a ≤ 64) (hex : ∃ y, y < cnt ∧ decide (gone (y : Int) = 0) = true) :
    ∀ (n k : Nat) (l2 l3 : Int) (b : Option Nat), k ≤ cnt → 49 < n + k → PickS (fun y => decide (gone (y : Int) = 0)) (keyO o cnt nearm many gone) k b → (b = none → l2 = -1) → (∀ x, b = some x → l2 = x ∧ l3 = keyO o cnt nearm many gone x) → ∃ x : Nat, f_mo_nextPane_7 N (o : Int) (cnt : Int) nearm many gone n l2 l3 (k : Int) = some (x : Int) ∧ PickB (fun y => decide (gone (y : Int) = 0)) (keyO o cnt nearm many gone) cnt x := by
  have hkey : ∀ a : Nat, a < cnt → -64 ≤ keyO o cnt nearm many gone a ∧ keyO o cnt nearm many gone a ≤ 64 := fun a ha => by
    have h1 := hm a ha
    have h2 := cntB_nn (fun z => decide (nearm ((49 * a + z : Nat) : Int) = 1) && decide (gone (z : Int) = 0)) cnt
    unfold keyO
    split
    · omega
    · split <;> omega
  intro n
  induction n with
  | zero => intro k l2 l3 b hk hn; omega
  | succ n ih =>
    intro k l2 l3 b hk hn2 hS hb0 hb1
    rw [f_mo_nextPane_7.eq_2, og_pos (by omega), og_pos (by omega)]
    by_cases hend : k = cnt
    · rw [if_pos (by omega)]
      rw [hend] at hS
      obtain ⟨x, rfl, h2⟩ := pick_end hS hex
      exact ⟨x, by rw [(hb1 x rfl).1], h2⟩
    · have e1 : (k : Int) + 1 = ((k + 1 : Nat) : Int) := by omega
      have hkk := hkey k (by omega)
      have hgk := hg k (by omega)
      have hl : f_mo_leftNear N (k : Int) (cnt : Int) nearm gone = some (cntB (fun z => decide (nearm ((49 * k + z : Nat) : Int) = 1) && decide (gone (z : Int) = 0)) cnt) := left_loop (N := N) hc (by omega : k < cnt) hn hg N 0 (by omega) (by omega)
      have hR : (if (o : Int) = 0 then some (0 : Int) else if (o : Int) = 1 then og (0 ≤ (k : Int) ∧ (k : Int) < 49) (some (-(many (k : Int)))) else Option.bind (f_mo_leftNear N (k : Int) (cnt : Int) nearm gone) fun q_18 => some q_18) = some (keyO o cnt nearm many gone k) := by
        unfold keyO
        by_cases c0 : o = 0
        · rw [if_pos (by omega), if_pos c0]
        · rw [if_neg (by omega), if_neg c0]
          by_cases c1 : o = 1
          · rw [if_pos (by omega), if_pos c1, og_pos (by omega)]
          · rw [if_neg (by omega), if_neg c1, hl, bd_some]
      rw [if_neg (by omega), og_pos (by omega), hR, bd_some, og_pos (by omega), og_pos (by omega)]
      have hx2 : -1 ≤ l2 ∧ l2 ≤ 49 := by
        cases b with
        | none => have := hb0 rfl; omega
        | some x => have := (hb1 x rfl).1; have := hS.1; omega
      have hnew : PickS (fun y => decide (gone (y : Int) = 0)) (keyO o cnt nearm many gone) (k + 1) (some k) → ∃ x : Nat, f_mo_nextPane_69 N (o : Int) (cnt : Int) nearm many gone (f_mo_nextPane_7 N (o : Int) (cnt : Int) nearm many gone n) (k : Int) (keyO o cnt nearm many gone k) = some (x : Int) ∧ PickB (fun y => decide (gone (y : Int) = 0)) (keyO o cnt nearm many gone) cnt x := fun hP => by
        unfold f_mo_nextPane_69
        rw [bd_some, e1]
        exact ih (k + 1) _ _ (some k) (by omega) (by omega) hP (fun h => by cases h) (fun x hx => by cases hx; exact ⟨rfl, rfl⟩)
      by_cases hr : gone (k : Int) = 0
      · rw [if_pos hr, og_pos (by omega)]
        cases b with
        | none =>
          rw [if_pos (hb0 rfl)]
          exact hnew (pick_first hS (decide_eq_true hr))
        | some x =>
          obtain ⟨g1, g2⟩ := hb1 x rfl
          have hxk := hkey x (by have := hS.1; omega)
          rw [if_neg (by omega), og_pos (by omega), og_pos (by omega)]
          by_cases c : l3 ≤ keyO o cnt nearm many gone k
          · rw [if_pos c, bd_some, e1]
            exact ih (k + 1) l2 l3 (some x) (by omega) (by omega) (pick_keep hS (by omega)) hb0 hb1
          · rw [if_neg c]
            exact hnew (pick_new hS (decide_eq_true hr) (by omega))
      · rw [if_neg hr, bd_some, e1]
        exact ih (k + 1) l2 l3 b (by omega) (by omega) (pick_skip hS (decide_eq_false hr)) hb0 hb1
theorem mo_nextPane {N o cnt : Nat} (hN : 4000 ≤ N) (ho : o < 3) (hc : cnt ≤ 49) {nearm many gone : Int → Int} (hn : ∀ a b : Nat, a < 49 → b < 49 → nearm ((49 * a + b : Nat) : Int) = 0 ∨ nearm ((49 * a + b : Nat) : Int) = 1) (hg : ∀ b : Nat, b < cnt → gone b = 0 ∨ gone b = 1) (hm : ∀ a : Nat, a < cnt → 0 ≤ many a ∧ many a ≤ 64) (hex : ∃ y : Nat, y < cnt ∧ gone (y : Int) = 0) : ∃ x : Nat, f_mo_nextPane N (o : Int) (cnt : Int) nearm many gone = some (x : Int) ∧ PickB (fun y => decide (gone (y : Int) = 0)) (keyO o cnt nearm many gone) cnt x :=
  next_loop hN ho hc hn hg hm (by obtain ⟨y, h1, h2⟩ := hex; exact ⟨y, h1, decide_eq_true h2⟩) N 0 (-1) 0 none (by omega) (by omega) (fun y hy => by omega) (fun _ => rfl) (fun x hx => by cases hx)
