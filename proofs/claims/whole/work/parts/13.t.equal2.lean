/-! ===== PURE: neighbours of one colour, the reference ===== -/
/-- what a pair of cells adds -/
def eqc (now pane nearm : Int → Int) (fc : Nat → Nat) (x y : Nat) : Int := if 0 ≤ pane x ∧ pane x < pane y ∧ fc (pane x).toNat = x ∧ fc (pane y).toNat = y ∧ nearm ((49 * (pane x).toNat + (pane y).toNat : Nat) : Int) = 1 ∧ now ((4 + x : Nat) : Int) = now ((4 + y : Nat) : Int) then 1 else 0
theorem mo_eq_row {N R C : Nat} (hN : 4000 ≤ N) {jr jb all : BitVec 64} {cnt : Nat} {cells near : Int → BitVec 64} {now pane size nearm many : Int → Int} (h : PC R C jr jb all cnt cells now pane size) (hn : NM cnt near nearm many) {fc : Nat → Nat} (hf : FC cnt pane fc) (t b l r p : Int) (queue : Int → Int) {x : Nat} (hx : x < 49) (k9 : Int → Int → Option (Int × Int × Int × Int × Int × Int × (Int → Int) × (Int → Int) × (Int → Int) × (Int → Int) × (Int → Int))) :
    ∀ (n y : Nat) (c : Int), y ≤ 49 → 49 < n + y → f_mo_equalNeighbours_18 N (x : Int) t b l r p queue pane size nearm many now k9 n (c + sumN (eqc now pane nearm fc x) y) (y : Int) = k9 (c + sumN (eqc now pane nearm fc x) 49) ((x : Int) + 1) := by
  have h49 := h.1
  have hpx := h.2.2.2.2.2.1 x hx
  intro n
  induction n with
  | zero => intro y c hy hn; omega
  | succ n ih =>
    intro y c hy hn2
    rw [f_mo_equalNeighbours_18.eq_2, og_pos (by omega)]
    by_cases hend : y = 49
    · rw [if_pos (by omega), bd_some, hend]
    · have e1 : (y : Int) + 1 = ((y + 1 : Nat) : Int) := by omega
      have hpy := h.2.2.2.2.2.1 y (by omega)
      have hnext := ih (y + 1) c (by omega) (by omega)
      rw [sumN_s, ← Int.add_assoc, ← e1] at hnext
      rw [if_neg (by omega), og_pos (by omega), og_pos (by omega)]
      -- nothing is added
      have hno : (¬ (0 ≤ pane x ∧ pane x < pane y ∧ fc (pane x).toNat = x ∧ fc (pane y).toNat = y ∧ nearm ((49 * (pane x).toNat + (pane y).toNat : Nat) : Int) = 1 ∧ now ((4 + x : Nat) : Int) = now ((4 + y : Nat) : Int))) → f_mo_equalNeighbours_18 N (x : Int) t b l r p queue pane size nearm many now k9 n (c + sumN (eqc now pane nearm fc x) y + 0) ((y : Int) + 1) = k9 (c + sumN (eqc now pane nearm fc x) 49) ((x : Int) + 1) := fun hh => by
        rw [← hnext]
        unfold eqc
        rw [if_neg hh]
      by_cases c1 : pane x < 0
      · rw [if_pos c1, bd_some, og_pos (by decide), if_pos rfl, bd_some, bd_some, bd_some]
        exact hno (fun hh => by omega)
      · rw [if_neg c1, og_pos (by omega), og_pos (by omega)]
        by_cases c2 : pane y ≤ pane x
        · rw [if_pos c2, bd_some, og_pos (by decide), if_pos rfl, bd_some, bd_some, bd_some]
          exact hno (fun hh => by omega)
        · rw [if_neg c2]
          obtain ⟨px, hpx1⟩ : ∃ px : Nat, pane x = px := ⟨(pane x).toNat, by omega⟩
          obtain ⟨py, hpy1⟩ : ∃ py : Nat, pane y = py := ⟨(pane y).toNat, by omega⟩
          have fx := (hf px (by omega)).1
          have fy := (hf py (by omega)).1
          rw [hpx1, hpy1, mo_firstOf hN h49.2 hf h.marks (by omega), bd_some, og_pos (by omega), og_pos (by omega)]
          rw [hpx1, hpy1, Int.toNat_natCast, Int.toNat_natCast] at hno
          by_cases c3 : fc px = x
          · rw [if_pos (by omega), mo_firstOf hN h49.2 hf h.marks (by omega), bd_some, og_pos (by omega)]
            by_cases c4 : fc py = y
            · rw [if_pos (by omega), bd_some, og_pos (by decide), if_neg (by decide), og_pos (by omega), show 49 * (px : Int) + (py : Int) = ((49 * px + py : Nat) : Int) by omega, og_pos (by omega)]
              have hk := hn.1 px py (by omega) (by omega)
              rw [og_pos (by omega)]
              by_cases c5 : nearm ((49 * px + py : Nat) : Int) = 0
              · rw [if_pos c5, bd_some, bd_some, bd_some]
                exact hno (fun hh => by have := hh.2.2.2.2.1; omega)
              · have x1 := h.2.1.2.2.2.1 ((4 + x : Nat) : Int) (by omega) (by omega)
                have x2 := h.2.1.2.2.2.1 ((4 + y : Nat) : Int) (by omega) (by omega)
                rw [if_neg c5, show (4 : Int) + (x : Int) = ((4 + x : Nat) : Int) by omega, show (4 : Int) + (y : Int) = ((4 + y : Nat) : Int) by omega, og_pos (by omega), og_pos (by omega), og_pos (by omega), og_pos (by omega)]
                by_cases c6 : now ((4 + x : Nat) : Int) = now ((4 + y : Nat) : Int)
                · rw [if_pos c6, bd_some, bd_some, bd_some, ← hnext]
                  have : eqc now pane nearm fc x y = 1 := by
                    unfold eqc
                    rw [hpx1, hpy1, Int.toNat_natCast, Int.toNat_natCast, if_pos ⟨by omega, by omega, c3, c4, by omega, c6⟩]
                  rw [this]
                · rw [if_neg c6, bd_some, bd_some, bd_some]
                  exact hno (fun hh => c6 hh.2.2.2.2.2)
            · rw [if_neg (by omega), bd_some, og_pos (by decide), if_pos rfl, bd_some, bd_some, bd_some]
              exact hno (fun hh => c4 hh.2.2.2.1)
          · rw [if_neg (by omega), bd_some, og_pos (by decide), if_pos rfl, bd_some, bd_some, bd_some]
            exact hno (fun hh => c3 hh.2.2.1)
theorem mo_eq_loop {N R C : Nat} (hN : 4000 ≤ N) {jr jb all : BitVec 64} {cnt : Nat} {cells near : Int → BitVec 64} {now pane size nearm many : Int → Int} (h : PC R C jr jb all cnt cells now pane size) (hn : NM cnt near nearm many) {fc : Nat → Nat} (hf : FC cnt pane fc) (t b l r p : Int) (queue : Int → Int) :
    ∀ (n x : Nat), x ≤ 49 → 49 < n + x → f_mo_equalNeighbours_9 N t b l r p queue pane size nearm many now n (sumN (fun x => sumN (eqc now pane nearm fc x) 49) x) (x : Int) = some (sumN (fun x => sumN (eqc now pane nearm fc x) 49) 49, t, b, l, r, p, queue, pane, size, nearm, many) := by
  intro n
  induction n with
  | zero => intro x hx hn2; omega
  | succ n ih =>
    intro x hx hn2
    rw [f_mo_equalNeighbours_9.eq_2, og_pos (by omega)]
    by_cases hend : x = 49
    · rw [if_pos (by omega), hend]
    · rw [if_neg (by omega)]
      have := mo_eq_row hN h hn hf t b l r p queue (x := x) (by omega) (f_mo_equalNeighbours_9 N t b l r p queue pane size nearm many now n) N 0 (sumN (fun x => sumN (eqc now pane nearm fc x) 49) x) (by omega) (by omega)
      have e0 : sumN (eqc now pane nearm fc x) 0 = 0 := rfl
      rw [e0, Int.add_zero, show ((0 : Nat) : Int) = 0 from rfl] at this
      rw [this, show (x : Int) + 1 = ((x + 1 : Nat) : Int) by omega]
      exact ih (x + 1) (by omega) (by omega)
theorem eq_same {R C : Nat} {jr jb all : BitVec 64} {cnt : Nat} {cells near : Int → BitVec 64} {now pane size nearm many : Int → Int} (h : PC R C jr jb all cnt cells now pane size) (hn : NM cnt near nearm many) {fc : Nat → Nat} (hf : FC cnt pane fc) : sumN (fun x => sumN (eqc now pane nearm fc x) 49) 49 = sumN (fun q => sumN (fun i => eqn now nearm fc q i) q) cnt := by
  have h49 := h.1
  have hzx : ∀ x y, x < 49 → (∀ i, i < cnt → fc i ≠ x) → eqc now pane nearm fc x y = 0 := fun x y hx hne => by
    unfold eqc
    have := h.2.2.2.2.2.1 x hx
    exact if_neg (fun hh => hne (pane x).toNat (by omega) hh.2.2.1)
  have hzy : ∀ x y, y < 49 → (∀ i, i < cnt → fc i ≠ y) → eqc now pane nearm fc x y = 0 := fun x y hy hne => by
    unfold eqc
    have := h.2.2.2.2.2.1 y hy
    exact if_neg (fun hh => hne (pane y).toNat (by omega) hh.2.2.2.1)
  have hmono : ∀ i j, i < j → j < cnt → fc i < fc j := fun i j h1 h2 => (hf i (by omega)).2.2.2 j h1 h2
  rw [sumN_at (g := fun x => sumN (eqc now pane nearm fc x) 49) (f := fc) (c := cnt) (fun i hi => (hf i hi).1) hmono (fun k hk hne => sumN_0 (fun y _ => hzx k y hk hne))]
  have e1 : sumN (fun p => sumN (eqc now pane nearm fc (fc p)) 49) cnt = sumN (fun p => sumN (fun q => if p < q then eqn now nearm fc q p else 0) cnt) cnt := by
    refine sumN_congr (fun p hp => ?_)
    rw [sumN_at (g := eqc now pane nearm fc (fc p)) (f := fc) (c := cnt) (fun i hi => (hf i hi).1) hmono (fun k hk hne => hzy _ k hk hne)]
    refine sumN_congr (fun q hq => ?_)
    have hp1 := (hf p hp).2.1
    have hq1 := (hf q hq).2.1
    unfold eqc eqn
    rw [hp1, hq1, Int.toNat_natCast, Int.toNat_natCast]
    by_cases c : p < q
    · rw [if_pos c]
      have b1 := hn.2.1 p q hp hq
      have b2 := hn.2.1 q p hq hp
      have hs : nearm ((49 * p + q : Nat) : Int) = 1 ↔ nearm ((49 * q + p : Nat) : Int) = 1 := by
        constructor
        · intro hh
          rw [decide_eq_true hh] at b1
          have := (hn.2.2.1 p q hp b1).2.2
          rw [this] at b2
          exact of_decide_eq_true b2.symm
        · intro hh
          rw [decide_eq_true hh] at b2
          have := (hn.2.2.1 q p hq b2).2.2
          rw [this] at b1
          exact of_decide_eq_true b1.symm
      by_cases c2 : nearm ((49 * q + p : Nat) : Int) = 1 ∧ now ((4 + fc q : Nat) : Int) = now ((4 + fc p : Nat) : Int)
      · rw [if_pos c2, if_pos ⟨by omega, by omega, rfl, rfl, hs.mpr c2.1, c2.2.symm⟩]
      · rw [if_neg c2, if_neg (fun hh => c2 ⟨hs.mp hh.2.2.2.2.1, hh.2.2.2.2.2.symm⟩)]
    · rw [if_neg c, if_neg (fun hh => by have := hh.2.1; omega)]
  rw [e1, sumN_swap]
  refine sumN_congr (fun q hq => ?_)
  rw [sumN_tail (m := q) cnt (by omega) (fun i h1 h2 => if_neg (by omega))]
  exact sumN_congr (fun p hp => if_pos hp)
theorem qu_equalNeighbours {N R C : Nat} (hN : 4000 ≤ N) {rows cols cl kl : Int} {all jr jb cr cb : BitVec 64} {count : Int} {cells near : Int → BitVec 64} {col now : Int → Int} (hd : RD rows cols cr cb cl kl col now R C) (h : PO all jr jb count cells near now R C) (t b l r p : Int) (queue pane size nearm many : Int → Int) :
    ∃ (Rg : Int) (Rm : Int × Int × Int × Int × Int × Int × (Int → Int) × (Int → Int) × (Int → Int) × (Int → Int) × (Int → Int)), f_gp_equalNeighbours N col count cells near = some Rg ∧ f_mo_equalNeighbours N t b l r p now queue pane size nearm many = some Rm ∧ Rg = Rm.1 := by
  obtain ⟨cnt, q', p', s', n', m', e1, e2, e3, e4⟩ := mo_findNear hN h t b l r p queue pane size nearm many
  obtain ⟨fc, f1, f2⟩ := e3.fc
  have g1 := pa_eq_loop hN hd e3 e4 f1 f2 N 0 (by omega) (by omega)
  have g2 := mo_eq_loop hN e3 e4 f1 0 ((R : Int) - 1) 0 ((C : Int) - 1) (cnt : Int) q' N 0 (by omega) (by omega)
  unfold f_gp_equalNeighbours f_pa_countEqualNeighbours f_mo_equalNeighbours
  rw [e1, e2, bd_some]
  have g1' : f_pa_countEqualNeighbours_4 N col (cnt : Int) cells near N 0 0 = some (sumN (fun q => sumN (fun i => eqn now n' fc q i) q) cnt) := g1
  rw [g1', bd_some]
  exact ⟨_, _, rfl, g2, (eq_same e3 e4 f1).symm⟩
