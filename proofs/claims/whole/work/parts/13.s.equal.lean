/-! ===== PURE: neighbours of one colour ===== -/
theorem sumN_s (f : Nat → Int) (n : Nat) : sumN f (n + 1) = sumN f n + f n := rfl
theorem sumN_0 {f : Nat → Int} : ∀ {n : Nat}, (∀ i, i < n → f i = 0) → sumN f n = 0
  | 0, _ => rfl
  | n + 1, h => by rw [sumN_s, sumN_0 (fun i hi => h i (by omega)), h n (by omega)]; rfl
theorem sumN_add {f g : Nat → Int} : ∀ n : Nat, sumN (fun i => f i + g i) n = sumN f n + sumN g n
  | 0 => rfl
  | n + 1 => by rw [sumN_s, sumN_s, sumN_s, sumN_add n]; omega
theorem sumN_swap {f : Nat → Nat → Int} {n : Nat} : ∀ m : Nat, sumN (fun i => sumN (f i) n) m = sumN (fun j => sumN (fun i => f i j) m) n
  | 0 => (sumN_0 (fun _ _ => rfl)).symm
  | m + 1 => by
    rw [sumN_s, sumN_swap m]
    have : sumN (fun j => sumN (fun i => f i j) (m + 1)) n = sumN (fun j => sumN (fun i => f i j) m + f m j) n := sumN_congr (fun j _ => rfl)
    rw [this, sumN_add]
/-- a sum over the values of a rising function -/
theorem sumN_at {g : Nat → Int} {f : Nat → Nat} : ∀ {c n : Nat}, (∀ i, i < c → f i < n) → (∀ i j, i < j → j < c → f i < f j) → (∀ k, k < n → (∀ i, i < c → f i ≠ k) → g k = 0) → sumN g n = sumN (fun i => g (f i)) c
  | 0, n, _, _, hz => sumN_0 (fun k hk => hz k hk (fun i hi => by omega))
  | c + 1, n, hn, hm, hz => by
    have hc := hn c (by omega)
    rw [sumN_s, ← sumN_at (g := g) (f := f) (c := c) (n := f c) (fun i hi => hm i c hi (by omega)) (fun i j h1 h2 => hm i j h1 (by omega)) (fun k hk hne => hz k (by omega) (fun i hi => by
      by_cases hic : i = c
      · subst hic; omega
      · exact hne i (by omega)))]
    rw [sumN_tail (m := f c + 1) n (by omega) (fun i h1 h2 => hz i h2 (fun j hj => by
      by_cases hjc : j = c
      · subst hjc; omega
      · have := hm j c (by omega) (by omega); omega))]
    rfl
/-- the first cells of the panes -/
def FC (cnt : Nat) (pane : Int → Int) (fc : Nat → Nat) : Prop := ∀ p, p < cnt → fc p < 49 ∧ pane (fc p) = p ∧ (∀ v : Nat, v < 49 → pane v = p → fc p ≤ v) ∧ ∀ q, p < q → q < cnt → fc p < fc q
theorem PC.fc {R C : Nat} {jr jb all : BitVec 64} {cnt : Nat} {cells : Int → BitVec 64} {now pane size : Int → Int} (h : PC R C jr jb all cnt cells now pane size) : ∃ fc, FC cnt pane fc ∧ ∀ p : Nat, p < cnt → isF (cells p) (eb (fc p)) := by
  have h1 : ∀ p : Nat, ∃ f : Nat, p < cnt → f < 49 ∧ isF (cells p) (eb f) := by
    intro p
    by_cases hp : p < cnt
    · obtain ⟨f, hf, hm⟩ := h.2.2.2.1.1 p hp
      obtain ⟨u, hu, rfl⟩ := eb_of (h.grid hp f hf)
      refine ⟨u, fun _ => ⟨hu, hf, fun j hj => ?_⟩⟩
      cases hx : (cells p).getLsbD j with
      | false => rfl
      | true => have := hm j hx; omega
    · exact ⟨0, fun hh => absurd hh hp⟩
  obtain ⟨fc, hfc⟩ := Classical.axiomOfChoice h1
  refine ⟨fc, fun p hp => ?_, fun p hp => (hfc p hp).2⟩
  obtain ⟨f1, f2, f3⟩ := hfc p hp
  refine ⟨f1, (h.2.2.2.2.1 p hp _ f1).mp f2, fun v hv hpv => ?_, fun q hpq hq => ?_⟩
  · apply eb_le
    apply Classical.byContradiction
    intro hlt
    have := (h.2.2.2.2.1 p hp v hv).mpr hpv
    rw [f3 _ (by omega)] at this
    cases this
  · obtain ⟨g1, g2, g3⟩ := hfc q hq
    obtain ⟨f, hf, hm⟩ := h.2.2.2.1.2.2.2.2 p q hpq hq
    have a1 := hm _ g2
    have a2 : eb (fc p) ≤ f := by
      apply Classical.byContradiction
      intro hlt
      have hf : (cells p).getLsbD f = true := hf
      rw [f3 f (by omega)] at hf
      cases hf
    have a3 : fc p ≤ fc q := eb_le (by omega)
    have a4 : fc p ≠ fc q := fun e => by rw [e] at a2; omega
    omega
theorem popc_mask {k : Nat} (hk : k < 64) : popc ((1#64 <<< k) - 1#64) = k := by
  unfold popc
  rw [cntB_congr (q := fun i => decide (i < k)) (fun i hi => gl_mask ⟨k, hk⟩ ⟨i, hi⟩), cntB_tail (m := k) 64 (by omega) (fun i h1 h2 => by simp; omega), cntB_congr (q := fun _ => true) (fun i hi => by simp [hi]), cntB_true]
theorem pa_colourOf {N R C : Nat} {rows cols cl kl : Int} {cr cb : BitVec 64} {cells : Int → BitVec 64} {col now : Int → Int} (hd : RD rows cols cr cb cl kl col now R C) {p u : Nat} (hp : p < 49) (hu : u < 49) (huD : u / 7 < R ∧ u % 7 < C) (hf : isF (cells p) (eb u)) : f_pa_colourOf N (p : Int) col cells = some (now ((4 + u : Nat) : Int)) := by
  obtain ⟨-, -, -, -, hb, -, -, -, hcol, -⟩ := hd
  have e := eb_rc u
  unfold f_pa_colourOf f_ce_numberOfFirst
  rw [og_pos (by omega), f_first hf, bd_some, popc_mask (by omega), bd_some, og_pos (by omega), if_neg (by omega), og_pos (by omega)]
  have := (hcol (u / 7) (u % 7) huD.1 huD.2).1
  rw [← e.2.2, show 4 + 7 * (u / 7) + u % 7 = 4 + u by omega] at this
  rw [this]
theorem firstOf_loop {N : Nat} {pane : Int → Int} {p u : Nat} (hp : p < 49) (hm : ∀ j : Int, 0 ≤ j → j < 49 → xR (pane j)) (hu : u < 49) (h1 : pane u = p) (h2 : ∀ v : Nat, v < 49 → pane v = p → u ≤ v) : ∀ (n k : Nat), k ≤ u → 49 < n + k → f_mo_firstOf_2 N (p : Int) pane n (k : Int) = some (u : Int) := by
  intro n
  induction n with
  | zero => intro k hk hn; omega
  | succ n ih =>
    intro k hk hn
    rw [f_mo_firstOf_2.eq_2, og_pos (by omega), og_pos (hm _ (by omega) (by omega)), og_pos (by omega)]
    by_cases hku : k = u
    · rw [hku, if_pos h1]
    · rw [if_neg (fun e => by have := h2 k (by omega) e; omega), bd_some, show (k : Int) + 1 = ((k + 1 : Nat) : Int) by omega]
      exact ih (k + 1) (by omega) (by omega)
theorem mo_firstOf {N cnt : Nat} (hN : 4000 ≤ N) (hc : cnt ≤ 49) {pane : Int → Int} {fc : Nat → Nat} (h : FC cnt pane fc) (hm : ∀ j : Int, 0 ≤ j → j < 49 → xR (pane j)) {p : Nat} (hp : p < cnt) : f_mo_firstOf N (p : Int) pane = some ((fc p : Nat) : Int) := by
  obtain ⟨h1, h2, h3, -⟩ := h p hp
  exact firstOf_loop (by omega) hm h1 h2 h3 N 0 (by omega) (by omega)
/-- panes p and q meet and have one colour -/
def eqn (now nearm : Int → Int) (fc : Nat → Nat) (p q : Nat) : Int := if nearm ((49 * p + q : Nat) : Int) = 1 ∧ now ((4 + fc p : Nat) : Int) = now ((4 + fc q : Nat) : Int) then 1 else 0
theorem pa_eq_row {N R C : Nat} {rows cols cl kl : Int} {cr cb jr jb all : BitVec 64} {cnt : Nat} {cells near : Int → BitVec 64} {col now pane size nearm many : Int → Int} (hd : RD rows cols cr cb cl kl col now R C) (h : PC R C jr jb all cnt cells now pane size) (hn : NM cnt near nearm many) {fc : Nat → Nat} (hf : FC cnt pane fc) (hf2 : ∀ p : Nat, p < cnt → isF (cells p) (eb (fc p))) {q : Nat} (hq : q < cnt) (k4 : Int → Int → Option Int) :
    ∀ (n p : Nat) (c : Int), p ≤ q → 49 < n + p → f_pa_countEqualNeighbours_14 N (q : Int) col (cnt : Int) cells near k4 n (c + sumN (fun i => eqn now nearm fc q i) p) (p : Int) = k4 (c + sumN (fun i => eqn now nearm fc q i) q) ((q : Int) + 1) := by
  have h49 := h.1
  have hin : ∀ p : Nat, p < cnt → fc p / 7 < R ∧ fc p % 7 < C := fun p hp => by
    have a := hf p hp
    exact (h.2.2.2.2.2.1 (fc p) a.1).1.mp (by rw [a.2.1]; omega)
  intro n
  induction n with
  | zero => intro p c hp hn; omega
  | succ n ih =>
    intro p c hp hn2
    rw [f_pa_countEqualNeighbours_14.eq_2, og_pos (by omega), og_pos (by omega)]
    by_cases hend : p = q
    · rw [if_pos (by omega), bd_some, hend]
    · have e1 : (p : Int) + 1 = ((p + 1 : Nat) : Int) := by omega
      have hbit := hn.2.1 q p hq (by omega)
      have hnx := h.2.1.2.2.2.1
      rw [if_neg (by omega), og_pos (by omega), og_pos (by omega), Int.toNat_natCast]
      have hnext := ih (p + 1) c (by omega) (by omega)
      rw [sumN_s] at hnext
      by_cases hb : (near q).getLsbD p = true
      · have hone : nearm ((49 * q + p : Nat) : Int) = 1 := by rw [hb] at hbit; simpa using hbit.symm
        rw [if_neg (fun h2 => by rw [gl_and_one (by omega)] at h2; rw [h2] at hb; cases hb), bd_some, og_pos (by decide), if_neg (by decide), pa_colourOf hd (by omega) (hf q hq).1 (hin q hq) (hf2 q hq), bd_some, pa_colourOf hd (by omega) (hf p (by omega)).1 (hin p (by omega)) (hf2 p (by omega)), bd_some]
        have x1 := hnx ((4 + fc q : Nat) : Int) (by omega) (by have := (hf q hq).1; omega)
        have x2 := hnx ((4 + fc p : Nat) : Int) (by omega) (by have := (hf p (by omega)).1; omega)
        rw [og_pos (by omega), og_pos (by omega)]
        by_cases hc : now ((4 + fc q : Nat) : Int) = now ((4 + fc p : Nat) : Int)
        · rw [if_pos hc, bd_some, bd_some, bd_some]
          have : eqn now nearm fc q p = 1 := by unfold eqn; rw [if_pos ⟨hone, hc⟩]
          rw [this, ← Int.add_assoc] at hnext
          rw [← hnext, e1]
        · rw [if_neg hc, bd_some, bd_some]
          have : eqn now nearm fc q p = 0 := by unfold eqn; rw [if_neg (fun hh => hc hh.2)]
          rw [this, Int.add_zero] at hnext
          rw [← hnext, e1]
      · have hzero : ¬ nearm ((49 * q + p : Nat) : Int) = 1 := fun e => hb (by rw [hbit]; exact decide_eq_true e)
        rw [if_pos (by rw [gl_and_one (by omega)]; simpa using hb), bd_some, og_pos (by decide), if_pos rfl, bd_some, bd_some]
        have : eqn now nearm fc q p = 0 := by unfold eqn; rw [if_neg (fun hh => hzero hh.1)]
        rw [this, Int.add_zero] at hnext
        rw [← hnext, e1]
theorem pa_eq_loop {N R C : Nat} (hN : 4000 ≤ N) {rows cols cl kl : Int} {cr cb jr jb all : BitVec 64} {cnt : Nat} {cells near : Int → BitVec 64} {col now pane size nearm many : Int → Int} (hd : RD rows cols cr cb cl kl col now R C) (h : PC R C jr jb all cnt cells now pane size) (hn : NM cnt near nearm many) {fc : Nat → Nat} (hf : FC cnt pane fc) (hf2 : ∀ p : Nat, p < cnt → isF (cells p) (eb (fc p))) :
    ∀ (n q : Nat), q ≤ cnt → 49 < n + q → f_pa_countEqualNeighbours_4 N col (cnt : Int) cells near n (sumN (fun q => sumN (fun i => eqn now nearm fc q i) q) q) (q : Int) = some (sumN (fun q => sumN (fun i => eqn now nearm fc q i) q) cnt) := by
  have h49 := h.1
  intro n
  induction n with
  | zero => intro q hq hn2; omega
  | succ n ih =>
    intro q hq hn2
    rw [f_pa_countEqualNeighbours_4.eq_2, og_pos (by omega), og_pos (by omega)]
    by_cases hend : q = cnt
    · rw [if_pos (by omega), hend]
    · rw [if_neg (by omega)]
      have := pa_eq_row (N := N) hd h hn hf hf2 (q := q) (by omega) (f_pa_countEqualNeighbours_4 N col (cnt : Int) cells near n) N 0 (sumN (fun q => sumN (fun i => eqn now nearm fc q i) q) q) (by omega) (by omega)
      have e0 : sumN (fun i => eqn now nearm fc q i) 0 = 0 := rfl
      rw [e0, Int.add_zero, show ((0 : Nat) : Int) = 0 from rfl] at this
      rw [this, show (q : Int) + 1 = ((q + 1 : Nat) : Int) by omega]
      exact ih (q + 1) (by omega) (by omega)
