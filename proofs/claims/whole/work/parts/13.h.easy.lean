/-! ===== PURE: sizes, corners ===== -/
def sumN (f : Nat → Int) : Nat → Int
  | 0 => 0
  | n + 1 => sumN f n + f n
theorem sumN_congr {f g : Nat → Int} : ∀ {n : Nat}, (∀ i, i < n → f i = g i) → sumN f n = sumN g n
  | 0, _ => rfl
  | n + 1, h => by
    show sumN f n + f n = sumN g n + g n
    rw [sumN_congr (fun i hi => h i (by omega)), h n (by omega)]
theorem sumN_tail {f : Nat → Int} {m : Nat} : ∀ (n : Nat), m ≤ n → (∀ i, m ≤ i → i < n → f i = 0) → sumN f n = sumN f m
  | 0, h, _ => by
    have : m = 0 := by omega
    rw [this]
  | n + 1, h, hz => by
    by_cases hm : m = n + 1
    · rw [hm]
    · show sumN f n + f n = _
      rw [sumN_tail n (by omega) (fun i h1 h2 => hz i h1 (by omega)), hz n (by omega) (by omega)]
      omega
theorem cntB_tail {p : Nat → Bool} {m : Nat} : ∀ (n : Nat), m ≤ n → (∀ i, m ≤ i → i < n → p i = false) → cntB p n = cntB p m
  | 0, h, _ => by
    have : m = 0 := by omega
    rw [this]
  | n + 1, h, hz => by
    by_cases hm : m = n + 1
    · rw [hm]
    · rw [cntB_s, cntB_tail n (by omega) (fun i h1 h2 => hz i h1 (by omega)), hz n (by omega) (by omega)]
      simp
theorem cntB_rows (p : Nat → Bool) (w : Nat) : ∀ n : Nat, cntB p (w * n) = sumN (fun r => cntB (fun c => p (w * r + c)) w) n
  | 0 => rfl
  | n + 1 => by
    show cntB p (w * (n + 1)) = sumN _ n + _
    rw [← cntB_rows p w n, Nat.mul_succ, cntB_add]
theorem cntB_64 (p : Nat → Bool) : cntB p 64 = sumN (fun r => cntB (fun c => p (8 * r + c)) 8) 8 := cntB_rows p 8 8
theorem cntB_49 (p : Nat → Bool) : cntB p 49 = sumN (fun r => cntB (fun c => p (7 * r + c)) 7) 7 := cntB_rows p 7 7
theorem popc_eb {x : BitVec 64} (hg : Grid x) : popc x = cntB (fun u => x.getLsbD (eb u)) 49 := by
  unfold popc
  rw [cntB_64, cntB_49]
  rw [sumN_tail (m := 7) 8 (by omega) (fun i h1 h2 => cntB_f (fun c hc => by
    cases hx : x.getLsbD (8 * i + c) with
    | false => rfl
    | true => have := gd_lt (hg _ hx); omega))]
  refine sumN_congr (fun r hr => ?_)
  rw [cntB_tail (m := 7) 8 (by omega) (fun c h1 h2 => by
    cases hx : x.getLsbD (8 * r + c) with
    | false => rfl
    | true => have := gd_lt (hg _ hx); omega)]
  refine cntB_congr (fun c hc => ?_)
  rw [show eb (7 * r + c) = 8 * r + c by unfold eb; omega]
/-- three of the four cells around a point -/
def three (a b d e : Bool) : Bool := ((a && b) && (d ^^ e)) || (((a ^^ b) && d) && e)
def thr (S : Nat → Bool) (r c : Nat) : Bool := three (S (7 * r + c)) (S (7 * r + c + 1)) (S (7 * r + c + 7)) (S (7 * r + c + 8))
def cornN (S : Nat → Bool) (R C : Nat) : Int := sumN (fun r => cntB (thr S r) (C - 1)) (R - 1)
theorem three_sum (a b d e : Bool) : ((((if a = true then (1 : Int) else 0) + (if b = true then 1 else 0)) + (if d = true then 1 else 0)) + (if e = true then 1 else 0) = 3) ↔ three a b d e = true := by
  cases a <;> cases b <;> cases d <;> cases e <;> decide
theorem cornN_congr {S T : Nat → Bool} {R C : Nat} (hb : R ≤ 7 ∧ C ≤ 7) (h : ∀ u, u < 49 → S u = T u) : cornN S R C = cornN T R C := by
  refine sumN_congr (fun r hr => cntB_congr (fun c hc => ?_))
  unfold thr
  rw [h _ (by omega), h _ (by omega), h _ (by omega), h _ (by omega)]
theorem cornN_nn (S : Nat → Bool) (R C : Nat) (hb : R ≤ 7 ∧ C ≤ 7) : 0 ≤ cornN S R C ∧ cornN S R C ≤ 49 := by
  have key : ∀ n : Nat, n ≤ 7 → 0 ≤ sumN (fun r => cntB (thr S r) (C - 1)) n ∧ sumN (fun r => cntB (thr S r) (C - 1)) n ≤ 7 * n := by
    intro n
    induction n with
    | zero => intro _; exact ⟨Int.le_refl _, Int.le_refl _⟩
    | succ n ih =>
      intro hn
      have h1 := ih (by omega)
      have h2 := cntB_nn (thr S n) (C - 1)
      show 0 ≤ sumN _ n + cntB (thr S n) (C - 1) ∧ sumN _ n + cntB (thr S n) (C - 1) ≤ _
      omega
  have := key (R - 1) (by omega)
  unfold cornN
  omega
theorem ce_corners {N R C : Nat} {x : BitVec 64} (hb : R ≤ 7 ∧ C ≤ 7) (hx : ∀ i, x.getLsbD i = true → i / 8 < R ∧ i % 8 < C) : f_ce_countInnerCorners N x = some (cornN (fun u => x.getLsbD (eb u)) R C) := by
  unfold f_ce_countInnerCorners
  rw [bd_some, bd_some, bd_some, bd_some, bd_some]
  congr 1
  unfold popc cornN
  have hf : ∀ i, ¬ (i / 8 < R ∧ i % 8 < C) → x.getLsbD i = false := fun i hi => by
    cases h : x.getLsbD i with
    | false => rfl
    | true => exact absurd (hx i h) hi
  have hbit : ∀ i, (((x &&& (x >>> 1)) &&& ((x >>> 8) ^^^ (x >>> 9))) ||| (((x ^^^ (x >>> 1)) &&& (x >>> 8)) &&& (x >>> 9))).getLsbD i = three (x.getLsbD i) (x.getLsbD (i + 1)) (x.getLsbD (i + 8)) (x.getLsbD (i + 9)) := by
    intro i
    simp only [gl_or, gl_and, gl_xor, gl_shr, three]
  rw [cntB_64]
  rw [sumN_tail (m := R - 1) 8 (by omega) (fun r h1 h2 => cntB_f (fun c hc => by
    rw [hbit, hf (8 * r + c + 8) (by omega), hf (8 * r + c + 9) (by omega)]
    unfold three; simp))]
  refine sumN_congr (fun r hr => ?_)
  rw [cntB_tail (m := C - 1) 8 (by omega) (fun c h1 h2 => by
    rw [hbit]
    by_cases hc7 : c = 7
    · rw [hf (8 * r + c) (by omega), hf (8 * r + c + 8) (by omega)]
      unfold three; simp
    · rw [hf (8 * r + c + 1) (by omega), hf (8 * r + c + 9) (by omega)]
      unfold three; simp)]
  refine cntB_congr (fun c hc => ?_)
  rw [hbit]
  unfold thr
  dsimp only
  rw [show eb (7 * r + c) = 8 * r + c by unfold eb; omega, show eb (7 * r + c + 1) = 8 * r + c + 1 by unfold eb; omega, show eb (7 * r + c + 7) = 8 * r + c + 8 by unfold eb; omega, show eb (7 * r + c + 8) = 8 * r + c + 9 by unfold eb; omega]
theorem ob_if {α : Type} (P : Prop) [Decidable P] (f : Int → Option α) : Option.bind (if P then some (1 : Int) else some 0) f = f (if P then 1 else 0) := by
  by_cases h : P
  · rw [if_pos h, if_pos h]; rfl
  · rw [if_neg h, if_neg h]; rfl
theorem mo_corner_row {N R C : Nat} {now marks : Int → Int} {jr jb : BitVec 64} (h : MD now R C jr jb) {id : Int} (hid : xR id) (hm : ∀ j : Int, 0 ≤ j → j < 49 → xR (marks j)) {r : Nat} (hr : r + 1 < R) (k5 : Int → Int → Option Int) :
    ∀ (n c : Nat) (a : Int), c + 1 ≤ C → C < n + c + 1 → f_mo_corners_21 N id (r : Int) now marks k5 n (a + cntB (thr (fun u => decide (marks (u : Int) = id)) r) c) (c : Int) = k5 (a + cntB (thr (fun u => decide (marks (u : Int) = id)) r) (C - 1)) ((r : Int) + 1) := by
  have hb7 := h.2.2.1
  intro n
  induction n with
  | zero => intro c a h1 h2; omega
  | succ n ih =>
    intro c a h1 h2
    rw [f_mo_corners_21.eq_2, og_pos (by omega), h.2.1, og_pos (by omega)]
    by_cases hc : c + 1 = C
    · rw [if_pos (by omega), bd_some, show C - 1 = c by omega]
    · rw [if_neg (by omega), bd_some, show (7 : Int) * r + c = ((7 * r + c : Nat) : Int) by omega, og_pos (by omega), og_pos (hm _ (by omega) (by omega)), og_pos hid, ob_if]
      rw [og_pos (by omega), og_pos (hm _ (by omega) (by omega)), ob_if, og_pos (by omega), og_pos (hm _ (by omega) (by omega)), ob_if, og_pos (by omega), og_pos (hm _ (by omega) (by omega)), ob_if, bd_some]
      rw [og_pos (by
        constructor <;> (repeat' split) <;> omega), ob_if, bd_some, bd_some]
      rw [show ((7 * r + c : Nat) : Int) + 7 + 1 = ((7 * r + c + 8 : Nat) : Int) by omega, show ((7 * r + c : Nat) : Int) + 7 = ((7 * r + c + 7 : Nat) : Int) by omega, show ((7 * r + c : Nat) : Int) + 1 = ((7 * r + c + 1 : Nat) : Int) by omega, show (c : Int) + 1 = ((c + 1 : Nat) : Int) by omega]
      have key := three_sum (decide (marks ((7 * r + c : Nat) : Int) = id)) (decide (marks ((7 * r + c + 1 : Nat) : Int) = id)) (decide (marks ((7 * r + c + 7 : Nat) : Int) = id)) (decide (marks ((7 * r + c + 8 : Nat) : Int) = id))
      simp only [decide_eq_true_eq] at key
      have hstep : cntB (thr (fun u => decide (marks (u : Int) = id)) r) (c + 1) = cntB (thr (fun u => decide (marks (u : Int) = id)) r) c + (if (((if marks ((7 * r + c : Nat) : Int) = id then (1 : Int) else 0) + (if marks ((7 * r + c + 1 : Nat) : Int) = id then 1 else 0)) + (if marks ((7 * r + c + 7 : Nat) : Int) = id then 1 else 0)) + (if marks ((7 * r + c + 8 : Nat) : Int) = id then 1 else 0) = 3 then 1 else 0) := by
        rw [cntB_s]
        congr 1
        by_cases h3 : thr (fun u => decide (marks (u : Int) = id)) r c = true
        · rw [if_pos h3, if_pos (key.mpr h3)]
        · rw [if_neg h3, if_neg (fun h4 => h3 (key.mp h4))]
      rw [Int.add_assoc, ← hstep]
      exact ih (c + 1) a (by omega) (by omega)
theorem mo_corners {N R C : Nat} (hN : 4000 ≤ N) {now marks : Int → Int} {jr jb : BitVec 64} (h : MD now R C jr jb) {id : Int} (hid : xR id) (hm : ∀ j : Int, 0 ≤ j → j < 49 → xR (marks j)) : f_mo_corners N id now marks = some (cornN (fun u => decide (marks (u : Int) = id)) R C) := by
  have hb7 := h.2.2.1
  have key : ∀ (n r : Nat), r + 1 ≤ R → R < n + r + 1 → f_mo_corners_5 N id now marks n (sumN (fun r => cntB (thr (fun u => decide (marks (u : Int) = id)) r) (C - 1)) r) (r : Int) = some (cornN (fun u => decide (marks (u : Int) = id)) R C) := by
    intro n
    induction n with
    | zero => intro r h1 h2; omega
    | succ n ih =>
      intro r h1 h2
      rw [f_mo_corners_5.eq_2, og_pos (by omega), h.1, og_pos (by omega)]
      by_cases hr : r + 1 = R
      · rw [if_pos (by omega)]
        unfold cornN
        rw [show R - 1 = r by omega]
      · rw [if_neg (by omega)]
        have hrow := mo_corner_row (N := N) h hid hm (r := r) (by omega) (f_mo_corners_5 N id now marks n) N 0 (sumN (fun r => cntB (thr (fun u => decide (marks (u : Int) = id)) r) (C - 1)) r) (by omega) (by omega)
        rw [cntB_0, Int.add_zero] at hrow
        have e0 : ((0 : Nat) : Int) = 0 := rfl
        rw [e0] at hrow
        rw [hrow, show (r : Int) + 1 = ((r + 1 : Nat) : Int) by omega]
        exact ih (r + 1) (by omega) (by omega)
  exact key N 0 (by omega) (by omega)
