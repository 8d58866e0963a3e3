/-! ===== PURE: the lead between panes ===== -/
def stp (k : Nat) : Nat := if k < 49 then 1 else 7
def stb (k : Nat) : Nat := if k < 49 then 1 else 8
/-- the k-th pair of neighbours lies in the drawing -/
def vld (R C k : Nat) : Bool := decide ((k % 49 / 7 < R ∧ k % 49 % 7 < C) ∧ (if k < 49 then k % 49 % 7 + 1 < C else k % 49 / 7 + 1 < R))
theorem vld_in {R C k : Nat} (hb : R ≤ 7 ∧ C ≤ 7) (h : vld R C k = true) : (k % 49 < 49 ∧ k % 49 / 7 < R ∧ k % 49 % 7 < C) ∧ (k % 49 + stp k < 49 ∧ (k % 49 + stp k) / 7 < R ∧ (k % 49 + stp k) % 7 < C) ∧ eb (k % 49 + stp k) = eb (k % 49) + stb k := by
  unfold vld at h
  rw [decide_eq_true_eq] at h
  unfold stp stb eb
  by_cases c : k < 49
  · simp only [if_pos c] at h ⊢; omega
  · simp only [if_neg c] at h ⊢; omega
def ld (R C : Nat) (pane : Int → Int) (k : Nat) : Bool := vld R C k && !decide (pane ((k % 49 : Nat) : Int) = pane ((k % 49 + stp k : Nat) : Int))
theorem cntB_diff {p q r : Nat → Bool} : ∀ {n : Nat}, (∀ i, i < n → (r i = (p i && !q i)) ∧ (q i = true → p i = true)) → cntB p n - cntB q n = cntB r n
  | 0, _ => rfl
  | n + 1, h => by
    have h1 := cntB_diff (n := n) (fun i hi => h i (by omega))
    obtain ⟨h2, h3⟩ := h n (by omega)
    rw [cntB_s, cntB_s, cntB_s, h2]
    cases hp : p n <;> cases hq : q n
    · simp; omega
    · rw [hq, hp] at h3; simp at h3
    · simp; omega
    · simp; omega
theorem ce_countPairs {N : Nat} {x : BitVec 64} (hg : Grid x) : f_ce_countPairs N x = some (cntB (fun k => x.getLsbD (eb (k % 49)) && x.getLsbD (eb (k % 49) + stb k)) 98) := by
  unfold f_ce_countPairs f_ce_pairsRight f_ce_pairsBelow
  rw [bd_some, bd_some]
  have g1 : Grid (x &&& x >>> 1) := hg.sub (fun i hi => by rw [gl_and] at hi; simp at hi; exact hi.1)
  have g2 : Grid (x &&& x >>> 8) := hg.sub (fun i hi => by rw [gl_and] at hi; simp at hi; exact hi.1)
  rw [popc_eb g1, popc_eb g2]
  have := cntB_rows (fun k => x.getLsbD (eb (k % 49)) && x.getLsbD (eb (k % 49) + stb k)) 49 2
  rw [show 49 * 2 = 98 from rfl] at this
  rw [this]
  show _ = some ((0 + cntB (fun c => x.getLsbD (eb ((49 * 0 + c) % 49)) && x.getLsbD (eb ((49 * 0 + c) % 49) + stb (49 * 0 + c))) 49) + cntB (fun c => x.getLsbD (eb ((49 * 1 + c) % 49)) && x.getLsbD (eb ((49 * 1 + c) % 49) + stb (49 * 1 + c))) 49)
  rw [Int.zero_add, cntB_congr (p := fun u => (x &&& x >>> 1).getLsbD (eb u)) (q := fun c => x.getLsbD (eb ((49 * 0 + c) % 49)) && x.getLsbD (eb ((49 * 0 + c) % 49) + stb (49 * 0 + c))) (fun u hu => by
      rw [gl_and, gl_shr, show (49 * 0 + u) % 49 = u by omega, show stb (49 * 0 + u) = 1 by unfold stb; rw [if_pos (by omega)]]), cntB_congr (p := fun u => (x &&& x >>> 8).getLsbD (eb u)) (q := fun c => x.getLsbD (eb ((49 * 1 + c) % 49)) && x.getLsbD (eb ((49 * 1 + c) % 49) + stb (49 * 1 + c))) (fun u hu => by
      rw [gl_and, gl_shr, show (49 * 1 + u) % 49 = u by omega, show stb (49 * 1 + u) = 8 by unfold stb; rw [if_neg (by omega)]])]
theorem pair_all {R C : Nat} (hb : R ≤ 7 ∧ C ≤ 7) {all : BitVec 64} (hall : ∀ i, all.getLsbD i = true ↔ i / 8 < R ∧ i % 8 < C) (k : Nat) : (all.getLsbD (eb (k % 49)) && all.getLsbD (eb (k % 49) + stb k)) = vld R C k := by
  rw [Bool.eq_iff_iff, Bool.and_eq_true, hall, hall]
  unfold vld stb
  rw [decide_eq_true_eq]
  have e := eb_rc (k % 49)
  by_cases c : k < 49
  · simp only [if_pos c]; omega
  · simp only [if_neg c]; omega
theorem ldc (a b : Int) (j : Nat) : (!(decide (a = b) && decide (a < ((j + 1 : Nat) : Int)))) = ((!(decide (a = b) && decide (a < (j : Int)))) && !(decide (a = (j : Int)) && decide (b = (j : Int)))) ∧ ((decide (a = (j : Int)) && decide (b = (j : Int))) = true → (!(decide (a = b) && decide (a < (j : Int)))) = true) := by
  constructor
  · rw [Bool.eq_iff_iff]
    simp only [Bool.and_eq_true, Bool.not_eq_true', Bool.and_eq_false_iff, decide_eq_false_iff_not]
    omega
  · simp only [Bool.and_eq_true, Bool.not_eq_true', Bool.and_eq_false_iff, decide_eq_false_iff_not, decide_eq_true_eq]
    omega
theorem lead_loop {N R C : Nat} {jr jb all : BitVec 64} {cnt : Nat} {cells : Int → BitVec 64} {now pane size : Int → Int} (h : PC R C jr jb all cnt cells now pane size) :
    ∀ (n j : Nat), j ≤ cnt → 49 < n + j → f_pa_measureLead_10 N (cnt : Int) cells n (cntB (fun k => vld R C k && !(decide (pane ((k % 49 : Nat) : Int) = pane ((k % 49 + stp k : Nat) : Int)) && decide (pane ((k % 49 : Nat) : Int) < j))) 98) (j : Int) = some (cntB (ld R C pane) 98) := by
  have h49 := h.1
  have hb7 := h.2.1.2.2.1
  intro n
  induction n with
  | zero => intro j hj hn; omega
  | succ n ih =>
    intro j hj hn
    rw [f_pa_measureLead_10.eq_2, og_pos (by omega), og_pos (by omega)]
    by_cases hend : j = cnt
    · rw [if_pos (by omega)]
      refine congrArg some (cntB_congr (fun k hk => ?_))
      unfold ld
      have := (h.2.2.2.2.2.1 (k % 49) (by omega)).2.2
      rw [decide_eq_true (p := pane ((k % 49 : Nat) : Int) < j) (by omega), Bool.and_true]
    · rw [if_neg (by omega), og_pos (by omega), ce_countPairs (h.grid (by omega)), bd_some, bd_some, bd_some]
      rw [cntB_diff (r := fun k => vld R C k && !(decide (pane ((k % 49 : Nat) : Int) = pane ((k % 49 + stp k : Nat) : Int)) && decide (pane ((k % 49 : Nat) : Int) < ((j + 1 : Nat) : Int)))), show (j : Int) + 1 = ((j + 1 : Nat) : Int) by omega]
      · exact ih (j + 1) (by omega) (by omega)
      · intro k hk
        -- the pair lies in pane j
        have hq : ((cells j).getLsbD (eb (k % 49)) && (cells j).getLsbD (eb (k % 49) + stb k)) = (vld R C k && (decide (pane ((k % 49 : Nat) : Int) = j) && decide (pane ((k % 49 + stp k : Nat) : Int) = j))) := by
          cases hv : vld R C k with
          | true =>
            obtain ⟨v1, v2, v3⟩ := vld_in (by omega) hv
            rw [← v3, h.set (by omega) _ v1.1, h.set (by omega) _ v2.1]; rfl
          | false =>
            rw [← pair_all (by omega) h.2.2.1 k] at hv
            cases h1 : (cells j).getLsbD (eb (k % 49)) with
            | false => rfl
            | true =>
              cases h2 : (cells j).getLsbD (eb (k % 49) + stb k) with
              | false => rfl
              | true =>
                rw [h.sub (by omega) _ h1, h.sub (by omega) _ h2] at hv
                cases hv
        rw [hq]
        cases hv : vld R C k with
        | false => simp
        | true =>
          simp only [Bool.true_and]
          exact ldc _ _ j
theorem pa_measureLead {N R C : Nat} (hN : 4000 ≤ N) {jr jb all : BitVec 64} {cnt : Nat} {cells : Int → BitVec 64} {now pane size : Int → Int} (h : PC R C jr jb all cnt cells now pane size) : f_pa_measureLead N all (cnt : Int) cells = some (cntB (ld R C pane) 98) := by
  have hb7 := h.2.1.2.2.1
  unfold f_pa_measureLead
  rw [ce_countPairs (x := all) (fun i hi => by have := (h.2.2.1 i).mp hi; unfold gd; simp; omega), bd_some, cntB_congr (q := fun k => vld R C k && !(decide (pane ((k % 49 : Nat) : Int) = pane ((k % 49 + stp k : Nat) : Int)) && decide (pane ((k % 49 : Nat) : Int) < ((0 : Nat) : Int)))) (fun k hk => ?_)]
  · exact lead_loop h N 0 (by omega) (by omega)
  · rw [pair_all (by omega) h.2.2.1 k]
    cases hv : vld R C k with
    | false => rfl
    | true =>
      obtain ⟨v1, -, -⟩ := vld_in (by omega) hv
      have := (h.2.2.2.2.2.1 (k % 49) v1.1).1.mpr v1.2
      have hn : ¬ pane ((k % 49 : Nat) : Int) < ((0 : Nat) : Int) := by omega
      rw [decide_eq_false hn]; simp
