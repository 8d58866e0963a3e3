/-! ===== PURE: loose cuts ===== -/
theorem looseR_loop {N cnt : Nat} (hc : cnt ≤ 49) {cells : Int → BitVec 64} {cr : BitVec 64} :
    ∀ (n k : Nat) (acc : BitVec 64), k ≤ cnt → 49 < n + k → ∃ y, f_pa_looseRight_4 N cr (cnt : Int) cells n acc (k : Int) = some y ∧ ∀ i, y.getLsbD i = true ↔ cr.getLsbD i = true ∧ (acc.getLsbD i = true ∨ ∃ j : Nat, k ≤ j ∧ j < cnt ∧ (cells j).getLsbD i = true ∧ (cells j).getLsbD (i + 1) = true) := by
  intro n
  induction n with
  | zero => intro k acc hk hn; omega
  | succ n ih =>
    intro k acc hk hn
    rw [f_pa_looseRight_4.eq_2, og_pos (by omega), og_pos (by omega)]
    by_cases hend : k = cnt
    · rw [if_pos (by omega)]
      refine ⟨_, rfl, fun i => ?_⟩
      rw [gl_and, Bool.and_eq_true]
      constructor
      · rintro ⟨h1, h2⟩; exact ⟨h1, Or.inl h2⟩
      · rintro ⟨h1, h2 | ⟨j, h3, h4, _⟩⟩
        · exact ⟨h1, h2⟩
        · omega
    · rw [if_neg (by omega), og_pos (by omega)]
      unfold f_ce_pairsRight
      rw [bd_some, bd_some, bd_some, show (k : Int) + 1 = ((k + 1 : Nat) : Int) by omega]
      obtain ⟨y, y1, y2⟩ := ih (k + 1) (acc ||| (cells k &&& cells k >>> 1)) (by omega) (by omega)
      refine ⟨y, y1, fun i => ?_⟩
      rw [y2 i, gl_or, gl_and, gl_shr]
      simp only [Bool.or_eq_true, Bool.and_eq_true]
      constructor
      · rintro ⟨h1, (h2 | h2) | ⟨j, h3, h4, h5⟩⟩
        · exact ⟨h1, Or.inl h2⟩
        · exact ⟨h1, Or.inr ⟨k, by omega, by omega, h2⟩⟩
        · exact ⟨h1, Or.inr ⟨j, by omega, h4, h5⟩⟩
      · rintro ⟨h1, h2 | ⟨j, h3, h4, h5⟩⟩
        · exact ⟨h1, Or.inl (Or.inl h2)⟩
        · by_cases hjk : j = k
          · subst hjk; exact ⟨h1, Or.inl (Or.inr h5)⟩
          · exact ⟨h1, Or.inr ⟨j, by omega, h4, h5⟩⟩
theorem looseB_loop {N cnt : Nat} (hc : cnt ≤ 49) {cells : Int → BitVec 64} {cr : BitVec 64} :
    ∀ (n k : Nat) (acc : BitVec 64), k ≤ cnt → 49 < n + k → ∃ y, f_pa_looseBelow_4 N cr (cnt : Int) cells n acc (k : Int) = some y ∧ ∀ i, y.getLsbD i = true ↔ cr.getLsbD i = true ∧ (acc.getLsbD i = true ∨ ∃ j : Nat, k ≤ j ∧ j < cnt ∧ (cells j).getLsbD i = true ∧ (cells j).getLsbD (i + 8) = true) := by
  intro n
  induction n with
  | zero => intro k acc hk hn; omega
  | succ n ih =>
    intro k acc hk hn
    rw [f_pa_looseBelow_4.eq_2, og_pos (by omega), og_pos (by omega)]
    by_cases hend : k = cnt
    · rw [if_pos (by omega)]
      refine ⟨_, rfl, fun i => ?_⟩
      rw [gl_and, Bool.and_eq_true]
      constructor
      · rintro ⟨h1, h2⟩; exact ⟨h1, Or.inl h2⟩
      · rintro ⟨h1, h2 | ⟨j, h3, h4, _⟩⟩
        · exact ⟨h1, h2⟩
        · omega
    · rw [if_neg (by omega), og_pos (by omega)]
      unfold f_ce_pairsBelow
      rw [bd_some, bd_some, bd_some, show (k : Int) + 1 = ((k + 1 : Nat) : Int) by omega]
      obtain ⟨y, y1, y2⟩ := ih (k + 1) (acc ||| (cells k &&& cells k >>> 8)) (by omega) (by omega)
      refine ⟨y, y1, fun i => ?_⟩
      rw [y2 i, gl_or, gl_and, gl_shr]
      simp only [Bool.or_eq_true, Bool.and_eq_true]
      constructor
      · rintro ⟨h1, (h2 | h2) | ⟨j, h3, h4, h5⟩⟩
        · exact ⟨h1, Or.inl h2⟩
        · exact ⟨h1, Or.inr ⟨k, by omega, by omega, h2⟩⟩
        · exact ⟨h1, Or.inr ⟨j, by omega, h4, h5⟩⟩
      · rintro ⟨h1, h2 | ⟨j, h3, h4, h5⟩⟩
        · exact ⟨h1, Or.inl (Or.inl h2)⟩
        · by_cases hjk : j = k
          · subst hjk; exact ⟨h1, Or.inl (Or.inr h5)⟩
          · exact ⟨h1, Or.inr ⟨j, by omega, h4, h5⟩⟩
/-- the k-th cut is loose: to the right for k under 49, below from 49 on -/
def lsk (now pane : Int → Int) (k : Nat) : Bool := decide (now ((53 + k : Nat) : Int) = 1 ∧ pane ((k % 49 : Nat) : Int) = pane ((k % 49 + (if k < 49 then 1 else 7) : Nat) : Int))
theorem PC.pair {R C : Nat} {jr jb all : BitVec 64} {cnt : Nat} {cells : Int → BitVec 64} {now pane size : Int → Int} (h : PC R C jr jb all cnt cells now pane size) {u v : Nat} (hu : u < 49) (hv : v < 49) (huD : u / 7 < R ∧ u % 7 < C) (hvD : v / 7 < R ∧ v % 7 < C) : (∃ j : Nat, j < cnt ∧ (cells j).getLsbD (eb u) = true ∧ (cells j).getLsbD (eb v) = true) ↔ pane u = pane v := by
  obtain ⟨p, hp, hpu, hpc⟩ := h.cell hu huD
  obtain ⟨q, hq, hqu, hqc⟩ := h.cell hv hvD
  constructor
  · rintro ⟨j, hj, h1, h2⟩
    have e1 := (hpc j hj).mp h1
    have e2 := (hqc j hj).mp h2
    omega
  · intro e
    have : p = q := by omega
    subst this
    exact ⟨p, hp, (hpc p hp).mpr rfl, (hqc p hp).mpr rfl⟩
theorem pa_loose {N R C : Nat} (hN : 4000 ≤ N) {rows cols cl kl : Int} {cr cb jr jb all : BitVec 64} {cnt : Nat} {cells : Int → BitVec 64} {col now pane size : Int → Int} (hd : RD rows cols cr cb cl kl col now R C) (h : PC R C jr jb all cnt cells now pane size) :
    ∃ lr lb, f_pa_looseRight N cr (cnt : Int) cells = some lr ∧ f_pa_looseBelow N cb (cnt : Int) cells = some lb ∧ (∀ i, lr.getLsbD i = true → cr.getLsbD i = true) ∧ (∀ i, lb.getLsbD i = true → cb.getLsbD i = true) ∧ (∀ u, u < 49 → lr.getLsbD (eb u) = lsk now pane u ∧ lb.getLsbD (eb u) = lsk now pane (49 + u)) := by
  obtain ⟨-, -, -, -, hb, -, -, -, -, hcr, hcb, h53, h102⟩ := hd
  obtain ⟨lr, r1, r2⟩ := looseR_loop (N := N) h.1.2 (cells := cells) (cr := cr) N 0 0#64 (by omega) (by omega)
  obtain ⟨lb, b1, b2⟩ := looseB_loop (N := N) h.1.2 (cells := cells) (cr := cb) N 0 0#64 (by omega) (by omega)
  refine ⟨lr, lb, r1, b1, fun i hi => ((r2 i).mp hi).1, fun i hi => ((b2 i).mp hi).1, fun u hu => ⟨?_, ?_⟩⟩
  · have e := eb_rc u
    rw [Bool.eq_iff_iff, r2, hcr]
    unfold lsk
    rw [e.1, e.2.1, decide_eq_true_eq, gl_zero, if_pos hu]
    have e1 : 53 + 7 * (u / 7) + u % 7 = 53 + u := by omega
    have e2 : u % 49 = u := by omega
    rw [e1, e2]
    constructor
    · rintro ⟨⟨h1, h2, h3⟩, h4 | ⟨j, -, hj, h5, h6⟩⟩
      · cases h4
      · refine ⟨h3, (h.pair hu (v := u + 1) (by omega) (by omega) (by omega)).mp ⟨j, hj, h5, ?_⟩⟩
        rw [show eb (u + 1) = eb u + 1 by unfold eb; omega]; exact h6
    · rintro ⟨h3, h4⟩
      rcases h53 u hu with h0 | ⟨-, h1, h2⟩
      · omega
      · obtain ⟨j, hj, h5, h6⟩ := (h.pair hu (v := u + 1) (by omega) (by omega) (by omega)).mpr h4
        rw [show eb (u + 1) = eb u + 1 by unfold eb; omega] at h6
        exact ⟨⟨h1, h2, h3⟩, Or.inr ⟨j, by omega, hj, h5, h6⟩⟩
  · have e := eb_rc u
    rw [Bool.eq_iff_iff, b2, hcb]
    unfold lsk
    rw [e.1, e.2.1, decide_eq_true_eq, gl_zero, if_neg (by omega)]
    have e1 : 102 + 7 * (u / 7) + u % 7 = 102 + u := by omega
    have e2 : (49 + u) % 49 = u := by omega
    have e3 : 53 + (49 + u) = 102 + u := by omega
    rw [e1, e2, e3]
    constructor
    · rintro ⟨⟨h1, h2, h3⟩, h4 | ⟨j, -, hj, h5, h6⟩⟩
      · cases h4
      · refine ⟨h3, (h.pair hu (v := u + 7) (by omega) (by omega) (by omega)).mp ⟨j, hj, h5, ?_⟩⟩
        rw [show eb (u + 7) = eb u + 8 by unfold eb; omega]; exact h6
    · rintro ⟨h3, h4⟩
      rcases h102 u hu with h0 | ⟨-, h1, h2⟩
      · omega
      · obtain ⟨j, hj, h5, h6⟩ := (h.pair hu (v := u + 7) (by omega) (by omega) (by omega)).mpr h4
        rw [show eb (u + 7) = eb u + 8 by unfold eb; omega] at h6
        exact ⟨⟨h1, h2, h3⟩, Or.inr ⟨j, by omega, hj, h5, h6⟩⟩
theorem mo_step {N : Nat} {k : Nat} (hk : k < 98) : f_mo_step N ((k : Int) / 49) = some ((if k < 49 then 1 else 7 : Nat) : Int) := by
  unfold f_mo_step
  rw [og_pos (by omega)]
  by_cases h : k < 49
  · rw [if_pos (by omega), if_pos h]; rfl
  · rw [if_neg (by omega), if_neg h]; rfl
theorem mo_isLoose {N R C : Nat} {now pane : Int → Int} (hb : 1 ≤ R ∧ R ≤ 7 ∧ 1 ≤ C ∧ C ≤ 7) (h53 : ∀ u : Nat, u < 49 → now ((53 + u : Nat) : Int) = 0 ∨ (now ((53 + u : Nat) : Int) = 1 ∧ u / 7 < R ∧ u % 7 + 1 < C)) (h102 : ∀ u : Nat, u < 49 → now ((102 + u : Nat) : Int) = 0 ∨ (now ((102 + u : Nat) : Int) = 1 ∧ u / 7 + 1 < R ∧ u % 7 < C)) (hp : ∀ j : Int, 0 ≤ j → j < 49 → xR (pane j)) {k : Nat} (hk : k < 98) : f_mo_isLoose N (k : Int) now pane = some (if lsk now pane k = true then 1 else 0) := by
  unfold f_mo_isLoose lsk
  have e1 : (53 : Int) + (k : Int) = ((53 + k : Nat) : Int) := by omega
  have e2 : (k : Int) % 49 = ((k % 49 : Nat) : Int) := by omega
  have hval : now ((53 + k : Nat) : Int) = 0 ∨ (now ((53 + k : Nat) : Int) = 1 ∧ k % 49 + (if k < 49 then 1 else 7) < 49) := by
    by_cases c : k < 49
    · rw [if_pos c]
      rcases h53 k c with h | h
      · exact Or.inl h
      · exact Or.inr ⟨h.1, by omega⟩
    · rw [if_neg c]
      have := h102 (k - 49) (by omega)
      rw [show 102 + (k - 49) = 53 + k by omega] at this
      rcases this with h | h
      · exact Or.inl h
      · exact Or.inr ⟨h.1, by omega⟩
  rw [og_pos (by omega), bd_some, og_pos (by omega), e1, og_pos (by omega)]
  rcases hval with h0 | ⟨h1, h2⟩
  · rw [if_neg (by omega), if_neg (by rw [decide_eq_true_eq]; omega)]
  · rw [if_pos h1, og_pos (by omega), mo_step hk, bd_some, e2]
    generalize hg : (if k < 49 then 1 else 7 : Nat) = g at h2 ⊢
    rw [show ((k % 49 : Nat) : Int) + ((g : Nat) : Int) = ((k % 49 + g : Nat) : Int) by omega, og_pos (by omega), og_pos (hp _ (by omega) (by omega)), og_pos (hp _ (by omega) (by omega))]
    by_cases c : pane ((k % 49 : Nat) : Int) = pane ((k % 49 + g : Nat) : Int)
    · rw [if_pos c, if_pos (by rw [decide_eq_true_eq]; exact ⟨h1, c⟩)]
    · rw [if_neg c, if_neg (by rw [decide_eq_true_eq]; exact fun hq => c hq.2)]
theorem loose_loop {N R C : Nat} {now pane : Int → Int} (hb : 1 ≤ R ∧ R ≤ 7 ∧ 1 ≤ C ∧ C ≤ 7) (h53 : ∀ u : Nat, u < 49 → now ((53 + u : Nat) : Int) = 0 ∨ (now ((53 + u : Nat) : Int) = 1 ∧ u / 7 < R ∧ u % 7 + 1 < C)) (h102 : ∀ u : Nat, u < 49 → now ((102 + u : Nat) : Int) = 0 ∨ (now ((102 + u : Nat) : Int) = 1 ∧ u / 7 + 1 < R ∧ u % 7 < C)) (hp : ∀ j : Int, 0 ≤ j → j < 49 → xR (pane j)) (t b l r p : Int) (q size : Int → Int) :
    ∀ (n k : Nat), k ≤ 98 → 98 < n + k → f_mo_looseCuts_8 N t b l r p q pane size now n (cntB (lsk now pane) k) (k : Int) = some (cntB (lsk now pane) 98, t, b, l, r, p, q, pane, size) := by
  intro n
  induction n with
  | zero => intro k hk hn; omega
  | succ n ih =>
    intro k hk hn
    rw [f_mo_looseCuts_8.eq_2, og_pos (by omega)]
    by_cases hend : k = 98
    · rw [if_pos (by omega), hend]
    · rw [if_neg (by omega), mo_isLoose hb h53 h102 hp (by omega), bd_some]
      have e1 : (k : Int) + 1 = ((k + 1 : Nat) : Int) := by omega
      have e2 := cntB_s (lsk now pane) k
      by_cases c : lsk now pane k = true
      · rw [if_pos c, og_pos (by decide), if_neg (by decide), bd_some, bd_some, bd_some, e1]
        rw [if_pos c] at e2
        rw [← e2]; exact ih (k + 1) (by omega) (by omega)
      · rw [if_neg c, og_pos (by decide), if_pos rfl, bd_some, bd_some, bd_some, e1]
        rw [if_neg c] at e2
        rw [← e2]; exact ih (k + 1) (by omega) (by omega)
theorem loose_count {N R C : Nat} (hN : 4000 ≤ N) {rows cols cl kl : Int} {cr cb lr lb : BitVec 64} {col now pane : Int → Int} (hd : RD rows cols cr cb cl kl col now R C) (h1 : ∀ i, lr.getLsbD i = true → cr.getLsbD i = true) (h2 : ∀ i, lb.getLsbD i = true → cb.getLsbD i = true) (h3 : ∀ u, u < 49 → lr.getLsbD (eb u) = lsk now pane u ∧ lb.getLsbD (eb u) = lsk now pane (49 + u)) : popc lr + popc lb = cntB (lsk now pane) 98 := by
  obtain ⟨-, -, -, -, hb, -, -, -, -, hcr, hcb, -⟩ := hd
  rw [popc_eb (x := lr) (fun i hi => by have := (hcr i).mp (h1 i hi); unfold gd; simp; omega), popc_eb (x := lb) (fun i hi => by have := (hcb i).mp (h2 i hi); unfold gd; simp; omega)]
  have := cntB_rows (lsk now pane) 49 2
  rw [show 49 * 2 = 98 from rfl] at this
  rw [this]
  show _ = (0 + cntB (fun c => lsk now pane (49 * 0 + c)) 49) + cntB (fun c => lsk now pane (49 * 1 + c)) 49
  rw [Int.zero_add]
  rw [cntB_congr (p := fun u => lr.getLsbD (eb u)) (q := fun c => lsk now pane (49 * 0 + c)) (fun u hu => by rw [(h3 u hu).1, show 49 * 0 + u = u by omega]), cntB_congr (p := fun u => lb.getLsbD (eb u)) (q := fun c => lsk now pane (49 * 1 + c)) (fun u hu => by rw [(h3 u hu).2])]
theorem qu_looseCuts {N R C : Nat} (hN : 4000 ≤ N) {rows cols cl kl : Int} {all jr jb cr cb : BitVec 64} {count : Int} {cells near : Int → BitVec 64} {col now : Int → Int} (hd : RD rows cols cr cb cl kl col now R C) (h : PO all jr jb count cells near now R C) (t b l r p : Int) (queue pane size : Int → Int) :
    ∃ (Rg : Int) (Rm : Int × Int × Int × Int × Int × Int × (Int → Int) × (Int → Int) × (Int → Int)), f_gp_looseCuts N cr cb count cells = some Rg ∧ f_mo_looseCuts N t b l r p now queue pane size = some Rm ∧ Rg = Rm.1 := by
  obtain ⟨cnt, q', p', s', e1, e2, e3⟩ := po_mo hN h t b l r p queue pane size
  obtain ⟨lr, lb, l1, l2, l3, l4, l5⟩ := pa_loose hN hd e3
  have hc := loose_count hN hd l3 l4 l5
  have hd0 := hd
  obtain ⟨-, -, -, -, hb, -, -, -, -, -, -, h53, h102⟩ := hd0
  unfold f_gp_looseCuts f_mo_looseCuts
  rw [e1, l1, bd_some, l2, bd_some, e2, bd_some]
  refine ⟨_, _, rfl, loose_loop hb h53 h102 e3.marks 0 ((R : Int) - 1) 0 ((C : Int) - 1) (cnt : Int) q' s' N 0 (by omega) (by omega), hc⟩
