/-! ===== PURE: what is easy to cut, and the questions about a pane ===== -/
theorem eh_congr {R C : Nat} {S T : Nat → Bool} (h : ∀ u, u < 49 → S u = T u) : EH R C S = EH R C T := by
  funext u v
  apply propext
  unfold EH
  constructor
  · rintro ⟨h1, h2, h3, h4, h5⟩; exact ⟨h1, h2, h3, h4, by rw [← h v h2]; exact h5⟩
  · rintro ⟨h1, h2, h3, h4, h5⟩; exact ⟨h1, h2, h3, h4, by rw [h v h2]; exact h5⟩
theorem holeN_congr {R C : Nat} {S T : Nat → Bool} (h : ∀ u, u < 49 → S u = T u) : holeN R C S = holeN R C T := by
  unfold holeN
  refine cntB_congr (fun s hs => isT_c ?_)
  unfold hroot oth
  rw [eh_congr h, h s hs]
noncomputable def ez (R C : Nat) (S : Nat → Bool) (cl kl : Int) : Bool := decide (cntB S 49 ≤ cl ∧ cornN S R C ≤ kl ∧ holeN R C S = 0)
theorem ez_congr {R C : Nat} (hb : R ≤ 7 ∧ C ≤ 7) {S T : Nat → Bool} {cl kl : Int} (h : ∀ u, u < 49 → S u = T u) : ez R C S cl kl = ez R C T cl kl := by
  unfold ez
  rw [cntB_congr h, cornN_congr hb h, holeN_congr h]
theorem holeN_nn (R C : Nat) (S : Nat → Bool) : 0 ≤ holeN R C S ∧ holeN R C S ≤ 49 := cntB_nn _ 49
theorem pa_isEasy {N R C : Nat} (hN : 4000 ≤ N) {x all : BitVec 64} {cl kl : Int} (hb : R ≤ 7 ∧ C ≤ 7) (hall : ∀ i, all.getLsbD i = true ↔ i / 8 < R ∧ i % 8 < C) (hx : ∀ i, x.getLsbD i = true → all.getLsbD i = true) (hcl : xR cl) (hkl : xR kl) : f_pa_isEasy N x cl kl all = some (if ez R C (fun u => x.getLsbD (eb u)) cl kl = true then 1 else 0) := by
  have hg : Grid x := fun i hi => by
    have := (hall i).mp (hx i hi)
    unfold gd; simp; omega
  have hp := popc_nn x
  have he := popc_eb hg
  have hc := cornN_nn (fun u => x.getLsbD (eb u)) R C hb
  have hh := holeN_nn R C (fun u => x.getLsbD (eb u))
  unfold f_pa_isEasy ez
  rw [og_pos (by omega), og_pos hcl, ce_corners hb (fun i hi => (hall i).mp (hx i hi)), ce_countHoles hN hb hall, he]
  by_cases h1 : cl < cntB (fun u => x.getLsbD (eb u)) 49
  · rw [if_pos h1, if_neg (by rw [decide_eq_true_eq]; omega)]
  · rw [if_neg h1, bd_some, og_pos (by omega), og_pos hkl]
    by_cases h2 : kl < cornN (fun u => x.getLsbD (eb u)) R C
    · rw [if_pos h2, if_neg (by rw [decide_eq_true_eq]; omega)]
    · rw [if_neg h2, bd_some, og_pos (by omega)]
      by_cases h3 : holeN R C (fun u => x.getLsbD (eb u)) = 0
      · rw [if_pos h3, if_pos (by rw [decide_eq_true_eq]; omega)]
      · rw [if_neg h3, if_neg (by rw [decide_eq_true_eq]; omega)]
theorem mo_isEasy {N R C : Nat} (hN : 4000 ≤ N) {now marks : Int → Int} {jr jb : BitVec 64} (h : MD now R C jr jb) {id : Int} (hid : xR id) (hm : ∀ j : Int, 0 ≤ j → j < 49 → xR (marks j)) {size : Int} (hs : size = cntB (fun v => decide (marks (v : Int) = id)) 49) {q s0 : Int → Int} :
    ∃ (q1 s1 : Int → Int), f_mo_isEasy N id size now q s0 marks = some (if ez R C (fun v => decide (marks (v : Int) = id)) (now 2) (now 3) = true then 1 else 0, q1, s1) := by
  have hb7 := h.2.2.1
  have hb : R ≤ 7 ∧ C ≤ 7 := by omega
  have hc := cornN_nn (fun v => decide (marks (v : Int) = id)) R C hb
  have hh := holeN_nn R C (fun v => decide (marks (v : Int) = id))
  have hz := cntB_nn (fun v => decide (marks (v : Int) = id)) 49
  have h2 := h.2.2.2.1 2 (by omega) (by omega)
  have h3 := h.2.2.2.1 3 (by omega) (by omega)
  unfold f_mo_isEasy ez
  rw [og_pos (by omega), og_pos (by omega), mo_corners hN h hid hm, hs]
  by_cases c1 : now 2 < cntB (fun v => decide (marks (v : Int) = id)) 49
  · rw [if_pos c1, if_neg (by rw [decide_eq_true_eq]; omega)]; exact ⟨_, _, rfl⟩
  · rw [if_neg c1, bd_some, og_pos (by omega), og_pos (by omega)]
    by_cases c2 : now 3 < cornN (fun v => decide (marks (v : Int) = id)) R C
    · rw [if_pos c2, if_neg (by rw [decide_eq_true_eq]; omega)]; exact ⟨_, _, rfl⟩
    · rw [if_neg c2]
      by_cases c3 : cntB (fun v => decide (marks (v : Int) = id)) 49 < 8
      · rw [if_pos c3, if_pos (by rw [decide_eq_true_eq]; exact ⟨by omega, by omega, hole_none hb c3⟩)]; exact ⟨_, _, rfl⟩
      · rw [if_neg c3]
        obtain ⟨q1, s1, r1⟩ := mo_holesOf (q := q) (s0 := s0) hN h hid hm
        rw [r1, bd_some]
        show ∃ q1' s1', (og (xR (holeN R C (fun v => decide (marks (v : Int) = id)))) <| if holeN R C (fun v => decide (marks (v : Int) = id)) = 0 then some (1, q1, s1) else some (0, q1, s1)) = some (_, q1', s1')
        rw [og_pos (by omega)]
        by_cases c4 : holeN R C (fun v => decide (marks (v : Int) = id)) = 0
        · rw [if_pos c4, if_pos (by rw [decide_eq_true_eq]; omega)]; exact ⟨_, _, rfl⟩
        · rw [if_neg c4, if_neg (by rw [decide_eq_true_eq]; omega)]; exact ⟨_, _, rfl⟩
/-- the panes of both sides -/
def PC (R C : Nat) (jr jb all : BitVec 64) (cnt : Nat) (cells : Int → BitVec 64) (now pane size : Int → Int) : Prop :=
  (1 ≤ cnt ∧ cnt ≤ 49) ∧ MD now R C jr jb ∧ (∀ i, all.getLsbD i = true ↔ i / 8 < R ∧ i % 8 < C) ∧ GoodLab (EJ jr jb) all cnt (fun j b => (cells j).getLsbD b = true) ∧ (∀ j : Nat, j < cnt → ∀ u : Nat, u < 49 → ((cells j).getLsbD (eb u) = true ↔ pane u = j)) ∧ (∀ u : Nat, u < 49 → (0 ≤ pane u ↔ u / 7 < R ∧ u % 7 < C) ∧ -1 ≤ pane u ∧ pane u < cnt) ∧ (∀ j : Nat, j < cnt → size j = cntB (fun v => decide (pane (v : Int) = j)) 49)
theorem po_mo {N R C : Nat} (hN : 4000 ≤ N) {all jr jb : BitVec 64} {count : Int} {cells near : Int → BitVec 64} {now : Int → Int} (h : PO all jr jb count cells near now R C) (t b l r p : Int) (queue pane size : Int → Int) :
    ∃ (cnt : Nat) (queue' pane' size' : Int → Int), count = cnt ∧ f_mo_findPanes N t b l r p now queue pane size = some (0, (R : Int) - 1, 0, (C : Int) - 1, (cnt : Int), queue', pane', size') ∧ PC R C jr jb all cnt cells now pane' size' := by
  obtain ⟨cnt, h1, h2, h3, h4, h5, h6, h7⟩ := h
  obtain ⟨cnt', q', p', s', e1, e2⟩ := mo_findPanes hN h4 h5 t b l r p queue pane size
  obtain ⟨e3, e4⟩ := panes_same h6 e2
  subst e3
  exact ⟨cnt, q', p', s', h1, e1, ⟨h2, h3⟩, h4, h5, h6, e4, e2.2.1, e2.2.2.2⟩
theorem PC.marks {R C : Nat} {jr jb all : BitVec 64} {cnt : Nat} {cells : Int → BitVec 64} {now pane size : Int → Int} (h : PC R C jr jb all cnt cells now pane size) : ∀ j : Int, 0 ≤ j → j < 49 → xR (pane j) := fun j h1 h2 => by
  have := (h.2.2.2.2.2.1 j.toNat (by omega)).2
  rw [show ((j.toNat : Nat) : Int) = j by omega] at this
  have := h.1
  omega
theorem PC.sub {R C : Nat} {jr jb all : BitVec 64} {cnt : Nat} {cells : Int → BitVec 64} {now pane size : Int → Int} (h : PC R C jr jb all cnt cells now pane size) {j : Nat} (hj : j < cnt) : ∀ i, (cells j).getLsbD i = true → all.getLsbD i = true := fun i hi => (h.2.2.2.1.2.1 i).mpr ⟨j, hj, hi⟩
theorem PC.grid {R C : Nat} {jr jb all : BitVec 64} {cnt : Nat} {cells : Int → BitVec 64} {now pane size : Int → Int} (h : PC R C jr jb all cnt cells now pane size) {j : Nat} (hj : j < cnt) : Grid (cells j) := fun i hi => by
  have := (h.2.2.1 i).mp (h.sub hj i hi)
  have := h.2.1.2.2.1
  unfold gd; simp; omega
theorem PC.set {R C : Nat} {jr jb all : BitVec 64} {cnt : Nat} {cells : Int → BitVec 64} {now pane size : Int → Int} (h : PC R C jr jb all cnt cells now pane size) {j : Nat} (hj : j < cnt) : ∀ u, u < 49 → (cells j).getLsbD (eb u) = decide (pane (u : Int) = j) := fun u hu => by
  have := h.2.2.2.2.1 j hj u hu
  rw [Bool.eq_iff_iff, decide_eq_true_eq]; exact this
theorem pa_hasPane {N cnt : Nat} (hc : cnt ≤ 49) {z : Int} (hz : xR z) : f_pa_hasPane N z (cnt : Int) = some (if 0 ≤ z ∧ z < cnt then 1 else 0) := by
  unfold f_pa_hasPane
  rw [og_pos hz]
  by_cases h1 : z < 0
  · rw [if_pos h1, if_neg (by omega)]
  · rw [if_neg h1, og_pos (by omega)]
    by_cases h2 : (cnt : Int) ≤ z
    · rw [if_pos h2, if_neg (by omega)]
    · rw [if_neg h2, if_pos (by omega)]
theorem mo_isPane {N R C : Nat} (hN : 4000 ≤ N) {all jr jb : BitVec 64} {count : Int} {cells near : Int → BitVec 64} {now : Int → Int} (h : PO all jr jb count cells near now R C) {z : Int} (hz : xR z) (t b l r p : Int) (queue pane size : Int → Int) :
    ∃ (cnt : Nat) (queue' pane' size' : Int → Int), count = cnt ∧ f_mo_isPane N z t b l r p now queue pane size = some (if 0 ≤ z ∧ z < cnt then 1 else 0, 0, (R : Int) - 1, 0, (C : Int) - 1, (cnt : Int), queue', pane', size') ∧ PC R C jr jb all cnt cells now pane' size' := by
  obtain ⟨cnt, q', p', s', e1, e2, e3⟩ := po_mo hN h t b l r p queue pane size
  have h49 := e3.1
  refine ⟨cnt, q', p', s', e1, ?_, e3⟩
  unfold f_mo_isPane
  rw [e2, bd_some]
  show Option.bind (f_mo_in N z 0 ((cnt : Int) - 1)) (fun q_2 => og (q_2 = 0 ∨ q_2 = 1) <| some (q_2, 0, (R : Int) - 1, 0, (C : Int) - 1, (cnt : Int), q', p', s')) = _
  rw [mo_in hz x_R0 (by omega), bd_some]
  by_cases c : 0 ≤ z ∧ z < cnt
  · rw [if_pos (by omega), if_pos c, og_pos (by omega)]
  · rw [if_neg (by omega), if_neg c, og_pos (by omega)]
