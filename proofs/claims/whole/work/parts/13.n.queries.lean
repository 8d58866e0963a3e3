/-! ===== PURE: the questions about panes ===== -/
theorem qu_paneCount {N R C : Nat} (hN : 4000 ≤ N) {all jr jb : BitVec 64} {count : Int} {cells near : Int → BitVec 64} {now : Int → Int} (h : PO all jr jb count cells near now R C) (t b l r p : Int) (queue pane size : Int → Int) :
    ∃ (Rg : Int) (Rm : Int × Int × Int × Int × Int × Int × (Int → Int) × (Int → Int) × (Int → Int)), f_gp_paneCount N count = some Rg ∧ f_mo_paneCount N t b l r p now queue pane size = some Rm ∧ Rg = Rm.1 := by
  obtain ⟨cnt, q', p', s', e1, e2, e3⟩ := po_mo hN h t b l r p queue pane size
  unfold f_gp_paneCount f_mo_paneCount
  rw [e2, bd_some]
  exact ⟨_, _, rfl, rfl, e1⟩
theorem numberOf_loop {N cnt : Nat} (hc : cnt ≤ 49) {cells : Int → BitVec 64} {k p0 : Nat} (hk : k < 64) (hp0 : p0 < cnt) (hp : ∀ j : Nat, j < cnt → ((cells j).getLsbD k = true ↔ j = p0)) :
    ∀ (n i : Nat), i ≤ cnt → 49 < n + i → f_pa_numberOf_5 N (1#64 <<< k) (cnt : Int) cells n (if p0 < i then (p0 : Int) else 0) (i : Int) = some (p0 : Int) := by
  intro n
  induction n with
  | zero => intro i hi hn; omega
  | succ n ih =>
    intro i hi hn
    rw [f_pa_numberOf_5.eq_2, og_pos (by omega), og_pos (by omega)]
    by_cases hend : i = cnt
    · rw [if_pos (by omega), if_pos (by omega)]
    · rw [if_neg (by omega), og_pos (by omega)]
      have hi2 := ih (i + 1) (by omega) (by omega)
      have e1 : ((i + 1 : Nat) : Int) = (i : Int) + 1 := by omega
      rw [e1] at hi2
      by_cases hb : (cells i).getLsbD k = true
      · have hip := (hp i (by omega)).mp hb
        rw [if_neg (fun h2 => by rw [gl_and_one hk] at h2; rw [h2] at hb; cases hb), bd_some, bd_some]
        show f_pa_numberOf_5 N (1#64 <<< k) (cnt : Int) cells n (i : Int) ((i : Int) + 1) = _
        rw [if_pos (by omega)] at hi2
        rw [hip] at hi2 ⊢
        exact hi2
      · have hip : i ≠ p0 := fun e => hb ((hp i (by omega)).mpr e)
        rw [if_pos (by rw [gl_and_one hk]; simpa using hb), bd_some, bd_some]
        show f_pa_numberOf_5 N (1#64 <<< k) (cnt : Int) cells n (if p0 < i then (p0 : Int) else 0) ((i : Int) + 1) = _
        have : (if p0 < i then (p0 : Int) else 0) = (if p0 < i + 1 then (p0 : Int) else 0) := by
          by_cases c : p0 < i
          · rw [if_pos c, if_pos (by omega)]
          · rw [if_neg c, if_neg (by omega)]
        rw [this]; exact hi2
theorem PC.cell {R C : Nat} {jr jb all : BitVec 64} {cnt : Nat} {cells : Int → BitVec 64} {now pane size : Int → Int} (h : PC R C jr jb all cnt cells now pane size) {u : Nat} (hu : u < 49) (huD : u / 7 < R ∧ u % 7 < C) : ∃ p : Nat, p < cnt ∧ pane u = p ∧ ∀ j : Nat, j < cnt → ((cells j).getLsbD (eb u) = true ↔ j = p) := by
  obtain ⟨h1, h2, h3⟩ := h.2.2.2.2.2.1 u hu
  have h4 := h1.mpr huD
  refine ⟨(pane u).toNat, by omega, by omega, fun j hj => ?_⟩
  rw [h.2.2.2.2.1 j hj u hu]
  omega
theorem pa_numberOf {N R C : Nat} (hN : 4000 ≤ N) {jr jb all : BitVec 64} {cnt : Nat} {cells : Int → BitVec 64} {now pane size : Int → Int} (h : PC R C jr jb all cnt cells now pane size) {u : Nat} (hu : u < 49) (huD : u / 7 < R ∧ u % 7 < C) : f_pa_numberOf N (1#64 <<< (eb u)) (cnt : Int) cells = some (pane u) := by
  obtain ⟨p, hp, hpu, hpc⟩ := h.cell hu huD
  have := eb_rc u
  have h0 := numberOf_loop (N := N) h.1.2 (k := eb u) (by omega) hp hpc N 0 (by omega) (by omega)
  rw [hpu]
  exact h0
theorem qu_paneAt {N R C : Nat} (hN : 4000 ≤ N) {all jr jb : BitVec 64} {count : Int} {cells near : Int → BitVec 64} {now : Int → Int} (h : PO all jr jb count cells near now R C) {z1 z2 : Int} (hz1 : xR z1) (hz2 : xR z2) (t b l r p : Int) (queue pane size : Int → Int) :
    ∃ (Rg : Int) (Rm : Int × Int × Int × Int × Int × Int × (Int → Int) × (Int → Int) × (Int → Int)), f_gp_paneAt N z1 z2 (R : Int) (C : Int) count cells = some Rg ∧ f_mo_paneAt N z1 z2 t b l r p now queue pane size = some Rm ∧ Rg = Rm.1 := by
  obtain ⟨cnt, q', p', s', e1, e2, e3⟩ := po_mo hN h t b l r p queue pane size
  have hb7 := e3.2.1.2.2.1
  unfold f_gp_paneAt f_mo_paneAt
  rw [e2, bd_some, dr_hasCell hz1 hz2 (by omega), bd_some, mo_isCell e3.2.1 hz1 hz2, bd_some]
  by_cases c : 0 ≤ z1 ∧ z1 < R ∧ 0 ≤ z2 ∧ z2 < C
  · rw [if_pos c, og_pos (by decide), if_neg (by decide), og_pos (by decide), if_neg (by decide), og_pos (by omega)]
    obtain ⟨r0, hr0⟩ : ∃ r0 : Nat, z1 = r0 := ⟨z1.toNat, by omega⟩
    obtain ⟨c0, hc0⟩ : ∃ c0 : Nat, z2 = c0 := ⟨z2.toNat, by omega⟩
    subst hr0 hc0
    rw [ce_only (by omega) (by omega), bd_some]
    have h8 : 8 * r0 + c0 = eb (7 * r0 + c0) := by unfold eb; omega
    rw [h8, e1, pa_numberOf hN e3 (by omega) (by omega), bd_some]
    refine ⟨_, _, rfl, rfl, ?_⟩
    show p' ((7 * r0 + c0 : Nat) : Int) = p' (7 * (r0 : Int) + c0)
    congr 1
  · rw [if_neg c, og_pos (by decide), if_pos rfl, og_pos (by decide), if_pos rfl]
    exact ⟨_, _, rfl, rfl, rfl⟩
theorem qu_paneSize {N R C : Nat} (hN : 4000 ≤ N) {all jr jb : BitVec 64} {count : Int} {cells near : Int → BitVec 64} {now : Int → Int} (h : PO all jr jb count cells near now R C) {z1 : Int} (hz1 : xR z1) (t b l r p : Int) (queue pane size : Int → Int) :
    ∃ (Rg : Int) (Rm : Int × Int × Int × Int × Int × Int × (Int → Int) × (Int → Int) × (Int → Int)), f_gp_paneSize N z1 count cells = some Rg ∧ f_mo_paneSize N z1 t b l r p now queue pane size = some Rm ∧ Rg = Rm.1 := by
  obtain ⟨cnt, q', p', s', e1, e2, e3⟩ := mo_isPane hN h hz1 t b l r p queue pane size
  have h49 := e3.1
  unfold f_gp_paneSize f_mo_paneSize
  rw [e2, bd_some, e1, pa_hasPane h49.2 hz1, bd_some]
  by_cases c : 0 ≤ z1 ∧ z1 < cnt
  · rw [if_pos c, og_pos (show xR (1 : Int) by decide), if_neg (show ¬ (1 : Int) = 0 by decide), og_pos (show 0 ≤ z1 ∧ z1 < 49 by omega), og_pos (show xR (1 : Int) by decide), if_neg (show ¬ (1 : Int) = 0 by decide), og_pos (show 0 ≤ z1 ∧ z1 < 49 by omega)]
    refine ⟨_, _, rfl, rfl, ?_⟩
    obtain ⟨j, rfl⟩ : ∃ j : Nat, z1 = j := ⟨z1.toNat, by omega⟩
    show popc (cells j) = s' j
    rw [popc_eb (e3.grid (by omega)), e3.2.2.2.2.2.2 j (by omega)]
    exact cntB_congr (e3.set (by omega))
  · rw [if_neg c, og_pos (show xR (0 : Int) by decide), if_pos (show (0 : Int) = 0 from rfl), og_pos (show xR (0 : Int) by decide), if_pos (show (0 : Int) = 0 from rfl)]
    exact ⟨_, _, rfl, rfl, rfl⟩
theorem qu_innerCorners {N R C : Nat} (hN : 4000 ≤ N) {all jr jb : BitVec 64} {count : Int} {cells near : Int → BitVec 64} {now : Int → Int} (h : PO all jr jb count cells near now R C) {z1 : Int} (hz1 : xR z1) (t b l r p : Int) (queue pane size : Int → Int) :
    ∃ (Rg : Int) (Rm : Int × Int × Int × Int × Int × Int × (Int → Int) × (Int → Int) × (Int → Int)), f_gp_innerCorners N z1 count cells = some Rg ∧ f_mo_innerCorners N z1 t b l r p now queue pane size = some Rm ∧ Rg = Rm.1 := by
  obtain ⟨cnt, q', p', s', e1, e2, e3⟩ := mo_isPane hN h hz1 t b l r p queue pane size
  have h49 := e3.1
  have hb7 := e3.2.1.2.2.1
  unfold f_gp_innerCorners f_mo_innerCorners
  rw [e2, bd_some, e1, pa_hasPane h49.2 hz1, bd_some]
  by_cases c : 0 ≤ z1 ∧ z1 < cnt
  · rw [if_pos c, og_pos (show xR (1 : Int) by decide), if_neg (show ¬ (1 : Int) = 0 by decide), og_pos (show 0 ≤ z1 ∧ z1 < 49 by omega), og_pos (show xR (1 : Int) by decide), if_neg (show ¬ (1 : Int) = 0 by decide)]
    obtain ⟨j, rfl⟩ : ∃ j : Nat, z1 = j := ⟨z1.toNat, by omega⟩
    show ∃ Rg Rm, Option.bind (f_ce_countInnerCorners N (cells j)) (fun q_4 => some q_4) = some Rg ∧ Option.bind (f_mo_corners N j now p') (fun q_3 => some (q_3, 0, (R : Int) - 1, 0, (C : Int) - 1, (cnt : Int), q', p', s')) = some Rm ∧ Rg = Rm.1
    rw [ce_corners (R := R) (C := C) (by omega) (fun i hi => (e3.2.2.1 i).mp (e3.sub (by omega) i hi)), bd_some, mo_corners hN e3.2.1 hz1 e3.marks, bd_some]
    exact ⟨_, _, rfl, rfl, cornN_congr (by omega) (e3.set (by omega))⟩
  · rw [if_neg c, og_pos (show xR (0 : Int) by decide), if_pos (show (0 : Int) = 0 from rfl), og_pos (show xR (0 : Int) by decide), if_pos (show (0 : Int) = 0 from rfl)]
    exact ⟨_, _, rfl, rfl, rfl⟩
theorem qu_holes {N R C : Nat} (hN : 4000 ≤ N) {all jr jb : BitVec 64} {count : Int} {cells near : Int → BitVec 64} {now : Int → Int} (h : PO all jr jb count cells near now R C) {z1 : Int} (hz1 : xR z1) (t b l r p : Int) (queue pane size seen : Int → Int) :
    ∃ (Rg : Int) (Rm : Int × Int × Int × Int × Int × Int × (Int → Int) × (Int → Int) × (Int → Int) × (Int → Int)), f_gp_holes N z1 all count cells = some Rg ∧ f_mo_holes N z1 t b l r p now queue pane size seen = some Rm ∧ Rg = Rm.1 := by
  obtain ⟨cnt, q', p', s', e1, e2, e3⟩ := mo_isPane hN h hz1 t b l r p queue pane size
  have h49 := e3.1
  have hb7 := e3.2.1.2.2.1
  unfold f_gp_holes f_mo_holes
  rw [e2, bd_some, e1, pa_hasPane h49.2 hz1, bd_some]
  by_cases c : 0 ≤ z1 ∧ z1 < cnt
  · rw [if_pos c, og_pos (show xR (1 : Int) by decide), if_neg (show ¬ (1 : Int) = 0 by decide), og_pos (show 0 ≤ z1 ∧ z1 < 49 by omega), og_pos (show xR (1 : Int) by decide), if_neg (show ¬ (1 : Int) = 0 by decide)]
    obtain ⟨j, rfl⟩ : ∃ j : Nat, z1 = j := ⟨z1.toNat, by omega⟩
    obtain ⟨q2, s2, r1⟩ := mo_holesOf (q := q') (s0 := seen) hN e3.2.1 hz1 e3.marks
    show ∃ Rg Rm, Option.bind (f_ce_countHoles N (cells j) all) (fun q_4 => some q_4) = some Rg ∧ Option.bind (f_mo_holesOf N j now q' seen p') (fun q_3 => some (q_3.1, 0, (R : Int) - 1, 0, (C : Int) - 1, (cnt : Int), q_3.2.1, p', s', q_3.2.2)) = some Rm ∧ Rg = Rm.1
    rw [ce_countHoles hN (by omega) e3.2.2.1, bd_some, r1, bd_some]
    exact ⟨_, _, rfl, rfl, holeN_congr (e3.set (by omega))⟩
  · rw [if_neg c, og_pos (show xR (0 : Int) by decide), if_pos (show (0 : Int) = 0 from rfl), og_pos (show xR (0 : Int) by decide), if_pos (show (0 : Int) = 0 from rfl)]
    exact ⟨_, _, rfl, rfl, rfl⟩
/-- both sides' easy panes -/
theorem PC.easy {N R C : Nat} (hN : 4000 ≤ N) {jr jb all : BitVec 64} {cnt : Nat} {cells : Int → BitVec 64} {now pane size : Int → Int} (h : PC R C jr jb all cnt cells now pane size) {j : Nat} (hj : j < cnt) (q seen : Int → Int) :
    f_pa_isEasy N (cells j) (now 2) (now 3) all = some (if ez R C (fun v => decide (pane (v : Int) = j)) (now 2) (now 3) = true then 1 else 0) ∧ ∃ (q1 s1 : Int → Int), f_mo_canCut N j now q pane size seen = some (if ez R C (fun v => decide (pane (v : Int) = j)) (now 2) (now 3) = true then 1 else 0, q1, s1) := by
  have hb7 := h.2.1.2.2.1
  have h49 := h.1
  have h2 := h.2.1.2.2.2.1 2 (by omega) (by omega)
  have h3 := h.2.1.2.2.2.1 3 (by omega) (by omega)
  constructor
  · rw [pa_isEasy hN (by omega) h.2.2.1 (h.sub hj) (by omega) (by omega), ez_congr (by omega) (h.set hj)]
  · obtain ⟨q1, s1, r1⟩ := mo_isEasy (q := q) (s0 := seen) hN h.2.1 (id := (j : Int)) (by omega) h.marks (h.2.2.2.2.2.2 j hj)
    refine ⟨q1, s1, ?_⟩
    unfold f_mo_canCut
    rw [og_pos (by omega), r1, bd_some, og_pos (by
      show (if _ then (1 : Int) else 0) = 0 ∨ _ = _
      split <;> simp)]
theorem qu_canBeCut {N R C : Nat} (hN : 4000 ≤ N) {all jr jb : BitVec 64} {count : Int} {cells near : Int → BitVec 64} {now : Int → Int} (h : PO all jr jb count cells near now R C) {z1 : Int} (hz1 : xR z1) (t b l r p : Int) (queue pane size seen : Int → Int) :
    ∃ (Rg : Int) (Rm : Int × Int × Int × Int × Int × Int × (Int → Int) × (Int → Int) × (Int → Int) × (Int → Int)), f_gp_canBeCut N z1 (now 2) (now 3) all count cells = some Rg ∧ f_mo_canBeCut N z1 t b l r p now queue pane size seen = some Rm ∧ Rg = Rm.1 := by
  obtain ⟨cnt, q', p', s', e1, e2, e3⟩ := mo_isPane hN h hz1 t b l r p queue pane size
  have h49 := e3.1
  have hb7 := e3.2.1.2.2.1
  unfold f_gp_canBeCut f_mo_canBeCut
  rw [e2, bd_some, e1, pa_hasPane h49.2 hz1, bd_some]
  by_cases c : 0 ≤ z1 ∧ z1 < cnt
  · rw [if_pos c, og_pos (show xR (1 : Int) by decide), if_neg (show ¬ (1 : Int) = 0 by decide), og_pos (show 0 ≤ z1 ∧ z1 < 49 by omega), og_pos (show xR (1 : Int) by decide), if_neg (show ¬ (1 : Int) = 0 by decide)]
    obtain ⟨j, rfl⟩ : ∃ j : Nat, z1 = j := ⟨z1.toNat, by omega⟩
    obtain ⟨r0, q2, s2, r1⟩ := e3.easy hN (j := j) (by omega) q' seen
    rw [r0, bd_some]
    show ∃ Rg Rm, _ ∧ Option.bind (f_mo_canCut N j now q' p' s' seen) (fun q_3 => og (xR q_3.1) <| if q_3.1 = 0 then some (0, 0, (R : Int) - 1, 0, (C : Int) - 1, (cnt : Int), q_3.2.1, p', s', q_3.2.2) else some (1, 0, (R : Int) - 1, 0, (C : Int) - 1, (cnt : Int), q_3.2.1, p', s', q_3.2.2)) = some Rm ∧ Rg = Rm.1
    rw [r1, bd_some]
    by_cases cz : ez R C (fun v => decide (p' (v : Int) = j)) (now 2) (now 3) = true
    · rw [if_pos cz, og_pos (show xR (1 : Int) by decide), if_neg (show ¬ (1 : Int) = 0 by decide), og_pos (show xR (1 : Int) by decide), if_neg (show ¬ (1 : Int) = 0 by decide)]
      exact ⟨_, _, rfl, rfl, rfl⟩
    · rw [if_neg cz, og_pos (show xR (0 : Int) by decide), if_pos (show (0 : Int) = 0 from rfl), og_pos (show xR (0 : Int) by decide), if_pos (show (0 : Int) = 0 from rfl)]
      exact ⟨_, _, rfl, rfl, rfl⟩
  · rw [if_neg c, og_pos (show xR (0 : Int) by decide), if_pos (show (0 : Int) = 0 from rfl), og_pos (show xR (0 : Int) by decide), if_pos (show (0 : Int) = 0 from rfl)]
    exact ⟨_, _, rfl, rfl, rfl⟩
theorem cutt_loop {N R C : Nat} (hN : 4000 ≤ N) {jr jb all : BitVec 64} {cnt : Nat} {cells : Int → BitVec 64} {now pane size : Int → Int} (h : PC R C jr jb all cnt cells now pane size) (t b l r : Int) :
    ∀ (n k : Nat) (c : Int) (q seen : Int → Int), k ≤ cnt → 49 < n + k → ∃ (Rg : Int) (Rm : Int × Int × Int × Int × Int × Int × (Int → Int) × (Int → Int) × (Int → Int) × (Int → Int)), f_gp_cuttableCount_4 N (now 2) (now 3) all (cnt : Int) cells n c (k : Int) = some Rg ∧ f_mo_cuttableCount_8 N t b l r (cnt : Int) pane size now n c (k : Int) q seen = some Rm ∧ Rg = Rm.1 := by
  have h49 := h.1
  intro n
  induction n with
  | zero => intro k c q seen hk hn; omega
  | succ n ih =>
    intro k c q seen hk hn
    by_cases hend : k = cnt
    · refine ⟨c, (c, t, b, l, r, (cnt : Int), q, pane, size, seen), ?_, ?_, rfl⟩
      · rw [f_gp_cuttableCount_4.eq_2, og_pos (by omega), og_pos (by omega), if_pos (by omega)]
      · rw [f_mo_cuttableCount_8.eq_2, og_pos (by omega), og_pos (by omega), if_pos (by omega)]
    · obtain ⟨r0, q2, s2, r1⟩ := h.easy hN (j := k) (by omega) q seen
      have e1 : (k : Int) + 1 = ((k + 1 : Nat) : Int) := by omega
      obtain ⟨E, hE, hE2⟩ : ∃ E : Int, (if ez R C (fun v => decide (pane (v : Int) = k)) (now 2) (now 3) = true then (1 : Int) else 0) = E ∧ (E = 0 ∨ E = 1) := ⟨_, rfl, by split <;> simp⟩
      rw [hE] at r0 r1
      have hg : f_gp_cuttableCount_4 N (now 2) (now 3) all (cnt : Int) cells (n + 1) c (k : Int) = f_gp_cuttableCount_4 N (now 2) (now 3) all (cnt : Int) cells n (c + E) ((k + 1 : Nat) : Int) := by
        rw [f_gp_cuttableCount_4.eq_2, og_pos (by omega), og_pos (by omega), if_neg (by omega), og_pos (by omega), r0, bd_some, og_pos (by omega)]
        rcases hE2 with hE2 | hE2
        · rw [if_pos hE2, bd_some, bd_some, e1, hE2, Int.add_zero]
        · rw [if_neg (by omega), bd_some, bd_some, bd_some, e1, hE2]
      have hm : f_mo_cuttableCount_8 N t b l r (cnt : Int) pane size now (n + 1) c (k : Int) q seen = f_mo_cuttableCount_8 N t b l r (cnt : Int) pane size now n (c + E) ((k + 1 : Nat) : Int) q2 s2 := by
        rw [f_mo_cuttableCount_8.eq_2, og_pos (by omega), og_pos (by omega), if_neg (by omega), r1, bd_some]
        show (og (xR E) <| Option.bind (if E = 0 then some 0 else some 1) fun r_14 => Option.bind (some (c + r_14)) fun l1_15 => Option.bind (some ((k : Int) + 1)) fun l2_16 => f_mo_cuttableCount_8 N t b l r (cnt : Int) pane size now n l1_15 l2_16 q2 s2) = _
        rw [og_pos (by omega)]
        rcases hE2 with hE2 | hE2
        · rw [if_pos hE2, bd_some, bd_some, bd_some, e1, hE2]
        · rw [if_neg (by omega), bd_some, bd_some, bd_some, e1, hE2]
      rw [hg, hm]
      exact ih (k + 1) (c + E) q2 s2 (by omega) (by omega)
theorem qu_cuttableCount {N R C : Nat} (hN : 4000 ≤ N) {all jr jb : BitVec 64} {count : Int} {cells near : Int → BitVec 64} {now : Int → Int} (h : PO all jr jb count cells near now R C) (t b l r p : Int) (queue pane size seen : Int → Int) :
    ∃ (Rg : Int) (Rm : Int × Int × Int × Int × Int × Int × (Int → Int) × (Int → Int) × (Int → Int) × (Int → Int)), f_gp_cuttableCount N (now 2) (now 3) all count cells = some Rg ∧ f_mo_cuttableCount N t b l r p now queue pane size seen = some Rm ∧ Rg = Rm.1 := by
  obtain ⟨cnt, q', p', s', e1, e2, e3⟩ := po_mo hN h t b l r p queue pane size
  unfold f_gp_cuttableCount f_mo_cuttableCount
  rw [e2, bd_some, e1]
  exact cutt_loop hN e3 0 ((R : Int) - 1) 0 ((C : Int) - 1) N 0 0 q' seen (by omega) (by omega)
