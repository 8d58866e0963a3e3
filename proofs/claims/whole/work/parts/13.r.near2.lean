/-! ===== PURE: the reference's neighbours, counted ===== -/
theorem many_row {N cnt a : Nat} (hc : cnt ≤ 49) (ha : a < cnt) {P : Nat → Nat → Prop} {near : Int → Int} (hK : NK P near) (l1 t b l r : Int) (q pane size : Int → Int) (k165 : Int → (Int → Int) → Option (Int × Int × Int × Int × Int × Int × (Int → Int) × (Int → Int) × (Int → Int) × (Int → Int) × (Int → Int))) :
    ∀ (n j : Nat) (many : Int → Int), j ≤ cnt → 49 < n + j → many a = cntB (fun z => decide (near ((49 * a + z : Nat) : Int) = 1)) j →
      ∃ many', f_mo_findNear_182 N l1 (a : Int) t b l r (cnt : Int) q pane size near k165 n (j : Int) many = k165 ((a : Int) + 1) many' ∧ many' a = cntB (fun z => decide (near ((49 * a + z : Nat) : Int) = 1)) cnt ∧ ∀ i : Int, i ≠ a → many' i = many i := by
  intro n
  induction n with
  | zero => intro j many hj hn; omega
  | succ n ih =>
    intro j many hj hn hm
    rw [f_mo_findNear_182.eq_2, og_pos (by omega), og_pos (by omega)]
    by_cases hend : j = cnt
    · rw [if_pos (by omega), bd_some]
      subst hend
      exact ⟨many, rfl, hm, fun _ _ => rfl⟩
    · have hk := hK a j (by omega) (by omega)
      rw [if_neg (by omega), og_pos (by omega), show 49 * (a : Int) + (j : Int) = ((49 * a + j : Nat) : Int) by omega, og_pos (by omega), og_pos (by omega)]
      have hif : (if near ((49 * a + j : Nat) : Int) = 0 then some (0 : Int) else some 1) = some (near ((49 * a + j : Nat) : Int)) := by
        rcases hk.1 with h0 | h0 <;> rw [h0] <;> rfl
      rw [hif, bd_some, bd_some, bd_some, show (j : Int) + 1 = ((j + 1 : Nat) : Int) by omega]
      obtain ⟨m2, r1, r2, r3⟩ := ih (j + 1) (upi many a (many a + near ((49 * a + j : Nat) : Int))) (by omega) (by omega) (by
        rw [upi_s, cntB_s, hm]
        rcases hk.1 with h0 | h0 <;> rw [h0] <;> simp)
      exact ⟨m2, r1, r2, fun i hi => (r3 i hi).trans (upi_n _ _ hi)⟩
theorem many_loop {N cnt : Nat} (hN : 4000 ≤ N) (hc : cnt ≤ 49) {P : Nat → Nat → Prop} {near : Int → Int} (hK : NK P near) (l1 t b l r : Int) (q pane size : Int → Int) :
    ∀ (n a : Nat) (many : Int → Int), a ≤ cnt → 49 < n + a → (∀ i : Nat, i < a → many i = cntB (fun z => decide (near ((49 * i + z : Nat) : Int) = 1)) cnt) →
      ∃ many', f_mo_findNear_165 N l1 t b l r (cnt : Int) q pane size near n (a : Int) many = some (l1, t, b, l, r, (cnt : Int), q, pane, size, near, many') ∧ ∀ i : Nat, i < cnt → many' i = cntB (fun z => decide (near ((49 * i + z : Nat) : Int) = 1)) cnt := by
  intro n
  induction n with
  | zero => intro a many ha hn; omega
  | succ n ih =>
    intro a many ha hn hm
    rw [f_mo_findNear_165.eq_2, og_pos (by omega), og_pos (by omega)]
    by_cases hend : a = cnt
    · rw [if_pos (by omega)]
      subst hend
      exact ⟨many, rfl, hm⟩
    · rw [if_neg (by omega), og_pos (by omega), bd_some]
      obtain ⟨m2, r1, r2, r3⟩ := many_row hc (by omega : a < cnt) hK l1 t b l r q pane size (f_mo_findNear_165 N l1 t b l r (cnt : Int) q pane size near n) N 0 (upi many a 0) (by omega) (by omega) (by rw [upi_s]; rfl)
      have e0 : ((0 : Nat) : Int) = 0 := rfl
      rw [e0] at r1
      rw [r1, show (a : Int) + 1 = ((a + 1 : Nat) : Int) by omega]
      refine ih (a + 1) m2 (by omega) (by omega) (fun i hi => ?_)
      by_cases hia : i = a
      · subst hia; exact r2
      · rw [r3 i (by omega), upi_n _ _ (by omega)]; exact hm i (by omega)
theorem near_clear {N : Nat} (t b l r p : Int) (q pane size many now : Int → Int) :
    ∀ (n k : Nat) (near : Int → Int), k ≤ 2401 → 2401 < n + k → (∀ i : Nat, i < k → near i = 0) → ∃ near', (∀ i : Nat, i < 2401 → near' i = 0) ∧ f_mo_findNear_6 N t b l r p q pane size many now n (k : Int) near = f_mo_findNear_30 N t b l r p q pane size many now N 0 0 near' := by
  intro n
  induction n with
  | zero => intro k near hk hn; omega
  | succ n ih =>
    intro k near hk hn h0
    rw [f_mo_findNear_6.eq_2, og_pos (by omega)]
    by_cases hend : k = 2401
    · rw [if_pos (by omega)]
      subst hend
      exact ⟨near, h0, rfl⟩
    · rw [if_neg (by omega), og_pos (by omega), bd_some, bd_some, show (k : Int) + 1 = ((k + 1 : Nat) : Int) by omega]
      refine ih (k + 1) _ (by omega) (by omega) (fun i hi => ?_)
      by_cases hik : i = k
      · subst hik; exact upi_s _ _ _
      · rw [upi_n _ _ (by omega)]; exact h0 i (by omega)
/-- the neighbours of the reference are the component's -/
theorem mt_Nr {R C : Nat} {jr jb all : BitVec 64} {cnt : Nat} {cells : Int → BitVec 64} {now pane size : Int → Int} (h : PC R C jr jb all cnt cells now pane size) {a b : Nat} (ha : a < cnt) (hb : b < cnt) : mt R C pane 98 a b ↔ Nr cells cnt a b := by
  have hb7 := h.2.1.2.2.1
  have hcell : ∀ {j : Nat}, j < cnt → ∀ {x : Nat}, (cells j).getLsbD x = true → ∃ u, u < 49 ∧ eb u = x ∧ pane u = j ∧ u / 7 < R ∧ u % 7 < C := fun {j} hj {x} hx => by
    obtain ⟨u, hu, rfl⟩ := eb_of (h.grid hj x hx)
    have := (h.2.2.1 _).mp (h.sub hj _ hx)
    have e := eb_rc u
    exact ⟨u, hu, rfl, (h.2.2.2.2.1 j hj u hu).mp hx, by omega, by omega⟩
  constructor
  · rintro ⟨hne, i, hi, hv, hh⟩
    obtain ⟨v1, v2, v3⟩ := vld_in (by omega) hv
    have hst : stb i = 1 ∨ stb i = 8 := by unfold stb; by_cases c : i < 49 <;> simp [c]
    refine ⟨hb, fun e => hne e.symm, ?_⟩
    rcases hh with ⟨h1, h2⟩ | ⟨h1, h2⟩
    · refine ⟨eb (i % 49), eb (i % 49 + stp i), (h.2.2.2.2.1 a ha _ v1.1).mpr h1, (h.2.2.2.2.1 b hb _ v2.1).mpr h2, ?_⟩
      unfold side; omega
    · refine ⟨eb (i % 49 + stp i), eb (i % 49), (h.2.2.2.2.1 a ha _ v2.1).mpr h2, (h.2.2.2.2.1 b hb _ v1.1).mpr h1, ?_⟩
      unfold side; omega
  · rintro ⟨-, hne, x, y, hx, hy, hs⟩
    obtain ⟨u, hu, rfl, hpu, huR, huC⟩ := hcell ha hx
    obtain ⟨v, hv, rfl, hpv, hvR, hvC⟩ := hcell hb hy
    refine ⟨fun e => hne e.symm, ?_⟩
    have e1 := eb_rc u
    have e2 := eb_rc v
    rcases hs with hs | hs | hs | hs
    · have h1 : v = u + 1 := by omega
      refine ⟨u, by omega, ?_, Or.inl ?_⟩
      · unfold vld; rw [decide_eq_true_eq, if_pos hu]; omega
      · unfold stp; rw [if_pos hu, show u % 49 = u by omega, ← h1]; exact ⟨hpu, hpv⟩
    · have h1 : u = v + 1 := by omega
      refine ⟨v, by omega, ?_, Or.inr ?_⟩
      · unfold vld; rw [decide_eq_true_eq, if_pos hv]; omega
      · unfold stp; rw [if_pos hv, show v % 49 = v by omega, ← h1]; exact ⟨hpv, hpu⟩
    · have h1 : v = u + 7 := by omega
      refine ⟨49 + u, by omega, ?_, Or.inl ?_⟩
      · unfold vld; rw [decide_eq_true_eq, if_neg (by omega), show (49 + u) % 49 = u by omega]; omega
      · unfold stp; rw [if_neg (by omega), show (49 + u) % 49 = u by omega, ← h1]; exact ⟨hpu, hpv⟩
    · have h1 : u = v + 7 := by omega
      refine ⟨49 + v, by omega, ?_, Or.inr ?_⟩
      · unfold vld; rw [decide_eq_true_eq, if_neg (by omega), show (49 + v) % 49 = v by omega]; omega
      · unfold stp; rw [if_neg (by omega), show (49 + v) % 49 = v by omega, ← h1]; exact ⟨hpv, hpu⟩
/-- neighbours on both sides -/
def NM (cnt : Nat) (near : Int → BitVec 64) (nearm many : Int → Int) : Prop :=
  (∀ a b : Nat, a < 49 → b < 49 → nearm ((49 * a + b : Nat) : Int) = 0 ∨ nearm ((49 * a + b : Nat) : Int) = 1) ∧
  (∀ a b : Nat, a < cnt → b < cnt → (near a).getLsbD b = decide (nearm ((49 * a + b : Nat) : Int) = 1)) ∧
  (∀ a b : Nat, a < cnt → (near a).getLsbD b = true → b < cnt ∧ b ≠ a ∧ (near b).getLsbD a = true) ∧
  (∀ a : Nat, a < cnt → many a = popc (near a))
theorem mo_findNear {N R C : Nat} (hN : 4000 ≤ N) {all jr jb : BitVec 64} {count : Int} {cells near : Int → BitVec 64} {now : Int → Int} (h : PO all jr jb count cells near now R C) (t b l r p : Int) (queue pane size nearm many : Int → Int) :
    ∃ (cnt : Nat) (queue' pane' size' nearm' many' : Int → Int), count = cnt ∧ f_mo_findNear N t b l r p now queue pane size nearm many = some (cntB (ld R C pane') 98, 0, (R : Int) - 1, 0, (C : Int) - 1, (cnt : Int), queue', pane', size', nearm', many') ∧ PC R C jr jb all cnt cells now pane' size' ∧ NM cnt near nearm' many' := by
  obtain ⟨cnt, q', p', s', e1, e2, e3⟩ := po_mo hN h t b l r p queue pane size
  obtain ⟨n1, z1, z2⟩ := near_clear (N := N) 0 ((R : Int) - 1) 0 ((C : Int) - 1) (cnt : Int) q' p' s' many now N 0 nearm (by omega) (by omega) (fun i hi => by omega)
  obtain ⟨n2, y1, y2⟩ := near_pairs (N := N) e3 0 ((R : Int) - 1) 0 ((C : Int) - 1) (cnt : Int) q' many N 0 n1 (by omega) (by omega) (fun a b ha hb => by
    rw [z1 (49 * a + b) (by omega)]
    exact ⟨Or.inl rfl, ⟨fun hh => by omega, fun ⟨_, i, hi, _⟩ => by omega⟩⟩)
  obtain ⟨m2, x1, x2⟩ := many_loop hN e3.1.2 y1 (cntB (ld R C p') 98) 0 ((R : Int) - 1) 0 ((C : Int) - 1) q' p' s' N 0 many (by omega) (by omega) (fun i hi => by omega)
  have e0 : ((0 : Nat) : Int) = 0 := rfl
  rw [e0] at z2 y2 x1
  refine ⟨cnt, q', p', s', n2, m2, e1, ?_, e3, ?_⟩
  · unfold f_mo_findNear
    rw [e2, bd_some]
    show f_mo_findNear_6 N 0 ((R : Int) - 1) 0 ((C : Int) - 1) (cnt : Int) q' p' s' many now N 0 nearm = _
    rw [z2]
    have : cntB (ld R C p') 0 = 0 := rfl
    rw [this] at y2
    rw [y2, x1]
  · obtain ⟨cnt2, c1, c2, c3, -, -, -, c7⟩ := h
    have hcc : cnt2 = cnt := by omega
    subst hcc
    have hbit : ∀ a b : Nat, a < cnt2 → b < cnt2 → (near a).getLsbD b = decide (n2 ((49 * a + b : Nat) : Int) = 1) := fun a b ha hb => by
      rw [Bool.eq_iff_iff, decide_eq_true_eq, c7 a ha b, (y1 a b (by omega) (by omega)).2, mt_Nr e3 ha hb]
    refine ⟨fun a b ha hb => (y1 a b ha hb).1, hbit, fun a b ha hab => ?_, fun a ha => ?_⟩
    · have hq := (c7 a ha b).mp hab
      obtain ⟨h1, h2, x, y, h3, h4, h5⟩ := hq
      refine ⟨h1, h2, (c7 b h1 a).mpr ⟨ha, fun e => h2 e.symm, y, x, h4, h3, ?_⟩⟩
      unfold side at h5 ⊢; omega
    · rw [x2 a ha]
      unfold popc
      rw [cntB_tail (m := cnt2) 64 (by omega) (fun i h1 h2 => by
        cases hx : (near a).getLsbD i with
        | false => rfl
        | true => have := ((c7 a ha i).mp hx).1; omega)]
      exact cntB_congr (fun i hi => (hbit a i ha hi).symm)
theorem qu_leadLength {N R C : Nat} (hN : 4000 ≤ N) {all jr jb : BitVec 64} {count : Int} {cells near : Int → BitVec 64} {now : Int → Int} (h : PO all jr jb count cells near now R C) (t b l r p : Int) (queue pane size nearm many : Int → Int) :
    ∃ (Rg : Int) (Rm : Int × Int × Int × Int × Int × Int × (Int → Int) × (Int → Int) × (Int → Int) × (Int → Int) × (Int → Int)), f_gp_leadLength N all count cells = some Rg ∧ f_mo_leadLength N t b l r p now queue pane size nearm many = some Rm ∧ Rg = Rm.1 := by
  obtain ⟨cnt, q', p', s', n', m', e1, e2, e3, e4⟩ := mo_findNear hN h t b l r p queue pane size nearm many
  unfold f_gp_leadLength f_mo_leadLength
  rw [e1, pa_measureLead hN e3, bd_some, e2, bd_some]
  exact ⟨_, _, rfl, rfl, rfl⟩
theorem qu_neighbourCount {N R C : Nat} (hN : 4000 ≤ N) {all jr jb : BitVec 64} {count : Int} {cells near : Int → BitVec 64} {now : Int → Int} (h : PO all jr jb count cells near now R C) {z1 : Int} (hz1 : xR z1) (t b l r p : Int) (queue pane size nearm many : Int → Int) :
    ∃ (Rg : Int) (Rm : Int × Int × Int × Int × Int × Int × (Int → Int) × (Int → Int) × (Int → Int) × (Int → Int) × (Int → Int)), f_gp_neighbourCount N z1 count near = some Rg ∧ f_mo_neighbourCount N z1 t b l r p now queue pane size nearm many = some Rm ∧ Rg = Rm.1 := by
  obtain ⟨cnt, q', p', s', n', m', e1, e2, e3, e4⟩ := mo_findNear hN h t b l r p queue pane size nearm many
  have h49 := e3.1
  unfold f_gp_neighbourCount f_mo_neighbourCount
  rw [e2, bd_some, e1, pa_hasPane h49.2 hz1, bd_some]
  show ∃ Rg Rm, _ ∧ Option.bind (f_mo_in N z1 0 ((cnt : Int) - 1)) (fun q_2 => og (xR q_2) <| if q_2 = 0 then some (-1, 0, (R : Int) - 1, 0, (C : Int) - 1, (cnt : Int), q', p', s', n', m') else og (0 ≤ z1 ∧ z1 < 49) <| some (m' z1, 0, (R : Int) - 1, 0, (C : Int) - 1, (cnt : Int), q', p', s', n', m')) = some Rm ∧ Rg = Rm.1
  rw [mo_in hz1 x_R0 (by omega), bd_some]
  by_cases c : 0 ≤ z1 ∧ z1 < cnt
  · rw [if_pos c, if_pos (show 0 ≤ z1 ∧ z1 ≤ (cnt : Int) - 1 by omega), og_pos (show xR (1 : Int) by decide), if_neg (show ¬ (1 : Int) = 0 by decide), og_pos (show 0 ≤ z1 ∧ z1 < 49 by omega), og_pos (show xR (1 : Int) by decide), if_neg (show ¬ (1 : Int) = 0 by decide), og_pos (show 0 ≤ z1 ∧ z1 < 49 by omega)]
    refine ⟨_, _, rfl, rfl, ?_⟩
    obtain ⟨j, rfl⟩ : ∃ j : Nat, z1 = j := ⟨z1.toNat, by omega⟩
    exact (e4.2.2.2 j (by omega)).symm
  · rw [if_neg c, if_neg (show ¬ (0 ≤ z1 ∧ z1 ≤ (cnt : Int) - 1) by omega), og_pos (show xR (0 : Int) by decide), if_pos (show (0 : Int) = 0 from rfl), og_pos (show xR (0 : Int) by decide), if_pos (show (0 : Int) = 0 from rfl)]
    exact ⟨_, _, rfl, rfl, rfl⟩
