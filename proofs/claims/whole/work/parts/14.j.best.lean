/-! ===== PURE: bestOrder ===== -/
theorem best_loop {N cnt : Nat} (hN : 4000 ≤ N) (hc : 1 ≤ cnt ∧ cnt ≤ 49) {near : Int → BitVec 64} {nearm many : Int → Int} (hn : NM cnt near nearm many) (t b l r : Int) (q pane size : Int → Int) :
    ∀ (n k : Nat) (best few : Int) (seq given seqM goneM numM : Int → Int), k ≤ 3 → 3 < n + k → (1 ≤ few ∧ few ≤ 64) → ∃ (Rg : Int × (Int → Int) × (Int → Int)) (Rm : Int × Int × Int × Int × Int × Int × (Int → Int) × (Int → Int) × (Int → Int) × (Int → Int) × (Int → Int) × (Int → Int) × (Int → Int) × (Int → Int)), f_gp_bestOrder_13 N (cnt : Int) near n best few (k : Int) seq given = some Rg ∧ f_mo_bestOrder_16 N t b l r (cnt : Int) q pane size nearm many n best few (k : Int) seqM goneM numM = some Rm ∧ Rg.1 = Rm.1 := by
  intro n
  induction n with
  | zero => intro k best few seq given seqM goneM numM hk hn2; omega
  | succ n ih =>
    intro k best few seq given seqM goneM numM hk hn2 hf
    by_cases hend : k = 3
    · refine ⟨(best, seq, given), (best, t, b, l, r, (cnt : Int), q, pane, size, nearm, many, seqM, goneM, numM), ?_, ?_, rfl⟩
      · rw [f_gp_bestOrder_13.eq_2, og_pos (by omega), if_pos (by omega)]
      · rw [f_mo_bestOrder_16.eq_2, og_pos (by omega), if_pos (by omega)]
    · obtain ⟨rr, sg, g', sm, gm, nm, a1, a2, a3, a4⟩ := co_all (o := k) hN (by omega) hc hn seq given seqM goneM numM
      have e1 : (k : Int) + 1 = ((k + 1 : Nat) : Int) := by omega
      rw [f_gp_bestOrder_13.eq_2, og_pos (by omega), if_neg (by omega), a1, bd_some, f_mo_bestOrder_16.eq_2, og_pos (show xR (k : Int) by omega), if_neg (show ¬ (3 : Int) ≤ (k : Int) by omega), a2, bd_some]
      have hx : xR rr := by omega
      have hx2 : xR few := by omega
      show ∃ Rg Rm, (og (xR rr) <| og (xR few) <| Option.bind (if few ≤ rr then Option.bind (some ((k : Int) + 1)) fun l3_6 => some (best, few, l3_6) else Option.bind (some ((k : Int) + 1)) fun l3_7 => some ((k : Int), rr, l3_7)) fun r_8 => f_gp_bestOrder_13 N (cnt : Int) near n r_8.1 r_8.2.1 r_8.2.2 sg g') = some Rg ∧ (og (xR rr) <| og (xR few) <| Option.bind (if few ≤ rr then Option.bind (some ((k : Int) + 1)) fun l4_7 => some (best, few, l4_7) else Option.bind (some ((k : Int) + 1)) fun l4_8 => some ((k : Int), rr, l4_8)) fun r_9 => f_mo_bestOrder_16 N t b l r (cnt : Int) q pane size nearm many n r_9.1 r_9.2.1 r_9.2.2 sm gm nm) = some Rm ∧ Rg.1 = Rm.1
      rw [og_pos hx, og_pos hx2, og_pos hx, og_pos hx2, e1]
      by_cases c : few ≤ rr
      · rw [if_pos c]
        exact ih (k + 1) best few sg g' sm gm nm (by omega) (by omega) hf
      · rw [if_neg c]
        exact ih (k + 1) (k : Int) rr sg g' sm gm nm (by omega) (by omega) a3
