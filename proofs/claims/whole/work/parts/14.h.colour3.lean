/-! ===== PURE: the questions about colouring ===== -/
theorem co_hasOrder {N : Nat} {z : Int} (hz : xR z) : f_co_hasOrder N z = some (if 0 ≤ z ∧ z ≤ 2 then 1 else 0) := by
  unfold f_co_hasOrder
  rw [og_pos hz]
  by_cases h1 : z < 0
  · rw [if_pos h1, if_neg (by omega)]
  · rw [if_neg h1]
    by_cases h2 : 3 ≤ z
    · rw [if_pos h2, if_neg (by omega)]
    · rw [if_neg h2, if_pos (by omega)]
theorem qu_colourCount {N R C : Nat} (hN : 4000 ≤ N) {all jr jb : BitVec 64} {count : Int} {cells near : Int → BitVec 64} {now : Int → Int} (h : PO all jr jb count cells near now R C) {z1 : Int} (hz1 : xR z1) (seq given : Int → Int) (t b l r p : Int) (queue pane size nearm many seqM goneM numM : Int → Int) :
    ∃ (Rg : Int × (Int → Int) × (Int → Int)) (Rm : Int × Int × Int × Int × Int × Int × (Int → Int) × (Int → Int) × (Int → Int) × (Int → Int) × (Int → Int) × (Int → Int) × (Int → Int) × (Int → Int)), f_gp_colourCount N z1 count near seq given = some Rg ∧ f_mo_colourCount N z1 t b l r p now queue pane size nearm many seqM goneM numM = some Rm ∧ Rg.1 = Rm.1 := by
  unfold f_gp_colourCount f_mo_colourCount
  rw [co_hasOrder hz1, bd_some, mo_in hz1 x_R0 (by decide), bd_some]
  by_cases c : 0 ≤ z1 ∧ z1 ≤ 2
  · obtain ⟨cnt, q', p', s', n', m', e1, e2, e3, e4⟩ := mo_findNear hN h t b l r p queue pane size nearm many
    obtain ⟨o, rfl⟩ : ∃ o : Nat, z1 = o := ⟨z1.toNat, by omega⟩
    obtain ⟨rr, sg, g', sm, gm, nm, a1, a2, a3, a4⟩ := co_all (o := o) hN (by omega) e3.1 e4 seq given seqM goneM numM
    rw [if_pos c, og_pos (show xR (1 : Int) by decide), if_neg (show ¬ (1 : Int) = 0 by decide), og_pos (show xR (1 : Int) by decide), if_neg (show ¬ (1 : Int) = 0 by decide), e1, a1, bd_some, e2, bd_some]
    show ∃ Rg Rm, _ ∧ Option.bind (f_mo_colourAll N (o : Int) (cnt : Int) n' m' seqM goneM numM) _ = some Rm ∧ _
    rw [a2, bd_some]
    exact ⟨_, _, rfl, rfl, rfl⟩
  · rw [if_neg c, og_pos (show xR (0 : Int) by decide), if_pos (show (0 : Int) = 0 from rfl), og_pos (show xR (0 : Int) by decide), if_pos (show (0 : Int) = 0 from rfl)]
    exact ⟨_, _, rfl, rfl, rfl⟩
