/-! ===== PURE: bestOrder, joined ===== -/
theorem qu_bestOrder {N R C : Nat} (hN : 4000 ≤ N) {all jr jb : BitVec 64} {count : Int} {cells near : Int → BitVec 64} {now : Int → Int} (h : PO all jr jb count cells near now R C) (seq given : Int → Int) (t b l r p : Int) (queue pane size nearm many seqM goneM numM : Int → Int) :
    ∃ (Rg : Int × (Int → Int) × (Int → Int)) (Rm : Int × Int × Int × Int × Int × Int × (Int → Int) × (Int → Int) × (Int → Int) × (Int → Int) × (Int → Int) × (Int → Int) × (Int → Int) × (Int → Int)), f_gp_bestOrder N count near seq given = some Rg ∧ f_mo_bestOrder N t b l r p now queue pane size nearm many seqM goneM numM = some Rm ∧ Rg.1 = Rm.1 := by
  obtain ⟨cnt, q', p', s', n', m', e1, e2, e3, e4⟩ := mo_findNear hN h t b l r p queue pane size nearm many
  obtain ⟨rr, sg, g', sm, gm, nm, a1, a2, a3, a4⟩ := co_all (o := 0) hN (by omega) e3.1 e4 seq given seqM goneM numM
  have e0 : ((0 : Nat) : Int) = 0 := rfl
  rw [e0] at a1 a2
  unfold f_gp_bestOrder f_mo_bestOrder
  rw [e1, a1, bd_some, e2, bd_some]
  show ∃ Rg Rm, _ ∧ Option.bind (f_mo_colourAll N 0 (cnt : Int) n' m' seqM goneM numM) _ = some Rm ∧ _
  rw [a2, bd_some]
  exact best_loop hN e3.1 e4 0 ((R : Int) - 1) 0 ((C : Int) - 1) q' p' s' N 1 0 rr sg g' sm gm nm (by omega) (by omega) a3
