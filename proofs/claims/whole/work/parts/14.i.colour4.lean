/-! ===== PURE: suggestedColour ===== -/
theorem qu_suggestedColour {N R C : Nat} (hN : 4000 ≤ N) {all jr jb : BitVec 64} {count : Int} {cells near : Int → BitVec 64} {now : Int → Int} (h : PO all jr jb count cells near now R C) {z1 z2 : Int} (hz1 : xR z1) (hz2 : xR z2) (seq given : Int → Int) (t b l r p : Int) (queue pane size nearm many seqM goneM numM : Int → Int) :
    ∃ (Rg : Int × (Int → Int) × (Int → Int)) (Rm : Int × Int × Int × Int × Int × Int × (Int → Int) × (Int → Int) × (Int → Int) × (Int → Int) × (Int → Int) × (Int → Int) × (Int → Int) × (Int → Int)), f_gp_suggestedColour N z1 z2 count near seq given = some Rg ∧ f_mo_suggestedColour N z1 z2 t b l r p now queue pane size nearm many seqM goneM numM = some Rm ∧ Rg.1 = Rm.1 := by
  unfold f_gp_suggestedColour f_mo_suggestedColour
  rw [co_hasOrder hz1, bd_some, mo_in hz1 x_R0 (by decide), bd_some]
  by_cases c : 0 ≤ z1 ∧ z1 ≤ 2
  · obtain ⟨cnt, q', p', s', e1, e2, e3⟩ := mo_isPane hN h hz2 t b l r p queue pane size
    have h49 := e3.1
    rw [if_pos c, og_pos (show xR (1 : Int) by decide), if_neg (show ¬ (1 : Int) = 0 by decide), og_pos (show xR (1 : Int) by decide), if_neg (show ¬ (1 : Int) = 0 by decide), e1, pa_hasPane h49.2 hz2, bd_some, e2, bd_some]
    by_cases c2 : 0 ≤ z2 ∧ z2 < cnt
    · obtain ⟨cnt2, q2, p2, s2, n2, m2, f1, f2, f3, f4⟩ := mo_findNear hN h 0 ((R : Int) - 1) 0 ((C : Int) - 1) (cnt : Int) q' p' s' nearm many
      have hcc : cnt2 = cnt := by omega
      subst hcc
      obtain ⟨o, rfl⟩ : ∃ o : Nat, z1 = o := ⟨z1.toNat, by omega⟩
      obtain ⟨j, rfl⟩ : ∃ j : Nat, z2 = j := ⟨z2.toNat, by omega⟩
      obtain ⟨rr, sg, g', sm, gm, nm, a1, a2, a3, a4⟩ := co_all (o := o) hN (by omega) f3.1 f4 seq given seqM goneM numM
      rw [if_pos c2, og_pos (show xR (1 : Int) by decide), if_neg (show ¬ (1 : Int) = 0 by decide), a1, bd_some, og_pos (show 0 ≤ (j : Int) ∧ (j : Int) < 49 by omega), og_pos (show xR (1 : Int) by decide), if_neg (show ¬ (1 : Int) = 0 by decide)]
      show ∃ Rg Rm, _ ∧ Option.bind (f_mo_findNear N 0 ((R : Int) - 1) 0 ((C : Int) - 1) (cnt2 : Int) now q' p' s' nearm many) _ = some Rm ∧ _
      rw [f2, bd_some]
      show ∃ Rg Rm, _ ∧ Option.bind (f_mo_colourAll N (o : Int) (cnt2 : Int) n2 m2 seqM goneM numM) _ = some Rm ∧ _
      rw [a2, bd_some, og_pos (show 0 ≤ (j : Int) ∧ (j : Int) < 49 by omega)]
      exact ⟨_, _, rfl, rfl, a4 j (by omega)⟩
    · rw [if_neg c2, og_pos (show xR (0 : Int) by decide), if_pos (show (0 : Int) = 0 from rfl), og_pos (show xR (0 : Int) by decide), if_pos (show (0 : Int) = 0 from rfl)]
      exact ⟨_, _, rfl, rfl, rfl⟩
  · rw [if_neg c, og_pos (show xR (0 : Int) by decide), if_pos (show (0 : Int) = 0 from rfl), og_pos (show xR (0 : Int) by decide), if_pos (show (0 : Int) = 0 from rfl)]
    exact ⟨_, _, rfl, rfl, rfl⟩
