/-! ===== PURE: cliques of both sides ===== -/
theorem chn_E {cnt : Nat} (hc : 1 ≤ cnt ∧ cnt ≤ 49) {near : Int → BitVec 64} {nearm many : Int → Int} (h : NM cnt near nearm many) :
    Chn near cnt 1 (fun y => y < cnt) ∧ (Chn near cnt 2 (fun y => y < cnt) ↔ E21 nearm cnt 0) ∧ (Chn near cnt 3 (fun y => y < cnt) ↔ E31 nearm cnt 0) ∧ (Chn near cnt 4 (fun y => y < cnt) ↔ E41 nearm cnt 0) := by
  -- a greater pane's bit of a lesser one
  have hb : ∀ a b : Nat, a < cnt → b < cnt → ((near b).getLsbD a = true ↔ Anr nearm a b) := fun a b ha hb => by
    have h1 := h.2.1 a b ha hb
    have h2 := h.2.1 b a hb ha
    unfold Anr
    constructor
    · intro hh
      have := (h.2.2.1 b a hb hh).2.2
      rw [this] at h1
      exact of_decide_eq_true h1.symm
    · intro hh
      rw [decide_eq_true hh] at h1
      exact (h.2.2.1 a b ha h1).2.2
  refine ⟨⟨0, by omega, by omega, trivial⟩, ?_, ?_, ?_⟩
  · constructor
    · rintro ⟨x, hx, -, y, hy, ⟨-, n1, l1⟩, -⟩
      exact ⟨y, by omega, hy, x, by omega, hx, (hb y x hy hx).mp n1⟩
    · rintro ⟨i, -, hi, j, h1, hj, a1⟩
      exact ⟨j, hj, hj, i, hi, ⟨hi, (hb i j hi hj).mpr a1, by omega⟩, trivial⟩
  · constructor
    · rintro ⟨x, hx, -, y, hy, ⟨-, n1, l1⟩, z, hz, ⟨⟨-, n2, l2⟩, n3, l3⟩, -⟩
      exact ⟨z, by omega, hz, y, by omega, hy, (hb z y hz hy).mp n3, x, by omega, hx, (hb z x hz hx).mp n2, (hb y x hy hx).mp n1⟩
    · rintro ⟨i, -, hi, j, h1, hj, a1, k, h2, hk, a2, a3⟩
      exact ⟨k, hk, hk, j, hj, ⟨hj, (hb j k hj hk).mpr a3, by omega⟩, i, hi, ⟨⟨hi, (hb i k hi hk).mpr a2, by omega⟩, (hb i j hi hj).mpr a1, by omega⟩, trivial⟩
  · constructor
    · rintro ⟨x, hx, -, y, hy, ⟨-, n1, l1⟩, z, hz, ⟨⟨-, n2, l2⟩, n3, l3⟩, w, hw, ⟨⟨⟨-, n4, l4⟩, n5, l5⟩, n6, l6⟩, -⟩
      exact ⟨w, by omega, hw, z, by omega, hz, (hb w z hw hz).mp n6, y, by omega, hy, ⟨(hb w y hw hy).mp n5, (hb z y hz hy).mp n3⟩, x, by omega, hx, (hb w x hw hx).mp n4, (hb z x hz hx).mp n2, (hb y x hy hx).mp n1⟩
    · rintro ⟨i, -, hi, j, h1, hj, a1, k, h2, hk, ⟨a2, a3⟩, l, h3, hl, a4, a5, a6⟩
      exact ⟨l, hl, hl, k, hk, ⟨hk, (hb k l hk hl).mpr a6, by omega⟩, j, hj, ⟨⟨hj, (hb j l hj hl).mpr a5, by omega⟩, (hb j k hj hk).mpr a3, by omega⟩, i, hi, ⟨⟨⟨hi, (hb i l hi hl).mpr a4, by omega⟩, (hb i k hi hk).mpr a2, by omega⟩, (hb i j hi hj).mpr a1, by omega⟩, trivial⟩
theorem qu_largestClique {N R C : Nat} (hN : 4000 ≤ N) {all jr jb : BitVec 64} {count : Int} {cells near : Int → BitVec 64} {now : Int → Int} (h : PO all jr jb count cells near now R C) (t b l r p : Int) (queue pane size nearm many : Int → Int) :
    ∃ (Rg : Int) (Rm : Int × Int × Int × Int × Int × Int × (Int → Int) × (Int → Int) × (Int → Int) × (Int → Int) × (Int → Int)), f_gp_largestClique N count near = some Rg ∧ f_mo_largestClique N t b l r p now queue pane size nearm many = some Rm ∧ Rg = Rm.1 := by
  obtain ⟨cnt, q', p', s', n', m', e1, e2, e3, e4⟩ := mo_findNear hN h t b l r p queue pane size nearm many
  have h49 := e3.1
  obtain ⟨v, v1, v2, v3, v4⟩ := pa_measureClique (near := near) hN h49.2
  obtain ⟨w, w1, w2, w3, w4, w5⟩ := cl_9 hN h49.2 e4.1 0 ((R : Int) - 1) 0 ((C : Int) - 1) q' p' s' m' N 0 1 False False False (by omega) (by omega) ⟨by omega, ⟨fun h => by omega, fun h => h.elim⟩, ⟨fun h => by omega, fun h => h.elim⟩, ⟨fun h => by omega, fun h => h.elim⟩⟩
  obtain ⟨c1, c2, c3, c4⟩ := chn_E h49 e4
  unfold f_gp_largestClique f_mo_largestClique
  rw [e1, v1, bd_some, e2, bd_some]
  refine ⟨_, _, rfl, w1, ?_⟩
  show v = w
  have k1 := (v4 1 (by omega)).mpr c1
  have k2 := (v4 2 (by omega)).trans c2
  have k3 := (v4 3 (by omega)).trans c3
  have k4 := (v4 4 (by omega)).trans c4
  have x2 : 2 ≤ v ↔ 2 ≤ w := by
    rw [w3]; exact k2.trans ⟨Or.inr, fun h => h.elim False.elim id⟩
  have x3 : 3 ≤ v ↔ 3 ≤ w := by
    rw [w4]; exact k3.trans ⟨Or.inr, fun h => h.elim False.elim id⟩
  have x4 : 4 ≤ v ↔ 4 ≤ w := by
    rw [w5]; exact k4.trans ⟨Or.inr, fun h => h.elim False.elim id⟩
  omega
