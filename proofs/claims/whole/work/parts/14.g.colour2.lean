/-! ===== PURE: colouring of both sides, joined ===== -/
theorem lf_all {cnt : Nat} (hc : cnt ≤ 49) {gone : Int → Int} (h : ∀ q : Nat, q < cnt → gone q = 0) : LF cnt ((1#64 <<< cnt) - 1#64) gone := by
  have hb : ∀ y, ((1#64 <<< cnt) - 1#64).getLsbD y = true ↔ y < cnt := fun y => by
    by_cases hy : y < 64
    · have := gl_mask ⟨cnt, by omega⟩ ⟨y, hy⟩
      have h2 : ((1#64 <<< cnt) - 1#64).getLsbD y = decide (y < cnt) := this
      rw [h2]; simp
    · rw [gl_big (by omega)]
      exact ⟨fun h => (by cases h), fun h => (by omega)⟩
  refine ⟨fun y hy => ⟨Or.inl (h y hy), ?_⟩, fun y hy => (hb y).mp hy⟩
  rw [(hb y).mpr hy, decide_eq_true (h y hy)]
theorem co_all {N o cnt : Nat} (hN : 4000 ≤ N) (ho : o < 3) (hc : 1 ≤ cnt ∧ cnt ≤ 49) {near : Int → BitVec 64} {nearm many : Int → Int} (hn : NM cnt near nearm many) (seq given seqM goneM numM : Int → Int) :
    ∃ (r : Int) (sg g' sm gm nm : Int → Int), f_co_paint N (o : Int) (cnt : Int) near seq given = some (r, sg, g') ∧ f_mo_colourAll N (o : Int) (cnt : Int) nearm many seqM goneM numM = some (r, sm, gm, nm) ∧ (1 ≤ r ∧ r ≤ 64) ∧ ∀ q : Nat, q < cnt → g' q = nm q := by
  obtain ⟨go, nu, z1, z2⟩ := all_clear (N := N) hc.2 (o : Int) (seq := seqM) (nearm := nearm) (many := many) N 0 goneM numM (by omega) (by omega) (fun q hq => by omega)
  have e0 : ((0 : Nat) : Int) = 0 := rfl
  rw [e0] at z2
  have hL := lf_all hc.2 (gone := go) (fun q hq => (z1 q hq).1)
  have hfin : ∀ (sg sm gm : Int → Int), (∀ i : Nat, i < cnt → sg i = sm i ∧ ∃ x : Nat, x < cnt ∧ sm i = x) → ∃ (r : Int) (g' nm : Int → Int), f_co_paint_29 N sg (cnt : Int) near N 0 given = some (r, sg, g') ∧ f_mo_colourAll_91 N sm gm (cnt : Int) nearm N 0 0 nu = some (r, sm, gm, nm) ∧ (1 ≤ r ∧ r ≤ 64) ∧ ∀ q : Nat, q < cnt → g' q = nm q := fun sg sm gm hs => by
    obtain ⟨g0, y1, y2⟩ := paint_clear (N := N) hc.2 (near := near) (seq := sg) N 0 given (by omega) (by omega) (fun q hq => by omega)
    rw [e0] at y2
    obtain ⟨r, g', nm, r1, r2, r3, r4⟩ := paint_loop (gone := gm) hN hc hn hs N 0 0 0#64 g0 nu (by omega) (by omega) (fun q hq => ⟨by rw [y1 q hq, (z1 q hq).2], Or.inl (y1 q hq)⟩) (by omega) (fun _ => ⟨rfl, rfl⟩) (fun h => by omega)
    rw [e0] at r1 r2
    exact ⟨r, g', nm, by rw [y2]; exact r1, r2, r3, r4⟩
  unfold f_co_paint f_mo_colourAll
  rw [og_pos (by omega), z2]
  have hq : o = 0 ∨ o = 1 ∨ o = 2 := by omega
  rcases hq with rfl | rfl | rfl
  · obtain ⟨sg, sm, gm, s1, s2, s3⟩ := seq_0 hN hc hn nu N 0 go seq seqM (by omega) (by omega) (fun y hy => by rw [(z1 y hy).1, if_neg (by omega)]) (fun i hi => by omega)
    obtain ⟨r, g', nm, r1, r2, r3, r4⟩ := hfin sg sm gm s3
    rw [e0] at s1 s2
    rw [e0, if_pos rfl]
    unfold f_co_arrangeByNumber
    rw [s1, bd_some, bd_some, s2]
    exact ⟨r, sg, g', sm, gm, nm, r1, r2, r3, r4⟩
  · obtain ⟨sg, sm, gm, s1, s2, s3⟩ := seq_1 hN hc hn nu N 0 _ go seq seqM (by omega) (by omega) hL (by rw [popc_mask (by omega)]; omega) (fun i hi => by omega)
    obtain ⟨r, g', nm, r1, r2, r3, r4⟩ := hfin sg sm gm s3
    rw [e0] at s1 s2
    rw [show ((1 : Nat) : Int) = 1 from rfl, if_neg (by omega), if_pos rfl]
    unfold f_co_arrangeByNeighbours f_pa_everyPane
    rw [og_pos (by omega), Int.toNat_natCast, bd_some, s1, bd_some, bd_some, s2]
    exact ⟨r, sg, g', sm, gm, nm, r1, r2, r3, r4⟩
  · obtain ⟨sg, sm, gm, s1, s2, s3⟩ := seq_2 hN hc hn nu N 0 _ go seq seqM (by omega) (by omega) hL (by rw [popc_mask (by omega)]; omega) (fun i hi => by omega)
    obtain ⟨r, g', nm, r1, r2, r3, r4⟩ := hfin sg sm gm s3
    rw [e0, Int.sub_zero] at s1
    rw [e0] at s2
    rw [show ((2 : Nat) : Int) = 2 from rfl, if_neg (by omega), if_neg (by omega)]
    unfold f_co_arrangeByRemoval f_pa_everyPane
    rw [og_pos (by omega), Int.toNat_natCast, bd_some, bd_some, s1, bd_some, bd_some, s2]
    exact ⟨r, sg, g', sm, gm, nm, r1, r2, r3, r4⟩
