/-! ===== PURE: the sequence by removal, and by number ===== -/
theorem seq_2 {N cnt : Nat} (hN : 4000 ≤ N) (hc : 1 ≤ cnt ∧ cnt ≤ 49) {near : Int → BitVec 64} {nearm many : Int → Int} (hn : NM cnt near nearm many) (number : Int → Int) :
    ∀ (n k : Nat) (set : BitVec 64) (gone seqg seqm : Int → Int), k ≤ cnt → 49 < n + k → LF cnt set gone → popc set = (cnt : Int) - k → (∀ i : Nat, cnt - k ≤ i → i < cnt → seqg i = seqm i ∧ ∃ x : Nat, x < cnt ∧ seqm i = x) →
      ∃ seqg' seqm' gone', f_co_arrangeByRemoval_18 N (cnt : Int) near n set ((cnt : Int) - 1 - k) seqg = some seqg' ∧ f_mo_colourAll_32 N 2 number (cnt : Int) nearm many n (k : Int) seqm gone = f_mo_colourAll_91 N seqm' gone' (cnt : Int) nearm N 0 0 number ∧ ∀ i : Nat, i < cnt → seqg' i = seqm' i ∧ ∃ x : Nat, x < cnt ∧ seqm' i = x := by
  intro n
  induction n with
  | zero => intro k set gone seqg seqm hk hn2; omega
  | succ n ih =>
    intro k set gone seqg seqm hk hn2 hL hp hs
    by_cases hend : k = cnt
    · refine ⟨seqg, seqm, gone, ?_, ?_, fun i hi => hs i (by omega) hi⟩
      · rw [f_co_arrangeByRemoval_18.eq_2, og_pos (by omega), if_pos (by omega)]
      · rw [f_mo_colourAll_32.eq_2, og_pos (by omega), og_pos (by omega), if_pos (by omega)]
    · obtain ⟨ex1, ex2⟩ := left_ex hL (by omega)
      obtain ⟨x, x1, x2⟩ := co_fewest (near := near) hN hc.2 (fun a b ha hab => ⟨(hn.2.2.1 a b ha hab).1, (hn.2.2.1 a b ha hab).2.1⟩) ex1
      have hm : ∀ a : Nat, a < cnt → 0 ≤ many a ∧ many a ≤ 64 := fun a ha => by rw [hn.2.2.2 a ha]; exact popc_nn _
      obtain ⟨y, y1, y2⟩ := mo_nextPane (o := 2) hN (by omega) hc.2 hn.1 (fun b hb => (hL.1 b hb).1) hm ex2
      have hxy : x = y := pick_uniq (pick_congr x2 (rem' := fun y => decide (gone (y : Int) = 0)) (key' := keyO 2 cnt nearm many gone) (fun z hz => (hL.1 z hz).2) (fun z hz => key2_same hc.2 hn hL hz)) y2
      subst hxy
      have e1 : (k : Int) + 1 = ((k + 1 : Nat) : Int) := by omega
      have e2 : (cnt : Int) - 1 - (k : Int) = ((cnt - 1 - k : Nat) : Int) := by omega
      have e3 : ((cnt - 1 - k : Nat) : Int) + -1 = (cnt : Int) - 1 - ((k + 1 : Nat) : Int) := by omega
      have hxc := x2.1
      obtain ⟨sg, sm, g', r1, r2, r3⟩ := ih (k + 1) (set &&& ((1#64 <<< x) ^^^ 18446744073709551615#64)) (upi gone x 1) (upi seqg ((cnt - 1 - k : Nat) : Int) x) (upi seqm ((cnt - 1 - k : Nat) : Int) x) (by omega) (by omega) (hL.take hc.2 hxc) (by have := take_popc (by omega) x2.2.1; omega) (fun i hi1 hi => by
        by_cases hik : i = cnt - 1 - k
        · subst hik; rw [upi_s, upi_s]; exact ⟨rfl, x, hxc, rfl⟩
        · rw [upi_n _ _ (by omega), upi_n _ _ (by omega)]; exact hs i (by omega) hi)
      refine ⟨sg, sm, g', ?_, ?_, r3⟩
      · rw [f_co_arrangeByRemoval_18.eq_2, e2, og_pos (by omega), if_neg (by omega), x1, bd_some, og_pos (by omega), bd_some, upi_s, og_pos (by omega), bd_some, bd_some, Int.toNat_natCast, e3]
        exact r1
      · rw [f_mo_colourAll_32.eq_2, og_pos (by omega), og_pos (by omega), if_neg (by omega), og_pos (by omega), if_pos rfl, bd_some, e2, show (2 : Int) = ((2 : Nat) : Int) from rfl, y1, bd_some, og_pos (by omega), bd_some, upi_s, og_pos (by omega), bd_some, bd_some]
        exact r2
theorem seq_0 {N cnt : Nat} (hN : 4000 ≤ N) (hc : 1 ≤ cnt ∧ cnt ≤ 49) {near : Int → BitVec 64} {nearm many : Int → Int} (hn : NM cnt near nearm many) (number : Int → Int) :
    ∀ (n k : Nat) (gone seqg seqm : Int → Int), k ≤ cnt → 49 < n + k → (∀ y : Nat, y < cnt → gone y = if y < k then 1 else 0) → (∀ i : Nat, i < k → seqg i = seqm i ∧ ∃ x : Nat, x < cnt ∧ seqm i = x) →
      ∃ seqg' seqm' gone', f_co_arrangeByNumber_2 N (cnt : Int) n (k : Int) seqg = some seqg' ∧ f_mo_colourAll_32 N 0 number (cnt : Int) nearm many n (k : Int) seqm gone = f_mo_colourAll_91 N seqm' gone' (cnt : Int) nearm N 0 0 number ∧ ∀ i : Nat, i < cnt → seqg' i = seqm' i ∧ ∃ x : Nat, x < cnt ∧ seqm' i = x := by
  intro n
  induction n with
  | zero => intro k gone seqg seqm hk hn2; omega
  | succ n ih =>
    intro k gone seqg seqm hk hn2 hG hs
    by_cases hend : k = cnt
    · refine ⟨seqg, seqm, gone, ?_, ?_, fun i hi => hs i (by omega)⟩
      · rw [f_co_arrangeByNumber_2.eq_2, og_pos (by omega), og_pos (by omega), if_pos (by omega)]
      · rw [f_mo_colourAll_32.eq_2, og_pos (by omega), og_pos (by omega), if_pos (by omega)]
    · have hm : ∀ a : Nat, a < cnt → 0 ≤ many a ∧ many a ≤ 64 := fun a ha => by rw [hn.2.2.2 a ha]; exact popc_nn _
      have hgk : gone (k : Int) = 0 := by rw [hG k (by omega), if_neg (by omega)]
      obtain ⟨y, y1, y2⟩ := mo_nextPane (o := 0) hN (by omega) hc.2 hn.1 (fun b hb => by rw [hG b hb]; split <;> simp) hm ⟨k, by omega, hgk⟩
      have hyk : y = k := by
        have h1 := y2.2.2 k (by omega) (decide_eq_true hgk)
        have h2 : gone (y : Int) = 0 := of_decide_eq_true y2.2.1
        rw [hG y y2.1] at h2
        have h3 : ¬ y < k := fun h => by rw [if_pos h] at h2; omega
        apply Classical.byContradiction
        intro hne
        have h4 := h1.2 (by omega)
        unfold keyO at h4
        rw [if_pos rfl, if_pos rfl] at h4
        omega
      subst hyk
      have e1 : (y : Int) + 1 = ((y + 1 : Nat) : Int) := by omega
      have hxc := y2.1
      obtain ⟨sg, sm, g', r1, r2, r3⟩ := ih (y + 1) (upi gone y 1) (upi seqg y y) (upi seqm y y) (by omega) (by omega) (fun z hz => by
        by_cases hzy : z = y
        · subst hzy; rw [upi_s, if_pos (by omega)]
        · rw [upi_n _ _ (by omega), hG z hz]
          by_cases c : z < y
          · rw [if_pos c, if_pos (by omega)]
          · rw [if_neg c, if_neg (by omega)]) (fun i hi => by
        by_cases hik : i = y
        · subst hik; rw [upi_s, upi_s]; exact ⟨rfl, i, hxc, rfl⟩
        · rw [upi_n _ _ (by omega), upi_n _ _ (by omega)]; exact hs i (by omega))
      refine ⟨sg, sm, g', ?_, ?_, r3⟩
      · rw [f_co_arrangeByNumber_2.eq_2, og_pos (by omega), og_pos (by omega), if_neg (by omega), og_pos (by omega), bd_some, bd_some, e1]
        exact r1
      · rw [f_mo_colourAll_32.eq_2, og_pos (by omega), og_pos (by omega), if_neg (by omega), og_pos (by omega), if_neg (by omega), bd_some, show (0 : Int) = ((0 : Nat) : Int) from rfl, y1, bd_some, og_pos (by omega), bd_some, upi_s, og_pos (by omega), bd_some, bd_some]
        exact r2
