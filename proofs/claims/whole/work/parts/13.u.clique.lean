/-! ===== PURE: cliques, the component ===== -/
def Chn (near : Int → BitVec 64) (cnt : Nat) : Nat → (Nat → Prop) → Prop
  | 0, _ => True
  | m + 1, S => ∃ x, x < cnt ∧ S x ∧ Chn near cnt m (fun y => S y ∧ (near x).getLsbD y = true ∧ y < x)
theorem chn_congr {near : Int → BitVec 64} {cnt : Nat} : ∀ {m : Nat} {S T : Nat → Prop}, (∀ x, S x ↔ T x) → (Chn near cnt m S ↔ Chn near cnt m T)
  | 0, _, _, _ => Iff.rfl
  | m + 1, S, T, h => by
    show (∃ x, x < cnt ∧ S x ∧ _) ↔ (∃ x, x < cnt ∧ T x ∧ _)
    constructor
    · rintro ⟨x, h1, h2, h3⟩
      exact ⟨x, h1, (h x).mp h2, (chn_congr (fun y => by rw [h y])).mp h3⟩
    · rintro ⟨x, h1, h2, h3⟩
      exact ⟨x, h1, (h x).mpr h2, (chn_congr (fun y => by rw [h y])).mpr h3⟩
/-- the value of a search that may go j deep -/
def CV (near : Int → BitVec 64) (cnt j : Nat) (S : Nat → Prop) (v : Int) : Prop := 0 ≤ v ∧ v ≤ j ∧ ∀ m : Nat, m ≤ j → ((m : Int) ≤ v ↔ Chn near cnt m S)
theorem clique_loop {N cnt : Nat} (hc : cnt ≤ 49) {near : Int → BitVec 64} {rc : BitVec 64 → Int → Int → (Int → BitVec 64) → Option Int} {j : Nat} (hj : j < 4) (hrc : ∀ s : BitVec 64, ∃ v, rc s (4 - (j : Int)) (cnt : Int) near = some v ∧ CV near cnt j (fun y => s.getLsbD y = true) v) (set : BitVec 64) :
    ∀ (n k : Nat) (v : Int), k ≤ cnt → 49 < n + k → (0 ≤ v ∧ v ≤ (j : Int) + 1) → (∀ m : Nat, m ≤ j → ((m : Int) + 1 ≤ v ↔ ∃ x, x < k ∧ set.getLsbD x = true ∧ Chn near cnt m (fun y => set.getLsbD y = true ∧ (near x).getLsbD y = true ∧ y < x))) →
      ∃ v', f_pa_cliqueAmong_13 N rc set (3 - (j : Int)) (cnt : Int) near n v (k : Int) = some v' ∧ CV near cnt (j + 1) (fun y => set.getLsbD y = true) v' := by
  intro n
  induction n with
  | zero => intro k v hk hn; omega
  | succ n ih =>
    intro k v hk hn hv hm
    rw [f_pa_cliqueAmong_13.eq_2, og_pos (by omega), og_pos (by omega)]
    by_cases hend : k = cnt
    · rw [if_pos (by omega)]
      refine ⟨v, rfl, hv.1, by omega, fun m hmj => ?_⟩
      cases m with
      | zero => exact ⟨fun _ => trivial, fun _ => hv.1⟩
      | succ m =>
        have := hm m (by omega)
        rw [hend] at this
        rw [show ((m + 1 : Nat) : Int) = (m : Int) + 1 by omega]
        exact this
    · have e1 : (k : Int) + 1 = ((k + 1 : Nat) : Int) := by omega
      rw [if_neg (by omega), og_pos (by omega), Int.toNat_natCast]
      by_cases hb : set.getLsbD k = true
      · rw [if_neg (fun h2 => by rw [gl_and_one (by omega)] at h2; rw [h2] at hb; cases hb), bd_some, og_pos (by omega), bd_some]
        obtain ⟨w, w1, w2, w3, w4⟩ := hrc ((set &&& near (k : Int)) &&& ((1#64 <<< k) - 1#64))
        rw [show 3 - (j : Int) + 1 = 4 - (j : Int) by omega, w1, bd_some, og_pos (by omega), og_pos (by omega), bd_some, bd_some, bd_some]
        show ∃ v', f_pa_cliqueAmong_13 N rc set (3 - (j : Int)) (cnt : Int) near n (max v (1 + w)) ((k : Int) + 1) = some v' ∧ _
        rw [e1]
        refine ih (k + 1) _ (by omega) (by omega) (by omega) (fun m hmj => ?_)
        have hset : ∀ y, ((set &&& near (k : Int)) &&& ((1#64 <<< k) - 1#64)).getLsbD y = true ↔ (set.getLsbD y = true ∧ (near (k : Int)).getLsbD y = true ∧ y < k) := by
          intro y
          rw [gl_and, gl_and]
          by_cases hy : y < 64
          · rw [gl_mask ⟨k, by omega⟩ ⟨y, hy⟩]
            simp only [Bool.and_eq_true, decide_eq_true_eq, and_assoc]
          · rw [gl_big (x := set) (by omega)]; simp
        have h1 := hm m hmj
        have h2 := (w4 m hmj).trans (chn_congr hset)
        constructor
        · intro hle
          by_cases c : (m : Int) + 1 ≤ v
          · obtain ⟨x, x1, x2⟩ := h1.mp c
            exact ⟨x, by omega, x2⟩
          · exact ⟨k, by omega, hb, h2.mp (by omega)⟩
        · rintro ⟨x, x1, x2, x3⟩
          by_cases hxk : x = k
          · subst hxk
            have := h2.mpr x3
            omega
          · have := h1.mpr ⟨x, by omega, x2, x3⟩
            omega
      · rw [if_pos (by rw [gl_and_one (by omega)]; simpa using hb), bd_some, bd_some]
        show ∃ v', f_pa_cliqueAmong_13 N rc set (3 - (j : Int)) (cnt : Int) near n v ((k : Int) + 1) = some v' ∧ _
        rw [e1]
        refine ih (k + 1) v (by omega) (by omega) hv (fun m hmj => (hm m hmj).trans ?_)
        constructor
        · rintro ⟨x, x1, x2⟩; exact ⟨x, by omega, x2⟩
        · rintro ⟨x, x1, x2⟩
          refine ⟨x, ?_, x2⟩
          have : x ≠ k := fun e => hb (e ▸ x2.1)
          omega
theorem pa_cliqueAmong {N cnt : Nat} (hN : 4000 ≤ N) (hc : cnt ≤ 49) {near : Int → BitVec 64} : ∀ (j d : Nat) (set : BitVec 64), j ≤ 4 → j < d → ∃ v, f_pa_cliqueAmong N d set (4 - (j : Int)) (cnt : Int) near = some v ∧ CV near cnt j (fun y => set.getLsbD y = true) v
  | 0, 0, _, _, h => by omega
  | 0, d + 1, set, _, _ => by
    refine ⟨0, ?_, by omega, by omega, fun m hm => ?_⟩
    · rw [f_pa_cliqueAmong.eq_2]
      show (og (xR (4 - ((0 : Nat) : Int))) <| if (4 - ((0 : Nat) : Int)) < 4 then _ else some 0) = some 0
      rw [og_pos (by omega), if_neg (by omega)]
    · have : m = 0 := by omega
      subst this
      exact ⟨fun _ => trivial, fun _ => by omega⟩
  | j + 1, 0, _, _, h => by omega
  | j + 1, d + 1, set, hj, hd => by
    rw [f_pa_cliqueAmong.eq_2]
    show ∃ v, (og (xR (4 - ((j + 1 : Nat) : Int))) <| if (4 - ((j + 1 : Nat) : Int)) < 4 then f_pa_cliqueAmong_13 N (f_pa_cliqueAmong N d) set (4 - ((j + 1 : Nat) : Int)) (cnt : Int) near N 0 0 else some 0) = some v ∧ _
    rw [og_pos (by omega), if_pos (by omega), show 4 - ((j + 1 : Nat) : Int) = 3 - (j : Int) by omega]
    exact clique_loop hc (by omega) (fun s => pa_cliqueAmong hN hc j d s (by omega) (by omega)) set N 0 0 (by omega) (by omega) (by omega) (fun m hm => ⟨fun h => by omega, fun ⟨x, hx, _⟩ => by omega⟩)
theorem pa_measureClique {N cnt : Nat} (hN : 4000 ≤ N) (hc : cnt ≤ 49) {near : Int → BitVec 64} : ∃ v, f_pa_measureClique N (cnt : Int) near = some v ∧ CV near cnt 4 (fun y => y < cnt) v := by
  unfold f_pa_measureClique f_pa_everyPane
  rw [og_pos (by omega), Int.toNat_natCast, bd_some]
  obtain ⟨v, v1, v2, v3, v4⟩ := pa_cliqueAmong hN hc (near := near) 4 6 ((1#64 <<< cnt) - 1#64) (by omega) (by omega)
  have e0 : 4 - ((4 : Nat) : Int) = 0 := by omega
  rw [e0] at v1
  rw [v1, bd_some]
  refine ⟨v, rfl, v2, v3, fun m hm => (v4 m hm).trans (chn_congr (fun y => ?_))⟩
  by_cases hy : y < 64
  · have := gl_mask ⟨cnt, by omega⟩ ⟨y, hy⟩
    show ((1#64 <<< cnt) - 1#64).getLsbD y = true ↔ y < cnt
    rw [this]; simp
  · show ((1#64 <<< cnt) - 1#64).getLsbD y = true ↔ y < cnt
    rw [gl_big (by omega)]
    constructor
    · intro h; cases h
    · intro h; omega
