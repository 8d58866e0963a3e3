/-! ===== PURE: the reference's spread marks what can be reached ===== -/
theorem wok_E {R C : Nat} {now : Int → Int} {jr jb : BitVec 64} (h : MD now R C jr jb) {t b l r : Nat} (hb : b < R) (hr : r < C) {u : Nat} (hu : u < 49) (hut : t ≤ u / 7 ∧ u / 7 ≤ b ∧ l ≤ u % 7 ∧ u % 7 ≤ r) {w : Nat} (hw : w < 4) (hk : wok jr jb t b l r u w = true) : ∃ v : Nat, wto u w = v ∧ EM jr jb t b l r u v := by
  have hb7 := h.2.2.1
  have hq : w = 0 ∨ w = 1 ∨ w = 2 ∨ w = 3 := by omega
  unfold EM EJ
  rcases hq with rfl | rfl | rfl | rfl
  · have hk : (decide (u % 7 < r) && jr.getLsbD (eb u)) = true := hk
    simp at hk
    refine ⟨u + 1, by show (u : Int) + 1 = _; omega, Or.inl ⟨by unfold eb; omega, hk.2⟩, ?_⟩
    omega
  · have hk : (decide (u / 7 < b) && jb.getLsbD (eb u)) = true := hk
    simp at hk
    refine ⟨u + 7, by show (u : Int) + 7 = _; omega, Or.inr (Or.inr (Or.inl ⟨by unfold eb; omega, hk.2⟩)), ?_⟩
    omega
  · have hk : (decide (l < u % 7) && jr.getLsbD (eb (u - 1))) = true := hk
    simp at hk
    refine ⟨u - 1, by show (u : Int) - 1 = _; omega, Or.inr (Or.inl ⟨by unfold eb; omega, hk.2⟩), ?_⟩
    omega
  · have hk : (decide (t < u / 7) && jb.getLsbD (eb (u - 7))) = true := hk
    simp at hk
    refine ⟨u - 7, by show (u : Int) - 7 = _; omega, Or.inr (Or.inr (Or.inr ⟨by unfold eb; omega, hk.2⟩)), ?_⟩
    omega
theorem E_wok {R C : Nat} {now : Int → Int} {jr jb : BitVec 64} (h : MD now R C jr jb) {t b l r : Nat} {u v : Nat} (hu : u < 49) (hut : t ≤ u / 7 ∧ u / 7 ≤ b ∧ l ≤ u % 7 ∧ u % 7 ≤ r) (hE : EM jr jb t b l r u v) : ∃ w, w < 4 ∧ wok jr jb t b l r u w = true ∧ wto u w = v := by
  obtain ⟨hJ, hv, hvt⟩ := hE
  obtain ⟨-, -, hb7, -, hjr, hjb⟩ := h
  have e1 := eb_rc u
  have e2 := eb_rc v
  rcases hJ with ⟨h1, h2⟩ | ⟨h1, h2⟩ | ⟨h1, h2⟩ | ⟨h1, h2⟩
  · have := (hjr _).mp h2
    refine ⟨0, by omega, ?_, ?_⟩
    · show (decide (u % 7 < r) && jr.getLsbD (eb u)) = true
      rw [h2]; simp; omega
    · show (u : Int) + 1 = v
      omega
  · have := (hjr _).mp h2
    have hvu : v = u - 1 := by omega
    refine ⟨2, by omega, ?_, ?_⟩
    · show (decide (l < u % 7) && jr.getLsbD (eb (u - 1))) = true
      rw [← hvu, h2]; simp; omega
    · show (u : Int) - 1 = v
      omega
  · have := (hjb _).mp h2
    refine ⟨1, by omega, ?_, ?_⟩
    · show (decide (u / 7 < b) && jb.getLsbD (eb u)) = true
      rw [h2]; simp; omega
    · show (u : Int) + 7 = v
      omega
  · have := (hjb _).mp h2
    have hvu : v = u - 7 := by omega
    refine ⟨3, by omega, ?_, ?_⟩
    · show (decide (t < u / 7) && jb.getLsbD (eb (u - 7))) = true
      rw [← hvu, h2]; simp; omega
    · show (u : Int) - 7 = v
      omega
theorem cntB_true : ∀ n : Nat, cntB (fun _ => true) n = n
  | 0 => rfl
  | n + 1 => by rw [cntB_s, cntB_true n]; simp
/-- what holds in the reference's queue: id is put at what has been reached -/
def BQ (E : Nat → Nat → Prop) (s : Nat) (id : Int) (m0 : Int → Int) (st : Int × (Int → Int) × (Int → Int)) : Prop :=
  cntB (fun v => decide (st.2.2 (v : Int) = id)) 49 = st.1 ∧
  (∀ i : Nat, (i : Int) < st.1 → ∃ v : Nat, v < 49 ∧ st.2.1 i = v ∧ st.2.2 v = id ∧ Rch E (fun a => a = s) v) ∧
  (∀ v : Nat, v < 49 → st.2.2 v = id → ∃ i : Nat, (i : Int) < st.1 ∧ st.2.1 i = v) ∧
  (∀ j : Int, st.2.2 j = m0 j ∨ ∃ v : Nat, j = v ∧ v < 49 ∧ Rch E (fun a => a = s) v ∧ st.2.2 j = id)
theorem BQ.room {E : Nat → Nat → Prop} {s : Nat} {id : Int} {m0 : Int → Int} {st : Int × (Int → Int) × (Int → Int)} (h : BQ E s id m0 st) (hid : 0 ≤ id) {v : Nat} (hv : v < 49) (hm : st.2.2 v < 0) : 0 ≤ st.1 ∧ st.1 < 49 := by
  have h1 := cntB_nn (fun v => decide (st.2.2 (v : Int) = id)) 49
  have h2 := cntB_lt (p := fun v => decide (st.2.2 (v : Int) = id)) (q := fun _ => true) (n := 49) (k := v) (fun _ _ _ => rfl) hv (by simp; omega) rfl
  rw [cntB_true, h.1] at h2
  rw [h.1] at h1
  omega
theorem cntB_upd {p q : Nat → Bool} {k : Nat} : ∀ {n : Nat}, k < n → p k = false → q k = true → (∀ i, i < n → i ≠ k → p i = q i) → cntB q n = cntB p n + 1
  | 0, hk, _, _, _ => by omega
  | n + 1, hk, hp, hq, h => by
    rw [cntB_s, cntB_s]
    by_cases hkn : k = n
    · subst hkn
      rw [cntB_congr (p := q) (q := p) (fun i hi => (h i (by omega) (by omega)).symm), hp, hq]
      simp
    · rw [cntB_upd (n := n) (by omega) hp hq (fun i hi hne => h i (by omega) hne), h n (by omega) (by omega)]
      omega
theorem bq_psh {E : Nat → Nat → Prop} {s : Nat} {id : Int} {m0 : Int → Int} {st : Int × (Int → Int) × (Int → Int)} (h : BQ E s id m0 st) (hid : 0 ≤ id) {v : Nat} {ok : Bool} (hv : ok = true → v < 49 ∧ Rch E (fun a => a = s) v ∧ m0 v < 0) :
    BQ E s id m0 (psh id v ok st) ∧ (∀ j : Int, st.2.2 j = id → (psh id v ok st).2.2 j = id) ∧ (∀ i : Nat, (i : Int) < st.1 → (psh id v ok st).2.1 i = st.2.1 i) ∧ st.1 ≤ (psh id v ok st).1 ∧ (ok = true → (psh id v ok st).2.2 v = id) := by
  have h0 := cntB_nn (fun v => decide (st.2.2 (v : Int) = id)) 49
  obtain ⟨b1, b2, b3, b4⟩ := h
  by_cases hc : ok = true ∧ st.2.2 v < 0
  · obtain ⟨hv1, hv2, hv3⟩ := hv hc.1
    rw [psh_t hc.1 hc.2]
    refine ⟨⟨?_, ?_, ?_, ?_⟩, ?_, ?_, ?_, ?_⟩
    · show cntB (fun w => decide (upi st.2.2 v id (w : Int) = id)) 49 = st.1 + 1
      rw [← b1]
      refine cntB_upd (k := v) hv1 ?_ ?_ ?_
      · simp; omega
      · simp [upi_s]
      · intro i hi hne
        rw [upi_n _ _ (by omega)]
    · intro i hi
      have hi : (i : Int) < st.1 + 1 := hi
      by_cases hil : (i : Int) = st.1
      · exact ⟨v, hv1, by show upi st.2.1 st.1 (v : Int) (i : Int) = v; rw [hil, upi_s], by show upi st.2.2 v id v = id; rw [upi_s], hv2⟩
      · obtain ⟨w, hw1, hw2, hw3, hw4⟩ := b2 i (by omega)
        refine ⟨w, hw1, by show upi st.2.1 st.1 (v : Int) (i : Int) = w; rw [upi_n _ _ hil]; exact hw2, ?_, hw4⟩
        show upi st.2.2 v id w = id
        by_cases hwv : (w : Int) = v
        · rw [hwv, upi_s]
        · rw [upi_n _ _ hwv]; exact hw3
    · intro w hw hm
      have hm : upi st.2.2 v id w = id := hm
      by_cases hwv : (w : Int) = v
      · refine ⟨st.1.toNat, ?_, ?_⟩
        · show ((st.1.toNat : Nat) : Int) < st.1 + 1
          omega
        · show upi st.2.1 st.1 (v : Int) ((st.1.toNat : Nat) : Int) = w
          rw [show ((st.1.toNat : Nat) : Int) = st.1 by omega, upi_s, hwv]
      · rw [upi_n _ _ hwv] at hm
        obtain ⟨i, hi1, hi2⟩ := b3 w hw hm
        refine ⟨i, ?_, ?_⟩
        · show (i : Int) < st.1 + 1
          omega
        · show upi st.2.1 st.1 (v : Int) (i : Int) = w
          rw [upi_n _ _ (by omega)]; exact hi2
    · intro j
      show upi st.2.2 v id j = m0 j ∨ ∃ w : Nat, j = w ∧ w < 49 ∧ Rch E (fun a => a = s) w ∧ upi st.2.2 v id j = id
      by_cases hj : j = v
      · exact Or.inr ⟨v, hj, hv1, hv2, by rw [hj, upi_s]⟩
      · rw [upi_n _ _ hj]; exact b4 j
    · intro j hj
      show upi st.2.2 v id j = id
      by_cases hjv : j = v
      · rw [hjv, upi_s]
      · rw [upi_n _ _ hjv]; exact hj
    · intro i hi
      show upi st.2.1 st.1 (v : Int) (i : Int) = st.2.1 i
      rw [upi_n _ _ (by omega)]
    · show st.1 ≤ st.1 + 1
      omega
    · intro _
      show upi st.2.2 v id v = id
      rw [upi_s]
  · rw [psh_f hc]
    refine ⟨⟨b1, b2, b3, b4⟩, fun j hj => hj, fun i _ => rfl, Int.le_refl _, fun hok => ?_⟩
    obtain ⟨hv1, hv2, hv3⟩ := hv hok
    rcases b4 v with h1 | ⟨w, -, -, -, h1⟩
    · exact absurd ⟨hok, by omega⟩ hc
    · exact h1
/-- a cell of the queue: its four ways -/
theorem spread_cell {N R C : Nat} (hN : 4000 ≤ N) {now : Int → Int} {jr jb : BitVec 64} (h : MD now R C jr jb) {t b l r : Nat} (hb : b < R) (hr : r < C) {u : Nat} (hu : u < 49) (hut : t ≤ u / 7 ∧ u / 7 ≤ b ∧ l ≤ u % 7 ∧ u % 7 ≤ r) {id k : Int} (hid : 0 ≤ id) (hid2 : xR id) {s : Nat} {m0 : Int → Int} (hm0 : ∀ j : Int, 0 ≤ j → j < 49 → xR (m0 j)) (hR : ∀ v, Rch (EM jr jb t b l r) (fun a => a = s) v → v < 49 ∧ m0 v < 0) (hu2 : Rch (EM jr jb t b l r) (fun a => a = s) u) (k17 : Int → Int → (Int → Int) → (Int → Int) → Option (Int × (Int → Int) × (Int → Int))) :
    ∀ (d w : Nat), w + d = 4 → ∀ (n : Nat) (st : Int × (Int → Int) × (Int → Int)), d < n → BQ (EM jr jb t b l r) s id m0 st → (∀ w' : Nat, w' < w → wok jr jb t b l r u w' = true → st.2.2 (wto u w') = id) →
      ∃ st', f_mo_spread_36 N id k u t b l r now k17 n st.1 w st.2.1 st.2.2 = k17 st'.1 (k + 1) st'.2.1 st'.2.2 ∧ BQ (EM jr jb t b l r) s id m0 st' ∧ (∀ w' : Nat, w' < 4 → wok jr jb t b l r u w' = true → st'.2.2 (wto u w') = id) ∧ (∀ j : Int, st.2.2 j = id → st'.2.2 j = id) ∧ (∀ i : Nat, (i : Int) < st.1 → st'.2.1 i = st.2.1 i) ∧ st.1 ≤ st'.1 := by
  intro d
  induction d with
  | zero =>
    intro w hw n st hn hB hW
    have hw4 : w = 4 := by omega
    subst hw4
    obtain ⟨n, rfl⟩ : ∃ m, n = m + 1 := ⟨n - 1, by omega⟩
    refine ⟨st, ?_, hB, hW, fun j hj => hj, fun i _ => rfl, Int.le_refl _⟩
    rw [f_mo_spread_36.eq_2, og_pos (by omega), if_pos (by omega), bd_some]
  | succ d ih =>
    intro w hw n st hn hB hW
    obtain ⟨n, rfl⟩ : ∃ m, n = m + 1 := ⟨n - 1, by omega⟩
    have hx : ∀ j : Int, 0 ≤ j → j < 49 → xR (st.2.2 j) := fun j h1 h2 => by
      rcases hB.2.2.2 j with h3 | ⟨v, -, -, -, h3⟩
      · rw [h3]; exact hm0 j h1 h2
      · rw [h3]; exact hid2
    rw [spread_way (N := N) h hb hr hu hut (id := id) (k := k) k17 (w := w) (by omega) hx (fun hok hneg => by
      obtain ⟨v, hv1, hv2⟩ := wok_E h hb hr hu hut (by omega) hok
      rw [hv1] at hneg
      exact hB.room hid hv2.2.1 hneg) n]
    -- the target as a cell
    have hgo : ∀ v : Nat, wto u w = v → (wok jr jb t b l r u w = true → v < 49 ∧ Rch (EM jr jb t b l r) (fun a => a = s) v ∧ m0 v < 0) := by
      intro v hv hok
      obtain ⟨v2, hv1, hv2⟩ := wok_E h hb hr hu hut (by omega) hok
      have : v = v2 := by omega
      subst this
      have h3 := hu2.step hv2
      exact ⟨hv2.2.1, h3, (hR v h3).2⟩
    by_cases hok : wok jr jb t b l r u w = true
    · obtain ⟨v, hv1, hv2⟩ := wok_E h hb hr hu hut (by omega) hok
      rw [hv1]
      obtain ⟨p1, p2, p3, p4, p5⟩ := bq_psh hB hid (v := v) (ok := wok jr jb t b l r u w) (hgo v hv1)
      have e1 : ((w + 1 : Nat) : Int) = (w : Int) + 1 := by omega
      rw [← e1]
      obtain ⟨st', q1, q2, q3, q4, q5, q6⟩ := ih (w + 1) (by omega) n _ (by omega) p1 (fun w' hw' hk => by
        by_cases hww : w' = w
        · subst hww
          rw [hv1]; exact p5 hok
        · exact p2 _ (hW w' (by omega) hk))
      exact ⟨st', q1, q2, q3, fun j hj => q4 j (p2 j hj), fun i hi => (q5 i (by omega)).trans (p3 i hi), by omega⟩
    · have e0 : psh id (wto u w) (wok jr jb t b l r u w) st = st := psh_f (fun hq => hok hq.1)
      rw [e0]
      have e1 : ((w + 1 : Nat) : Int) = (w : Int) + 1 := by omega
      rw [← e1]
      exact ih (w + 1) (by omega) n st (by omega) hB (fun w' hw' hk => by
        by_cases hww : w' = w
        · subst hww; exact absurd hk hok
        · exact hW w' (by omega) hk)
theorem spread_loop {N R C : Nat} (hN : 4000 ≤ N) {now : Int → Int} {jr jb : BitVec 64} (h : MD now R C jr jb) {t b l r : Nat} (hb : b < R) (hr : r < C) {id : Int} (hid : 0 ≤ id) (hid2 : xR id) {s : Nat} {m0 : Int → Int} (hm0 : ∀ j : Int, 0 ≤ j → j < 49 → xR (m0 j)) (hR : ∀ v, Rch (EM jr jb t b l r) (fun a => a = s) v → (v < 49 ∧ m0 v < 0) ∧ t ≤ v / 7 ∧ v / 7 ≤ b ∧ l ≤ v % 7 ∧ v % 7 ≤ r) :
    ∀ (n k : Nat) (st : Int × (Int → Int) × (Int → Int)), (k : Int) ≤ st.1 → 49 < n + k → BQ (EM jr jb t b l r) s id m0 st → (∀ (i : Nat), i < k → ∀ u v : Nat, st.2.1 i = u → EM jr jb t b l r u v → st.2.2 v = id) →
      ∃ st', f_mo_spread_17 N id t b l r now n st.1 k st.2.1 st.2.2 = some st' ∧ BQ (EM jr jb t b l r) s id m0 st' ∧ (∀ u v : Nat, u < 49 → st'.2.2 u = id → EM jr jb t b l r u v → st'.2.2 v = id) ∧ (∀ j : Int, st.2.2 j = id → st'.2.2 j = id) := by
  intro n
  induction n with
  | zero =>
    intro k st hk hn hB hC
    have := cntB_nn (fun v => decide (st.2.2 (v : Int) = id)) 49
    rw [hB.1] at this
    omega
  | succ n ih =>
    intro k st hk hn hB hC
    have hcn := cntB_nn (fun v => decide (st.2.2 (v : Int) = id)) 49
    rw [hB.1] at hcn
    rw [f_mo_spread_17.eq_2, og_pos (by omega), og_pos (by omega)]
    by_cases hend : st.1 ≤ (k : Int)
    · rw [if_pos hend]
      refine ⟨st, rfl, hB, fun u v hu hm hE => ?_, fun j hj => hj⟩
      obtain ⟨i, hi1, hi2⟩ := hB.2.2.1 u hu hm
      exact hC i (by omega) u v hi2 hE
    · rw [if_neg hend, og_pos (by omega), bd_some]
      obtain ⟨u, hu1, hu2, hu3, hu4⟩ := hB.2.1 k (by omega)
      obtain ⟨⟨-, -⟩, hut⟩ := hR u hu4
      rw [hu2]
      obtain ⟨st', q1, q2, q3, q4, q5, q6⟩ := spread_cell hN h hb hr hu1 hut (k := (k : Int)) hid hid2 hm0 (fun v hv => (hR v hv).1) hu4 (f_mo_spread_17 N id t b l r now n) 4 0 (by omega) N st (by omega) hB (fun w' hw' => by omega)
      have e0 : ((0 : Nat) : Int) = 0 := rfl
      rw [e0] at q1
      rw [q1]
      have e1 : ((k + 1 : Nat) : Int) = (k : Int) + 1 := by omega
      rw [← e1]
      obtain ⟨st2, r1, r2, r3, r4⟩ := ih (k + 1) st' (by omega) (by omega) q2 (fun i hi u' v hq hE => by
        by_cases hik : i = k
        · subst hik
          rw [q5 i (by omega), hu2] at hq
          have : u = u' := by omega
          subst this
          obtain ⟨w, hw, hok, hto⟩ := E_wok h hu1 hut hE
          rw [← hto]
          exact q3 w hw hok
        · rw [q5 i (by omega)] at hq
          exact q4 _ (hC i (by omega) u' v hq hE))
      exact ⟨st2, r1, r2, r3, fun j hj => r4 j (q4 j hj)⟩
theorem mo_spread {N R C : Nat} (hN : 4000 ≤ N) {now : Int → Int} {jr jb : BitVec 64} (h : MD now R C jr jb) {t b l r : Nat} (hb : b < R) (hr : r < C) {id : Int} (hid : 0 ≤ id) (hid2 : xR id) {s : Nat} (hs : s < 49) (hst : t ≤ s / 7 ∧ s / 7 ≤ b ∧ l ≤ s % 7 ∧ s % 7 ≤ r) {m0 q0 : Int → Int} (hm0 : ∀ j : Int, 0 ≤ j → j < 49 → xR (m0 j)) (hne : ∀ v : Nat, v < 49 → m0 v ≠ id) (hR : ∀ v : Nat, v < 49 → Rch (EM jr jb t b l r) (fun a => a = s) v → m0 v < 0) :
    ∃ (q1 m1 : Int → Int), f_mo_spread N s id t b l r now q0 m0 = some (cntB (fun v => decide (m1 (v : Int) = id)) 49, q1, m1) ∧ (∀ v : Nat, v < 49 → (m1 v = id ↔ Rch (EM jr jb t b l r) (fun a => a = s) v)) ∧ (∀ j : Int, m1 j = m0 j ∨ ∃ v : Nat, j = v ∧ v < 49 ∧ Rch (EM jr jb t b l r) (fun a => a = s) v ∧ m1 j = id) := by
  have hrect : ∀ v, Rch (EM jr jb t b l r) (fun a => a = s) v → v < 49 ∧ t ≤ v / 7 ∧ v / 7 ≤ b ∧ l ≤ v % 7 ∧ v % 7 ≤ r := fun v hv => hv.ind (fun v => v < 49 ∧ t ≤ v / 7 ∧ v / 7 ≤ b ∧ l ≤ v % 7 ∧ v % 7 ≤ r) (fun a ha => by subst ha; exact ⟨hs, hst⟩) (fun x y _ _ hE => hE.2)
  unfold f_mo_spread
  rw [og_pos (by omega), bd_some, bd_some]
  have hB : BQ (EM jr jb t b l r) s id m0 (1, upi q0 0 s, upi m0 s id) := by
    refine ⟨?_, ?_, ?_, ?_⟩
    · show cntB (fun v => decide (upi m0 s id (v : Int) = id)) 49 = 1
      rw [cntB_upd (p := fun _ => false) (k := s) hs rfl (by simp [upi_s]) (fun i hi his => by rw [upi_n _ _ (by omega)]; simp [hne i hi]), cntB_f (fun _ _ => rfl)]
      rfl
    · intro i hi
      have hi : (i : Int) < 1 := hi
      have hi0 : i = 0 := by omega
      subst hi0
      exact ⟨s, hs, (by show upi q0 0 (s : Int) ((0 : Nat) : Int) = s; exact upi_s _ _ _), (by show upi m0 s id s = id; exact upi_s _ _ _), Rch.start rfl⟩
    · intro v hv hm
      have hm : upi m0 s id v = id := hm
      by_cases hvs : (v : Int) = s
      · exact ⟨0, by show ((0 : Nat) : Int) < 1; omega, by show upi q0 0 (s : Int) ((0 : Nat) : Int) = v; rw [hvs]; exact upi_s _ _ _⟩
      · rw [upi_n _ _ hvs] at hm
        exact absurd hm (hne v hv)
    · intro j
      show upi m0 s id j = m0 j ∨ ∃ v : Nat, j = v ∧ v < 49 ∧ Rch (EM jr jb t b l r) (fun a => a = s) v ∧ upi m0 s id j = id
      by_cases hj : j = s
      · exact Or.inr ⟨s, hj, hs, Rch.start rfl, by rw [hj, upi_s]⟩
      · exact Or.inl (upi_n _ _ hj)
  obtain ⟨st', q1, q2, q3, q4⟩ := spread_loop hN h hb hr hid hid2 hm0 (fun v hv => ⟨⟨(hrect v hv).1, hR v (hrect v hv).1 hv⟩, (hrect v hv).2⟩) N 0 (1, upi q0 0 s, upi m0 s id) (by show ((0 : Nat) : Int) ≤ 1; omega) (by omega) hB (fun i hi => by omega)
  refine ⟨st'.2.1, st'.2.2, ?_, ?_, q2.2.2.2⟩
  · have q1' : f_mo_spread_17 N id t b l r now N 1 0 (upi q0 0 s) (upi m0 s id) = some st' := q1
    rw [q1', q2.1]
  · intro v hv
    constructor
    · intro hm
      rcases q2.2.2.2 v with h1 | ⟨w, hw1, hw2, hw3, hw4⟩
      · exact absurd (h1.symm.trans hm) (hne v hv)
      · have : v = w := by omega
        subst this
        exact hw3
    · intro hv2
      refine hv2.ind (fun z => st'.2.2 z = id) (fun a ha => ?_) (fun x y hx hm hE => q3 x y (hrect x hx).1 hm hE)
      rw [ha]
      exact q4 s (upi_s _ _ _)
/-- the reference's cells and the bits are reached alike -/
theorem rch_iso {jr jb part : BitVec 64} {t b l r : Nat} (hp : ∀ i, part.getLsbD i = true → ∃ v : Nat, v < 49 ∧ i = eb v ∧ t ≤ v / 7 ∧ v / 7 ≤ b ∧ l ≤ v % 7 ∧ v % 7 ≤ r) (hcl : ∀ u v : Nat, u < 49 → part.getLsbD (eb u) = true → EM jr jb t b l r u v → part.getLsbD (eb v) = true) {s : Nat} (hs : part.getLsbD (eb s) = true) (v : Nat) :
    Rch (EM jr jb t b l r) (fun a => a = s) v ↔ Rch (fun a b => EJ jr jb a b ∧ part.getLsbD b = true) (fun a => a = eb s) (eb v) := by
  constructor
  · intro h
    refine (h.ind (fun z => z < 49 ∧ part.getLsbD (eb z) = true ∧ Rch (fun a b => EJ jr jb a b ∧ part.getLsbD b = true) (fun a => a = eb s) (eb z)) (fun a ha => ?_) (fun x y hx hT hE => ?_)).2.2
    · subst ha
      obtain ⟨w, hw1, hw2, -⟩ := hp _ hs
      have := eb_inj hw2
      exact ⟨by omega, hs, Rch.start rfl⟩
    · have h1 := hcl x y hT.1 hT.2.1 hE
      exact ⟨hE.2.1, h1, hT.2.2.step ⟨hE.1, h1⟩⟩
  · intro h
    obtain ⟨w, hw1, hw2, hw3⟩ := h.ind (fun i => ∃ w : Nat, w < 49 ∧ i = eb w ∧ Rch (EM jr jb t b l r) (fun a => a = s) w) (fun a ha => by
        subst ha
        obtain ⟨w, hw1, hw2, -⟩ := hp _ hs
        have := eb_inj hw2
        exact ⟨s, by omega, rfl, Rch.start rfl⟩) (fun x y hx hT hE => by
        obtain ⟨w, hw1, hw2, hw3⟩ := hT
        obtain ⟨z, hz1, hz2, hz3⟩ := hp y hE.2
        subst hw2; subst hz2
        exact ⟨z, hz1, rfl, hw3.step ⟨hE.1, hz1, hz3⟩⟩)
    have := eb_inj hw2
    subst this
    exact hw3
