/-! ===== PURE: the reference's drawing; what hangs together ===== -/
/-- the bit of a cell -/
def eb (u : Nat) : Nat := u + u / 7
theorem eb_rc (u : Nat) : eb u / 8 = u / 7 ∧ eb u % 8 = u % 7 ∧ eb u = 8 * (u / 7) + u % 7 := by unfold eb; omega
theorem eb_inj {u v : Nat} (h : eb u = eb v) : u = v := by unfold eb at h; omega
theorem eb_gd {u : Nat} (h : u < 49) : gd (eb u) = true := by
  have h1 := eb_rc u
  unfold gd
  rw [h1.1, h1.2.1]
  simp; omega
theorem eb_of {i : Nat} (h : gd i = true) : ∃ u, u < 49 ∧ eb u = i := by
  have h1 := gd_lt h
  refine ⟨7 * (i / 8) + i % 8, by omega, ?_⟩
  unfold eb; omega
/-- the reference's drawing, with the sets of joined pairs -/
def MD (now : Int → Int) (R C : Nat) (jr jb : BitVec 64) : Prop :=
  now 0 = R ∧ now 1 = C ∧ (1 ≤ R ∧ R ≤ 7 ∧ 1 ≤ C ∧ C ≤ 7) ∧ (∀ j : Int, 0 ≤ j → j < 151 → 0 ≤ now j ∧ now j ≤ 49) ∧
  (∀ i, jr.getLsbD i = true ↔ i / 8 < R ∧ i % 8 + 1 < C ∧ now ((4 + 7 * (i / 8) + i % 8 : Nat) : Int) = now ((4 + 7 * (i / 8) + i % 8 + 1 : Nat) : Int) ∧ now ((53 + 7 * (i / 8) + i % 8 : Nat) : Int) = 0) ∧
  (∀ i, jb.getLsbD i = true ↔ i / 8 + 1 < R ∧ i % 8 < C ∧ now ((4 + 7 * (i / 8) + i % 8 : Nat) : Int) = now ((4 + 7 * (i / 8) + i % 8 + 7 : Nat) : Int) ∧ now ((102 + 7 * (i / 8) + i % 8 : Nat) : Int) = 0)
theorem mo_in {N : Nat} {a b c : Int} (ha : xR a) (hb : xR b) (hc : xR c) : f_mo_in N a b c = some (if b ≤ a ∧ a ≤ c then 1 else 0) := by
  unfold f_mo_in
  rw [og_pos ha, og_pos hb]
  by_cases h1 : a < b
  · rw [if_pos h1, if_neg (by omega)]
  · rw [if_neg h1, og_pos hc]
    by_cases h2 : c < a
    · rw [if_pos h2, if_neg (by omega)]
    · rw [if_neg h2, if_pos (by omega)]
theorem mo_isCell {N R C : Nat} {now : Int → Int} {jr jb : BitVec 64} (h : MD now R C jr jb) {r c : Int} (hr : xR r) (hc : xR c) : f_mo_isCell N r c now = some (if 0 ≤ r ∧ r < R ∧ 0 ≤ c ∧ c < C then 1 else 0) := by
  obtain ⟨h0, h1, hb, -⟩ := h
  unfold f_mo_isCell
  rw [h0, h1, mo_in hr x_R0 (by omega), bd_some]
  by_cases a1 : 0 ≤ r ∧ r ≤ (R : Int) - 1
  · rw [if_pos a1, og_pos (by decide), if_neg (by decide), mo_in hc x_R0 (by omega), bd_some]
    by_cases a2 : 0 ≤ c ∧ c ≤ (C : Int) - 1
    · rw [if_pos a2, og_pos (by decide), if_neg (by decide), if_pos (by omega)]
    · rw [if_neg a2, og_pos (by decide), if_pos rfl, if_neg (by omega)]
  · rw [if_neg a1, og_pos (by decide), if_pos rfl, if_neg (by omega)]
theorem mo_joins0 {N R C : Nat} {now : Int → Int} {jr jb : BitVec 64} (h : MD now R C jr jb) {u : Nat} (hr : u / 7 < R) (hc : u % 7 < C) : f_mo_joins N (u : Int) 0 now = some (if jr.getLsbD (eb u) = true then 1 else 0) := by
  obtain ⟨h0, h1, hb, hv, hj, -⟩ := h
  obtain ⟨e1, e2, -⟩ := eb_rc u
  have hj := hj (eb u)
  rw [e1, e2] at hj
  unfold f_mo_joins f_mo_hasNext f_mo_step
  rw [og_pos (by decide), if_pos rfl, og_pos (by omega), og_pos (by omega), h1, og_pos (by omega)]
  by_cases a1 : (C : Int) ≤ (u : Int) % 7 + 1
  · rw [if_pos a1, bd_some, og_pos (by decide), if_pos rfl, if_neg (fun hq => by have := (hj.mp hq).2.1; omega)]
  · rw [if_neg a1, bd_some, og_pos (by decide), if_neg (by decide), og_pos (by omega), og_pos (by decide), if_pos rfl, bd_some, og_pos (by omega)]
    have i1 : (4 : Int) + (u : Int) = ((4 + 7 * (u / 7) + u % 7 : Nat) : Int) := by omega
    have i2 : (4 : Int) + (u : Int) + 1 = ((4 + 7 * (u / 7) + u % 7 + 1 : Nat) : Int) := by omega
    have i3 : (53 : Int) + 49 * 0 + (u : Int) = ((53 + 7 * (u / 7) + u % 7 : Nat) : Int) := by omega
    have v1 := hv ((4 + 7 * (u / 7) + u % 7 : Nat) : Int) (by omega) (by omega)
    have v2 := hv ((4 + 7 * (u / 7) + u % 7 + 1 : Nat) : Int) (by omega) (by omega)
    have v3 := hv ((53 + 7 * (u / 7) + u % 7 : Nat) : Int) (by omega) (by omega)
    rw [i2, i1, i3, og_pos (by omega), og_pos (by omega)]
    by_cases a2 : now ((4 + 7 * (u / 7) + u % 7 : Nat) : Int) = now ((4 + 7 * (u / 7) + u % 7 + 1 : Nat) : Int)
    · rw [if_pos a2, og_pos (by omega), og_pos (by omega)]
      by_cases a3 : now ((53 + 7 * (u / 7) + u % 7 : Nat) : Int) = 0
      · rw [if_pos a3, if_pos (hj.mpr ⟨hr, by omega, a2, a3⟩)]
      · rw [if_neg a3, if_neg (fun hq => a3 (hj.mp hq).2.2.2)]
    · rw [if_neg a2, if_neg (fun hq => a2 (hj.mp hq).2.2.1)]
theorem mo_joins1 {N R C : Nat} {now : Int → Int} {jr jb : BitVec 64} (h : MD now R C jr jb) {u : Nat} (hr : u / 7 < R) (hc : u % 7 < C) : f_mo_joins N (u : Int) 1 now = some (if jb.getLsbD (eb u) = true then 1 else 0) := by
  obtain ⟨h0, h1, hb, hv, -, hj⟩ := h
  obtain ⟨e1, e2, -⟩ := eb_rc u
  have hj := hj (eb u)
  rw [e1, e2] at hj
  unfold f_mo_joins f_mo_hasNext f_mo_step
  rw [og_pos (by decide), if_neg (by decide), og_pos (by omega), og_pos (by omega), h0, og_pos (by omega)]
  by_cases a1 : (R : Int) ≤ (u : Int) / 7 + 1
  · rw [if_pos a1, bd_some, og_pos (by decide), if_pos rfl, if_neg (fun hq => by have := (hj.mp hq).1; omega)]
  · rw [if_neg a1, bd_some, og_pos (by decide), if_neg (by decide), og_pos (by omega), og_pos (by decide), if_neg (by decide), bd_some, og_pos (by omega)]
    have i1 : (4 : Int) + (u : Int) = ((4 + 7 * (u / 7) + u % 7 : Nat) : Int) := by omega
    have i2 : (4 : Int) + (u : Int) + 7 = ((4 + 7 * (u / 7) + u % 7 + 7 : Nat) : Int) := by omega
    have i3 : (53 : Int) + 49 * 1 + (u : Int) = ((102 + 7 * (u / 7) + u % 7 : Nat) : Int) := by omega
    have v1 := hv ((4 + 7 * (u / 7) + u % 7 : Nat) : Int) (by omega) (by omega)
    have v2 := hv ((4 + 7 * (u / 7) + u % 7 + 7 : Nat) : Int) (by omega) (by omega)
    have v3 := hv ((102 + 7 * (u / 7) + u % 7 : Nat) : Int) (by omega) (by omega)
    rw [i2, i1, i3, og_pos (by omega), og_pos (by omega)]
    by_cases a2 : now ((4 + 7 * (u / 7) + u % 7 : Nat) : Int) = now ((4 + 7 * (u / 7) + u % 7 + 7 : Nat) : Int)
    · rw [if_pos a2, og_pos (by omega), og_pos (by omega)]
      by_cases a3 : now ((102 + 7 * (u / 7) + u % 7 : Nat) : Int) = 0
      · rw [if_pos a3, if_pos (hj.mpr ⟨by omega, hc, a2, a3⟩)]
      · rw [if_neg a3, if_neg (fun hq => a3 (hj.mp hq).2.2.2)]
    · rw [if_neg a2, if_neg (fun hq => a2 (hj.mp hq).2.2.1)]
/-- a step of the reference within a rectangle -/
def EM (jr jb : BitVec 64) (t b l r : Nat) (u v : Nat) : Prop := EJ jr jb (eb u) (eb v) ∧ v < 49 ∧ t ≤ v / 7 ∧ v / 7 ≤ b ∧ l ≤ v % 7 ∧ v % 7 ≤ r
/-- a cell is put behind the queue, if it isn't marked -/
def psh (id : Int) (v : Int) (ok : Bool) (st : Int × (Int → Int) × (Int → Int)) : Int × (Int → Int) × (Int → Int) := if ok = true ∧ st.2.2 v < 0 then (st.1 + 1, upi st.2.1 st.1 v, upi st.2.2 v id) else st
theorem psh_t {id v : Int} {ok : Bool} {st : Int × (Int → Int) × (Int → Int)} (h1 : ok = true) (h2 : st.2.2 v < 0) : psh id v ok st = (st.1 + 1, upi st.2.1 st.1 v, upi st.2.2 v id) := if_pos ⟨h1, h2⟩
theorem psh_f {id v : Int} {ok : Bool} {st : Int × (Int → Int) × (Int → Int)} (h : ¬ (ok = true ∧ st.2.2 v < 0)) : psh id v ok st = st := if_neg h
/-- which way goes where -/
def wto (u : Nat) (w : Nat) : Int := if w = 0 then (u : Int) + 1 else if w = 1 then (u : Int) + 7 else if w = 2 then (u : Int) - 1 else (u : Int) - 7
def wok (jr jb : BitVec 64) (t b l r u w : Nat) : Bool := if w = 0 then decide (u % 7 < r) && jr.getLsbD (eb u) else if w = 1 then decide (u / 7 < b) && jb.getLsbD (eb u) else if w = 2 then decide (l < u % 7) && jr.getLsbD (eb (u - 1)) else decide (t < u / 7) && jb.getLsbD (eb (u - 7))
theorem mo_step0 {N : Nat} : f_mo_step N 0 = some 1 := by
  unfold f_mo_step
  rw [og_pos (by decide), if_pos rfl]
theorem mo_step1 {N : Nat} : f_mo_step N 1 = some 7 := by
  unfold f_mo_step
  rw [og_pos (by decide), if_neg (by decide)]
theorem spread_way {N R C : Nat} {now : Int → Int} {jr jb : BitVec 64} (h : MD now R C jr jb) {t b l r : Nat} (hb : b < R) (hr : r < C) {u : Nat} (hu : u < 49) (hut : t ≤ u / 7 ∧ u / 7 ≤ b ∧ l ≤ u % 7 ∧ u % 7 ≤ r) {id k : Int} (k17 : Int → Int → (Int → Int) → (Int → Int) → Option (Int × (Int → Int) × (Int → Int))) {w : Nat} (hw : w < 4) {st : Int × (Int → Int) × (Int → Int)} (hx : ∀ j : Int, 0 ≤ j → j < 49 → xR (st.2.2 j)) (hm : wok jr jb t b l r u w = true → st.2.2 (wto u w) < 0 → 0 ≤ st.1 ∧ st.1 < 49) (n : Nat) :
    f_mo_spread_36 N id k u t b l r now k17 (n + 1) st.1 w st.2.1 st.2.2 = f_mo_spread_36 N id k u t b l r now k17 n (psh id (wto u w) (wok jr jb t b l r u w) st).1 ((w : Int) + 1) (psh id (wto u w) (wok jr jb t b l r u w) st).2.1 (psh id (wto u w) (wok jr jb t b l r u w) st).2.2 := by
  have hq : w = 0 ∨ w = 1 ∨ w = 2 ∨ w = 3 := by omega
  have hb7 := h.2.2.1
  rcases hq with rfl | rfl | rfl | rfl
  · have e0 : wto u 0 = (u : Int) + 1 := rfl
    have e1 : wok jr jb t b l r u 0 = (decide (u % 7 < r) && jr.getLsbD (eb u)) := rfl
    have e2 : ((0 : Nat) : Int) % 2 = 0 := rfl
    rw [e0, e1] at hm ⊢
    rw [f_mo_spread_36.eq_2, og_pos (by omega), if_neg (by omega), og_pos (by omega), bd_some, e2]
    rw [if_neg (by omega), mo_step0, bd_some, bd_some]
    rw [if_pos (by omega)]
    rw [og_pos (by omega), og_pos (by omega), og_pos (by omega)]
    by_cases hf : (r : Int) ≤ (u : Int) % 7
    · rw [if_pos hf, bd_some, og_pos (by decide), if_pos rfl, bd_some]
      rw [psh_f (fun hq => by have := hq.1; simp at this; omega)]
    · rw [if_neg hf, bd_some, og_pos (by decide), if_neg (by decide)]
      rw [if_neg (by omega), bd_some]
      have hJ := mo_joins0 (N := N) h (u := u) (by omega) (by omega)
      rw [hJ, bd_some]
      by_cases hj : jr.getLsbD (eb u) = true
      · rw [if_pos hj, og_pos (by decide), if_neg (by decide), og_pos (by omega), og_pos (hx _ (by omega) (by omega))]
        by_cases hk : 0 ≤ st.2.2 ((u : Int) + 1)
        · rw [if_pos hk, bd_some, bd_some]
          rw [psh_f (fun hq => by have := hq.2; omega)]
        · have hok : (decide (u % 7 < r) && jr.getLsbD (eb u)) = true := by rw [hj]; simp; omega
          rw [if_neg hk, bd_some, og_pos (hm hok (by omega)), bd_some, bd_some, bd_some, bd_some]
          rw [psh_t hok (by omega)]
      · rw [if_neg hj, og_pos (by decide), if_pos rfl, bd_some, bd_some]
        rw [psh_f (fun hq => by have := hq.1; simp at this; exact hj this.2)]
  · have e0 : wto u 1 = (u : Int) + 7 := rfl
    have e1 : wok jr jb t b l r u 1 = (decide (u / 7 < b) && jb.getLsbD (eb u)) := rfl
    have e2 : ((1 : Nat) : Int) % 2 = 1 := rfl
    rw [e0, e1] at hm ⊢
    rw [f_mo_spread_36.eq_2, og_pos (by omega), if_neg (by omega), og_pos (by omega), bd_some, e2]
    rw [if_neg (by omega), mo_step1, bd_some, bd_some]
    rw [if_neg (by omega)]
    rw [if_pos (by omega)]
    rw [og_pos (by omega), og_pos (by omega), og_pos (by omega)]
    by_cases hf : (b : Int) ≤ (u : Int) / 7
    · rw [if_pos hf, bd_some, og_pos (by decide), if_pos rfl, bd_some]
      rw [psh_f (fun hq => by have := hq.1; simp at this; omega)]
    · rw [if_neg hf, bd_some, og_pos (by decide), if_neg (by decide)]
      rw [if_neg (by omega), bd_some]
      have hJ := mo_joins1 (N := N) h (u := u) (by omega) (by omega)
      rw [hJ, bd_some]
      by_cases hj : jb.getLsbD (eb u) = true
      · rw [if_pos hj, og_pos (by decide), if_neg (by decide), og_pos (by omega), og_pos (hx _ (by omega) (by omega))]
        by_cases hk : 0 ≤ st.2.2 ((u : Int) + 7)
        · rw [if_pos hk, bd_some, bd_some]
          rw [psh_f (fun hq => by have := hq.2; omega)]
        · have hok : (decide (u / 7 < b) && jb.getLsbD (eb u)) = true := by rw [hj]; simp; omega
          rw [if_neg hk, bd_some, og_pos (hm hok (by omega)), bd_some, bd_some, bd_some, bd_some]
          rw [psh_t hok (by omega)]
      · rw [if_neg hj, og_pos (by decide), if_pos rfl, bd_some, bd_some]
        rw [psh_f (fun hq => by have := hq.1; simp at this; exact hj this.2)]
  · have e0 : wto u 2 = (u : Int) - 1 := rfl
    have e1 : wok jr jb t b l r u 2 = (decide (l < u % 7) && jr.getLsbD (eb (u - 1))) := rfl
    have e2 : ((2 : Nat) : Int) % 2 = 0 := rfl
    rw [e0, e1] at hm ⊢
    rw [f_mo_spread_36.eq_2, og_pos (by omega), if_neg (by omega), og_pos (by omega), bd_some, e2]
    rw [if_pos (by omega), mo_step0, bd_some, bd_some]
    rw [if_neg (by omega)]
    rw [if_neg (by omega)]
    rw [if_pos (by omega)]
    rw [og_pos (by omega), og_pos (by omega), og_pos (by omega)]
    by_cases hf : (u : Int) % 7 ≤ (l : Int)
    · rw [if_pos hf, bd_some, og_pos (by decide), if_pos rfl, bd_some]
      rw [psh_f (fun hq => by have := hq.1; simp at this; omega)]
    · rw [if_neg hf, bd_some, og_pos (by decide), if_neg (by decide)]
      rw [if_pos (by omega), bd_some]
      have hcast : (u : Int) - 1 = ((u - 1 : Nat) : Int) := by omega
      have hJ := mo_joins0 (N := N) h (u := u - 1) (by omega) (by omega)
      rw [← hcast] at hJ
      rw [hJ, bd_some]
      by_cases hj : jr.getLsbD (eb (u - 1)) = true
      · rw [if_pos hj, og_pos (by decide), if_neg (by decide), og_pos (by omega), og_pos (hx _ (by omega) (by omega))]
        by_cases hk : 0 ≤ st.2.2 ((u : Int) - 1)
        · rw [if_pos hk, bd_some, bd_some]
          rw [psh_f (fun hq => by have := hq.2; omega)]
        · have hok : (decide (l < u % 7) && jr.getLsbD (eb (u - 1))) = true := by rw [hj]; simp; omega
          rw [if_neg hk, bd_some, og_pos (hm hok (by omega)), bd_some, bd_some, bd_some, bd_some]
          rw [psh_t hok (by omega)]
      · rw [if_neg hj, og_pos (by decide), if_pos rfl, bd_some, bd_some]
        rw [psh_f (fun hq => by have := hq.1; simp at this; exact hj this.2)]
  · have e0 : wto u 3 = (u : Int) - 7 := rfl
    have e1 : wok jr jb t b l r u 3 = (decide (t < u / 7) && jb.getLsbD (eb (u - 7))) := rfl
    have e2 : ((3 : Nat) : Int) % 2 = 1 := rfl
    rw [e0, e1] at hm ⊢
    rw [f_mo_spread_36.eq_2, og_pos (by omega), if_neg (by omega), og_pos (by omega), bd_some, e2]
    rw [if_pos (by omega), mo_step1, bd_some, bd_some]
    rw [if_neg (by omega)]
    rw [if_neg (by omega)]
    rw [if_neg (by omega)]
    rw [og_pos (by omega), og_pos (by omega), og_pos (by omega)]
    by_cases hf : (u : Int) / 7 ≤ (t : Int)
    · rw [if_pos hf, bd_some, og_pos (by decide), if_pos rfl, bd_some]
      rw [psh_f (fun hq => by have := hq.1; simp at this; omega)]
    · rw [if_neg hf, bd_some, og_pos (by decide), if_neg (by decide)]
      rw [if_pos (by omega), bd_some]
      have hcast : (u : Int) - 7 = ((u - 7 : Nat) : Int) := by omega
      have hJ := mo_joins1 (N := N) h (u := u - 7) (by omega) (by omega)
      rw [← hcast] at hJ
      rw [hJ, bd_some]
      by_cases hj : jb.getLsbD (eb (u - 7)) = true
      · rw [if_pos hj, og_pos (by decide), if_neg (by decide), og_pos (by omega), og_pos (hx _ (by omega) (by omega))]
        by_cases hk : 0 ≤ st.2.2 ((u : Int) - 7)
        · rw [if_pos hk, bd_some, bd_some]
          rw [psh_f (fun hq => by have := hq.2; omega)]
        · have hok : (decide (t < u / 7) && jb.getLsbD (eb (u - 7))) = true := by rw [hj]; simp; omega
          rw [if_neg hk, bd_some, og_pos (hm hok (by omega)), bd_some, bd_some, bd_some, bd_some]
          rw [psh_t hok (by omega)]
      · rw [if_neg hj, og_pos (by decide), if_pos rfl, bd_some, bd_some]
        rw [psh_f (fun hq => by have := hq.1; simp at this; exact hj this.2)]
