/-! ===== PURE: small things ===== -/
theorem bd_some {α β : Type} (a : α) (f : α → Option β) : Option.bind (some a) f = f a := rfl
theorem upi_s {α : Type} (f : Int → α) (i : Int) (x : α) : upi f i x i = x := if_pos rfl
theorem upi_n {α : Type} (f : Int → α) {i j : Int} (x : α) (h : j ≠ i) : upi f i x j = f j := if_neg h
theorem gl_ext {x y : BitVec 64} (h : ∀ i, i < 64 → x.getLsbD i = y.getLsbD i) : x = y := BitVec.eq_of_getLsbD_eq h
theorem gl_big {x : BitVec 64} {i : Nat} (h : 64 ≤ i) : x.getLsbD i = false := BitVec.getLsbD_of_ge x i h
theorem gl_lt {x : BitVec 64} {i : Nat} (h : x.getLsbD i = true) : i < 64 := BitVec.lt_of_getLsbD h
theorem gl_and (x y : BitVec 64) (i : Nat) : (x &&& y).getLsbD i = (x.getLsbD i && y.getLsbD i) := BitVec.getLsbD_and
theorem gl_or (x y : BitVec 64) (i : Nat) : (x ||| y).getLsbD i = (x.getLsbD i || y.getLsbD i) := BitVec.getLsbD_or
theorem gl_xor (x y : BitVec 64) (i : Nat) : (x ^^^ y).getLsbD i = (x.getLsbD i ^^ y.getLsbD i) := BitVec.getLsbD_xor
theorem gl_ones {i : Nat} (h : i < 64) : (18446744073709551615#64).getLsbD i = true := by
  have : 18446744073709551615#64 = BitVec.allOnes 64 := by decide
  rw [this, BitVec.getLsbD_allOnes]
  exact decide_eq_true h
theorem gl_not (x : BitVec 64) {i : Nat} (h : i < 64) : (x ^^^ 18446744073709551615#64).getLsbD i = !x.getLsbD i := by
  rw [gl_xor, gl_ones h]; cases x.getLsbD i <;> rfl
theorem gl_zero (i : Nat) : (0#64).getLsbD i = false := BitVec.getLsbD_zero
theorem gl_shl (x : BitVec 64) (k i : Nat) : (x <<< k).getLsbD i = (decide (i < 64) && (decide (k ≤ i) && x.getLsbD (i - k))) := by
  rw [BitVec.getLsbD_shiftLeft]
  by_cases h : i < k
  · simp [h, show ¬ k ≤ i by omega]
  · simp [h, show k ≤ i by omega]
theorem gl_shr (x : BitVec 64) (k i : Nat) : (x >>> k).getLsbD i = x.getLsbD (i + k) := by
  rw [BitVec.getLsbD_ushiftRight, Nat.add_comm]
theorem gl_one {k : Nat} (hk : k < 64) (i : Nat) : (1#64 <<< k).getLsbD i = decide (i = k) := by
  rw [gl_shl]
  by_cases h : i = k
  · subst h
    simp [hk]
  · by_cases h2 : k ≤ i
    · have : (1#64).getLsbD (i - k) = false := by
        rw [BitVec.getLsbD_one]
        simp; omega
      simp [h, this]
    · simp [h, h2]
theorem gl_ne {x : BitVec 64} : ¬ x = 0#64 ↔ ∃ i, i < 64 ∧ x.getLsbD i = true := by
  constructor
  · intro h
    apply Classical.byContradiction
    intro hn
    apply h
    apply gl_ext
    intro i hi
    rw [gl_zero]
    cases hx : x.getLsbD i with
    | false => rfl
    | true => exact absurd ⟨i, hi, hx⟩ hn
  · rintro ⟨i, hi, hx⟩ h
    rw [h, gl_zero] at hx
    cases hx
theorem gl_mask : ∀ k : Fin 64, ∀ i : Fin 64, ((1#64 <<< k.val) - 1#64).getLsbD i.val = decide (i.val < k.val) := by decide +kernel
/-! the first bit -/
def isF (x : BitVec 64) (i : Nat) : Prop := x.getLsbD i = true ∧ ∀ j, j < i → x.getLsbD j = false
theorem isF_ex {x : BitVec 64} (h : ¬ x = 0#64) : ∃ i, i < 64 ∧ isF x i := by
  obtain ⟨i, hi, hx⟩ := gl_ne.mp h
  obtain ⟨k, hk, hm⟩ := pk_least (fun i => x.getLsbD i = true) ⟨i, hx⟩
  exact ⟨k, gl_lt hk, hk, fun j hj => by
    have := hm j hj
    simpa using this⟩
theorem first_bit {x : BitVec 64} {i : Nat} (h : isF x i) : x &&& (-x) = 1#64 <<< i := by
  have hi := gl_lt h.1
  apply gl_ext
  intro j hj
  rw [gl_and, BitVec.getLsbD_neg, gl_one hi]
  by_cases hji : j = i
  · subst hji
    have hn : ¬ ∃ k, k < j ∧ x.getLsbD k = true := by
      rintro ⟨k, hk, hx⟩
      rw [h.2 k hk] at hx
      cases hx
    rw [h.1, decide_eq_true hj, decide_eq_false hn]
    simp
  · by_cases hlt : j < i
    · simp [h.2 j hlt, hji]
    · have : ∃ k, k < j ∧ x.getLsbD k = true := ⟨i, by omega, h.1⟩
      cases hx : x.getLsbD j with
      | false => simp [hji]
      | true => simp [hji, hj, this]
theorem f_first {N : Nat} {x : BitVec 64} {i : Nat} (h : isF x i) : f_ce_first N x = some (1#64 <<< i) := by
  unfold f_ce_first
  rw [first_bit h]
/-! counting -/
theorem cntB_0 (p : Nat → Bool) : cntB p 0 = 0 := rfl
theorem cntB_s (p : Nat → Bool) (n : Nat) : cntB p (n + 1) = cntB p n + (if p n then 1 else 0) := rfl
theorem cntB_nn (p : Nat → Bool) : ∀ n : Nat, 0 ≤ cntB p n ∧ cntB p n ≤ n
  | 0 => ⟨Int.le_refl _, Int.le_refl _⟩
  | n + 1 => by
    have h := cntB_nn p n
    rw [cntB_s]
    split <;> omega
theorem cntB_f {p : Nat → Bool} : ∀ {n : Nat}, (∀ i, i < n → p i = false) → cntB p n = 0
  | 0, _ => rfl
  | n + 1, h => by
    rw [cntB_s, cntB_f (fun i hi => h i (by omega)), h n (by omega)]
    rfl
theorem cntB_z {p : Nat → Bool} : ∀ {n : Nat}, cntB p n = 0 → ∀ i, i < n → p i = false
  | 0, _, i, hi => by omega
  | n + 1, h, i, hi => by
    rw [cntB_s] at h
    have h1 := cntB_nn p n
    cases hp : p n with
    | true => rw [hp] at h; simp at h; omega
    | false =>
      rw [hp] at h
      by_cases hin : i = n
      · rw [hin]; exact hp
      · exact cntB_z (by simpa using h) i (by omega)
theorem cntB_le {p q : Nat → Bool} : ∀ {n : Nat}, (∀ i, i < n → p i = true → q i = true) → cntB p n ≤ cntB q n
  | 0, _ => Int.le_refl _
  | n + 1, h => by
    have h1 := cntB_le (n := n) (fun i hi => h i (by omega))
    have h2 := h n (by omega)
    rw [cntB_s, cntB_s]
    cases hp : p n with
    | false =>
      cases hq : q n <;> simp <;> omega
    | true =>
      rw [h2 hp]; simp; omega
theorem cntB_lt {p q : Nat → Bool} {k : Nat} : ∀ {n : Nat}, (∀ i, i < n → p i = true → q i = true) → k < n → p k = false → q k = true → cntB p n + 1 ≤ cntB q n
  | 0, _, hk, _, _ => by omega
  | n + 1, h, hk, hp, hq => by
    rw [cntB_s, cntB_s]
    by_cases hkn : k = n
    · subst hkn
      have h1 := cntB_le (n := k) (fun i hi => h i (by omega))
      rw [hp, hq]; simp; omega
    · have h1 := cntB_lt (n := n) (fun i hi => h i (by omega)) (by omega) hp hq
      have h2 := h n (by omega)
      cases hp2 : p n with
      | false => cases hq2 : q n <;> simp <;> omega
      | true => rw [h2 hp2]; simp; omega
theorem popc_nn (x : BitVec 64) : 0 ≤ popc x ∧ popc x ≤ 64 := by
  have := cntB_nn x.getLsbD 64
  unfold popc; omega
theorem popc_0 : popc 0#64 = 0 := cntB_f (fun i _ => gl_zero i)
theorem popc_zero {x : BitVec 64} : popc x = 0 ↔ x = 0#64 := by
  constructor
  · intro h
    apply gl_ext
    intro i hi
    rw [gl_zero]
    exact cntB_z h i hi
  · intro h; rw [h]; exact popc_0
/-- the bits of the seven by seven cells -/
def gd (i : Nat) : Bool := decide (i % 8 < 7) && decide (i / 8 < 7)
def Grid (x : BitVec 64) : Prop := ∀ i, x.getLsbD i = true → gd i = true
theorem gd_cnt : cntB gd 64 = 49 := by decide +kernel
theorem Grid.le {x : BitVec 64} (h : Grid x) : popc x ≤ 49 := by
  rw [← gd_cnt]
  exact cntB_le (fun i _ hx => h i hx)
theorem Grid.and {x y : BitVec 64} (h : Grid y) : Grid (x &&& y) := fun i hx => by
  rw [gl_and] at hx
  exact h i (by simp at hx; exact hx.2)
theorem Grid.sub {x y : BitVec 64} (h : Grid y) (hs : ∀ i, x.getLsbD i = true → y.getLsbD i = true) : Grid x := fun i hx => h i (hs i hx)
