/-! ===== PURE: what can be reached ===== -/
/-- the least set with a start that is closed under steps -/
def Rch (E : Nat → Nat → Prop) (S : Nat → Prop) (b : Nat) : Prop := ∀ T : Nat → Prop, (∀ a, S a → T a) → (∀ x y, T x → E x y → T y) → T b
theorem Rch.start {E : Nat → Nat → Prop} {S : Nat → Prop} {a : Nat} (h : S a) : Rch E S a := fun _ h1 _ => h1 a h
theorem Rch.step {E : Nat → Nat → Prop} {S : Nat → Prop} {a b : Nat} (h : Rch E S a) (hE : E a b) : Rch E S b := fun T h1 h2 => h2 a b (h T h1 h2) hE
theorem Rch.ind {E : Nat → Nat → Prop} {S : Nat → Prop} {b : Nat} (h : Rch E S b) (T : Nat → Prop) (h1 : ∀ a, S a → T a) (h2 : ∀ x y, Rch E S x → T x → E x y → T y) : T b :=
  (h (fun z => Rch E S z ∧ T z) (fun a ha => ⟨Rch.start ha, h1 a ha⟩) (fun x y hx hE => ⟨hx.1.step hE, h2 x y hx.1 hx.2 hE⟩)).2
theorem Rch.mono {E E' : Nat → Nat → Prop} {S S' : Nat → Prop} {b : Nat} (h : Rch E S b) (hS : ∀ a, S a → Rch E' S' a) (hE : ∀ x y, Rch E S x → E x y → E' x y) : Rch E' S' b :=
  h.ind (Rch E' S') hS (fun x y hx ht he => ht.step (hE x y hx he))
/-- the component's loop: a set grows by G until it stays; G takes one step within a set -/
theorem grow {F : Nat → BitVec 64 → Int → Option (BitVec 64)} {G : BitVec 64 → BitVec 64} {E : Nat → Nat → Prop} {S : Nat → Prop}
    (hF : ∀ n x i, 0 ≤ i → i < 49 → F (n + 1) x i = if G x = x then some x else F n (G x) (i + 1))
    (hG : ∀ x i, (G x).getLsbD i = true ↔ (x.getLsbD i = true ∨ ∃ j, x.getLsbD j = true ∧ E j i) ∧ S i)
    (hgrid : ∀ i, S i → gd i = true) :
    ∀ (n : Nat) (x : BitVec 64) (i : Nat) (A : Nat → Prop), i ≤ 49 → 49 - i < n → (∀ j, x.getLsbD j = true → S j) → ((popc x = 0 ∧ i = 0) ∨ (i : Int) < popc x) → (∀ j, x.getLsbD j = true → Rch (fun a b => E a b ∧ S b) A j) → (∀ j, A j → x.getLsbD j = true) →
      ∃ r, F n x i = some r ∧ ∀ j, r.getLsbD j = true ↔ Rch (fun a b => E a b ∧ S b) A j := by
  intro n
  induction n with
  | zero => intro x i A hi hn; omega
  | succ n ih =>
    intro x i A hi hn hS hp hR hA
    have hG1 : Grid x := fun j hj => hgrid j (hS j hj)
    have hle := hG1.le
    by_cases h49 : i = 49
    · omega
    · rw [hF n x i (by omega) (by omega)]
      by_cases hst : G x = x
      · rw [if_pos hst]
        refine ⟨x, rfl, fun j => ⟨hR j, fun h => ?_⟩⟩
        refine h.ind (fun z => x.getLsbD z = true) hA (fun a b _ ha hE => ?_)
        have := (hG x b).mpr ⟨Or.inr ⟨a, ha, hE.1⟩, hE.2⟩
        rw [hst] at this
        exact this
      · rw [if_neg hst]
        have hsub : ∀ j, x.getLsbD j = true → (G x).getLsbD j = true := fun j hj => (hG x j).mpr ⟨Or.inl hj, hS j hj⟩
        have hnew : ∃ j, j < 64 ∧ x.getLsbD j = false ∧ (G x).getLsbD j = true := by
          apply Classical.byContradiction
          intro hne
          apply hst
          apply gl_ext
          intro j hj
          cases hx : x.getLsbD j with
          | true => exact hsub j hx
          | false =>
            cases hg : (G x).getLsbD j with
            | false => rfl
            | true => exact absurd ⟨j, hj, hx, hg⟩ hne
        obtain ⟨j0, hj0, hx0, hg0⟩ := hnew
        have hcnt : popc x + 1 ≤ popc (G x) := cntB_lt (fun i _ => hsub i) hj0 hx0 hg0
        have hpos : popc x ≠ 0 := by
          intro h0
          have hz := popc_zero.mp h0
          obtain ⟨h1, -⟩ := (hG x j0).mp hg0
          rcases h1 with h1 | ⟨j, h1, -⟩
          · rw [hz, gl_zero] at h1; cases h1
          · rw [hz, gl_zero] at h1; cases h1
        have hi1 : ((i + 1 : Nat) : Int) = (i : Int) + 1 := by omega
        rw [← hi1]
        refine ih (G x) (i + 1) A (by omega) (by omega) (fun j hj => ((hG x j).mp hj).2) (Or.inr (by omega)) (fun j hj => ?_) (fun j hj => hsub j (hA j hj))
        obtain ⟨h1, h2⟩ := (hG x j).mp hj
        rcases h1 with h1 | ⟨a, h1, h3⟩
        · exact hR j h1
        · exact (hR a h1).step ⟨h3, h2⟩
/-- steps over joined neighbours; steps over sides and corners -/
def EJ (jr jb : BitVec 64) (a b : Nat) : Prop := (b = a + 1 ∧ jr.getLsbD a = true) ∨ (a = b + 1 ∧ jr.getLsbD b = true) ∨ (b = a + 8 ∧ jb.getLsbD a = true) ∨ (a = b + 8 ∧ jb.getLsbD b = true)
theorem EJ.symm {jr jb : BitVec 64} {a b : Nat} (h : EJ jr jb a b) : EJ jr jb b a := by
  rcases h with h | h | h | h
  · exact Or.inr (Or.inl h)
  · exact Or.inl h
  · exact Or.inr (Or.inr (Or.inr h))
  · exact Or.inr (Or.inr (Or.inl h))
def gF (jr jb part x : BitVec 64) : BitVec 64 := ((((x ||| ((x &&& jr) <<< 1)) ||| ((x >>> 1) &&& jr)) ||| ((x &&& jb) <<< 8)) ||| ((x >>> 8) &&& jb)) &&& part
theorem gF_bit (jr jb part x : BitVec 64) (i : Nat) : (gF jr jb part x).getLsbD i = true ↔ (x.getLsbD i = true ∨ ∃ j, x.getLsbD j = true ∧ EJ jr jb j i) ∧ part.getLsbD i = true := by
  unfold gF EJ
  simp only [gl_and, gl_or, gl_shl, gl_shr, Bool.and_eq_true, Bool.or_eq_true, decide_eq_true_eq]
  constructor
  · rintro ⟨h, hp⟩
    refine ⟨?_, hp⟩
    rcases h with (((h | ⟨-, h1, h2, h3⟩) | ⟨h1, h2⟩) | ⟨-, h1, h2, h3⟩) | ⟨h1, h2⟩
    · exact Or.inl h
    · exact Or.inr ⟨i - 1, h2, Or.inl ⟨by omega, h3⟩⟩
    · exact Or.inr ⟨i + 1, h1, Or.inr (Or.inl ⟨rfl, h2⟩)⟩
    · exact Or.inr ⟨i - 8, h2, Or.inr (Or.inr (Or.inl ⟨by omega, h3⟩))⟩
    · exact Or.inr ⟨i + 8, h1, Or.inr (Or.inr (Or.inr ⟨rfl, h2⟩))⟩
  · rintro ⟨h, hp⟩
    have h64 := gl_lt hp
    refine ⟨?_, hp⟩
    rcases h with h | ⟨j, hj, ⟨h1, h2⟩ | ⟨h1, h2⟩ | ⟨h1, h2⟩ | ⟨h1, h2⟩⟩
    · exact Or.inl (Or.inl (Or.inl (Or.inl h)))
    · subst h1
      exact Or.inl (Or.inl (Or.inl (Or.inr ⟨h64, by omega, by simpa using hj, by simpa using h2⟩)))
    · subst h1
      exact Or.inl (Or.inl (Or.inr ⟨hj, h2⟩))
    · subst h1
      exact Or.inl (Or.inr ⟨h64, by omega, by simpa using hj, by simpa using h2⟩)
    · subst h1
      exact Or.inr ⟨hj, h2⟩
theorem f_fragment {N : Nat} (hN : 4000 ≤ N) {start part jr jb : BitVec 64} {s : Nat} (hs : start = 1#64 <<< s) (hp : part.getLsbD s = true) (hg : Grid part) :
    ∃ r, f_pa_fragment N start part jr jb = some r ∧ ∀ j, r.getLsbD j = true ↔ Rch (fun a b => EJ jr jb a b ∧ part.getLsbD b = true) (fun a => a = s) j := by
  have hs64 := gl_lt hp
  unfold f_pa_fragment
  refine grow (F := f_pa_fragment_6 N part jr jb) (G := gF jr jb part) (E := EJ jr jb) (S := fun i => part.getLsbD i = true) ?_ (gF_bit jr jb part) hg N start 0 (fun a => a = s) (by omega) (by omega) ?_ ?_ ?_ ?_
  · intro n x i h1 h2
    rw [f_pa_fragment_6.eq_2, og_pos (by omega), if_neg (by omega), bd_some, bd_some]
    show (if gF jr jb part x = x then some x else _) = _
    rfl
  · intro j hj
    rw [hs, gl_one hs64] at hj
    simp at hj
    rw [hj]; exact hp
  · right
    have : (1#64 <<< s).getLsbD s = true := by rw [gl_one hs64]; simp
    have h0 : popc start ≠ 0 := by
      intro h
      rw [popc_zero] at h
      rw [hs] at h
      rw [h, gl_zero] at this
      cases this
    have := popc_nn start
    omega
  · intro j hj
    rw [hs, gl_one hs64] at hj
    simp at hj
    exact Rch.start hj
  · intro j hj
    rw [hs, gl_one hs64, hj]; simp
def EK (a b : Nat) : Prop := b = a + 1 ∨ a = b + 1 ∨ b = a + 8 ∨ a = b + 8 ∨ b = a + 7 ∨ a = b + 7 ∨ b = a + 9 ∨ a = b + 9
theorem EK.symm {a b : Nat} (h : EK a b) : EK b a := by unfold EK at h ⊢; omega
def gW (x : BitVec 64) : BitVec 64 := (x ||| (x <<< 1)) ||| (x >>> 1)
def gK (set x : BitVec 64) : BitVec 64 := ((gW x ||| (gW x <<< 8)) ||| (gW x >>> 8)) &&& set
theorem gW_bit (x : BitVec 64) (i : Nat) : (gW x).getLsbD i = true ↔ x.getLsbD i = true ∨ (i < 64 ∧ 1 ≤ i ∧ x.getLsbD (i - 1) = true) ∨ x.getLsbD (i + 1) = true := by
  unfold gW
  simp only [gl_or, gl_shl, gl_shr, Bool.and_eq_true, Bool.or_eq_true, decide_eq_true_eq, or_assoc]
theorem gd_lt {i : Nat} (h : gd i = true) : i % 8 < 7 ∧ i / 8 < 7 ∧ i ≤ 54 := by
  unfold gd at h
  simp at h
  omega
theorem gK_bit {set : BitVec 64} (hg : Grid set) (x : BitVec 64) (i : Nat) : (gK set x).getLsbD i = true ↔ (x.getLsbD i = true ∨ ∃ j, x.getLsbD j = true ∧ EK j i) ∧ set.getLsbD i = true := by
  unfold gK
  simp only [gl_and, gl_or, gl_shl, gl_shr, Bool.and_eq_true, Bool.or_eq_true, decide_eq_true_eq, gW_bit]
  constructor
  · rintro ⟨h, hp⟩
    refine ⟨?_, hp⟩
    unfold EK
    rcases h with (h | ⟨-, h8, h⟩) | h
    · rcases h with h | ⟨-, h1, h⟩ | h
      · exact Or.inl h
      · exact Or.inr ⟨_, h, by omega⟩
      · exact Or.inr ⟨_, h, by omega⟩
    · rcases h with h | ⟨-, h1, h⟩ | h
      · exact Or.inr ⟨_, h, by omega⟩
      · exact Or.inr ⟨_, h, by omega⟩
      · exact Or.inr ⟨_, h, by omega⟩
    · rcases h with h | ⟨-, h1, h⟩ | h
      · exact Or.inr ⟨_, h, by omega⟩
      · exact Or.inr ⟨_, h, by omega⟩
      · exact Or.inr ⟨_, h, by omega⟩
  · rintro ⟨h, hp⟩
    have hi := gd_lt (hg i hp)
    refine ⟨?_, hp⟩
    rcases h with h | ⟨j, hj, h | h | h | h | h | h | h | h⟩
    · exact Or.inl (Or.inl (Or.inl h))
    · exact Or.inl (Or.inl (Or.inr (Or.inl ⟨by omega, by omega, by rw [show i - 1 = j by omega]; exact hj⟩)))
    · exact Or.inl (Or.inl (Or.inr (Or.inr (by rw [← h]; exact hj))))
    · exact Or.inl (Or.inr ⟨by omega, by omega, Or.inl (by rw [show i - 8 = j by omega]; exact hj)⟩)
    · exact Or.inr (Or.inl (by rw [← h]; exact hj))
    · by_cases h8 : 8 ≤ i
      · exact Or.inl (Or.inr ⟨by omega, h8, Or.inr (Or.inr (by rw [show i - 8 + 1 = j by omega]; exact hj))⟩)
      · have := hi.1; omega
    · exact Or.inr (Or.inr (Or.inl ⟨by omega, by omega, by rw [show i + 8 - 1 = j by omega]; exact hj⟩))
    · exact Or.inl (Or.inr ⟨by omega, by omega, Or.inr (Or.inl ⟨by omega, by omega, by rw [show i - 8 - 1 = j by omega]; exact hj⟩)⟩)
    · exact Or.inr (Or.inr (Or.inr (by rw [show i + 8 + 1 = j by omega]; exact hj)))
theorem f_connected {N : Nat} (hN : 4000 ≤ N) {start set : BitVec 64} (hs : ∀ i, start.getLsbD i = true → set.getLsbD i = true) (hg : Grid set) :
    ∃ r, f_ce_connected N start set = some r ∧ ∀ j, r.getLsbD j = true ↔ Rch (fun a b => EK a b ∧ set.getLsbD b = true) (fun a => start.getLsbD a = true) j := by
  unfold f_ce_connected
  refine grow (F := f_ce_connected_6 N set) (G := gK set) (E := EK) (S := fun i => set.getLsbD i = true) ?_ (gK_bit hg) hg N start 0 (fun a => start.getLsbD a = true) (by omega) (by omega) hs ?_ (fun j hj => Rch.start hj) (fun j hj => hj)
  · intro n x i h1 h2
    rw [f_ce_connected_6.eq_2, og_pos (by omega), if_neg (by omega), bd_some, bd_some]
    show (if gK set x = x then some x else _) = _
    rfl
  · have := popc_nn start
    by_cases h : popc start = 0
    · exact Or.inl ⟨h, rfl⟩
    · right; omega
