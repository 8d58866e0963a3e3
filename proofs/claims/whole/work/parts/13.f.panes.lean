/-! ===== PURE: panes ===== -/
theorem Rch.trans {E : Nat → Nat → Prop} {S : Nat → Prop} {a b : Nat} (h1 : Rch E S a) (h2 : Rch E (fun z => z = a) b) : Rch E S b := h2.mono (fun z hz => by rw [hz]; exact h1) (fun _ _ _ hE => hE)
/-- steps that stay in a set -/
def EP (E : Nat → Nat → Prop) (S : BitVec 64) (a b : Nat) : Prop := E a b ∧ S.getLsbD b = true
theorem rch_in {E : Nat → Nat → Prop} {S : BitVec 64} {a b : Nat} (ha : S.getLsbD a = true) (h : Rch (EP E S) (fun z => z = a) b) : S.getLsbD b = true := h.ind (fun z => S.getLsbD z = true) (fun z hz => by rw [hz]; exact ha) (fun _ _ _ _ hE => hE.2)
theorem rch_symm {E : Nat → Nat → Prop} (hs : ∀ x y, E x y → E y x) {S : BitVec 64} {a b : Nat} (ha : S.getLsbD a = true) (h : Rch (EP E S) (fun z => z = a) b) : Rch (EP E S) (fun z => z = b) a := by
  refine h.ind (fun z => Rch (EP E S) (fun w => w = z) a) (fun z hz => by rw [hz]; exact Rch.start rfl) (fun x y hx hT hE => ?_)
  have hxS := rch_in ha hx
  have h1 : Rch (EP E S) (fun w => w = y) x := (Rch.start rfl : Rch (EP E S) (fun w => w = y) y).step ⟨hs _ _ hE.1, hxS⟩
  exact h1.trans hT
/-- the panes of a set of cells: numbered by their first cells -/
def GoodLab (E : Nat → Nat → Prop) (all : BitVec 64) (cnt : Nat) (S : Nat → Nat → Prop) : Prop :=
  (∀ i, i < cnt → ∃ f, S i f ∧ ∀ b, S i b → f ≤ b) ∧
  (∀ b, all.getLsbD b = true ↔ ∃ i, i < cnt ∧ S i b) ∧
  (∀ i, i < cnt → ∀ a b, S i a → (S i b ↔ Rch (EP E all) (fun z => z = a) b)) ∧
  (∀ i j a, i < cnt → j < cnt → S i a → S j a → i = j) ∧
  (∀ i j, i < j → j < cnt → ∃ f, S i f ∧ ∀ b, S j b → f < b)
theorem GoodLab.same {E : Nat → Nat → Prop} {all : BitVec 64} {cnt cnt' : Nat} {S S' : Nat → Nat → Prop} (h : GoodLab E all cnt S) (h' : GoodLab E all cnt' S') : ∀ i, i < cnt → i < cnt' ∧ ∀ b, S i b ↔ S' i b := by
  obtain ⟨a1, a2, a3, a4, a5⟩ := h
  obtain ⟨b1, b2, b3, b4, b5⟩ := h'
  intro i
  induction i using Nat.strongRecOn with
  | ind i ih =>
    intro hi
    obtain ⟨f, hf1, hf2⟩ := a1 i hi
    obtain ⟨i', hi1, hi2⟩ := (b2 f).mp ((a2 f).mpr ⟨i, hi, hf1⟩)
    have hii : i' = i := by
      rcases Nat.lt_trichotomy i' i with hlt | heq | hgt
      · obtain ⟨-, hs⟩ := ih i' hlt (by omega)
        exact a4 i' i f (by omega) hi ((hs f).mpr hi2) hf1
      · exact heq
      · exfalso
        obtain ⟨f', hf1', hf2'⟩ := b1 i (by omega)
        obtain ⟨g, hg1, hg2⟩ := b5 i i' hgt hi1
        have hlt : f' < f := Nat.lt_of_le_of_lt (hf2' g hg1) (hg2 f hi2)
        obtain ⟨k, hk1, hk2⟩ := (a2 f').mp ((b2 f').mpr ⟨i, by omega, hf1'⟩)
        rcases Nat.lt_trichotomy k i with h1 | h1 | h1
        · obtain ⟨-, hs⟩ := ih k h1 (by omega)
          have := b4 k i f' (by omega) (by omega) ((hs f').mp hk2) hf1'
          omega
        · subst h1
          have := hf2 f' hk2
          omega
        · obtain ⟨g2, hg3, hg4⟩ := a5 i k h1 hk1
          have := hf2 g2 hg3
          have := hg4 f' hk2
          omega
    subst hii
    exact ⟨hi1, fun b => by rw [a3 i' hi f b hf1, b3 i' hi1 f b hi2]⟩
theorem GoodLab.cnt {E : Nat → Nat → Prop} {all : BitVec 64} {cnt cnt' : Nat} {S S' : Nat → Nat → Prop} (h : GoodLab E all cnt S) (h' : GoodLab E all cnt' S') : cnt = cnt' := by
  rcases Nat.lt_trichotomy cnt cnt' with h1 | h1 | h1
  · have := (h'.same h cnt h1).1; omega
  · exact h1
  · have := (h.same h' cnt' h1).1; omega
/-- between: i panes are found, the rest is left -/
def FB (E : Nat → Nat → Prop) (all : BitVec 64) (i : Nat) (cells : Int → BitVec 64) (left : BitVec 64) : Prop :=
  (∀ j : Nat, j < i → ∃ f, isF (cells j) f ∧ (∀ b, left.getLsbD b = true → f < b) ∧ ∀ j' : Nat, j < j' → j' < i → ∀ b, (cells j').getLsbD b = true → f < b) ∧
  (∀ b, all.getLsbD b = true ↔ left.getLsbD b = true ∨ ∃ j : Nat, j < i ∧ (cells j).getLsbD b = true) ∧
  (∀ (j : Nat), j < i → ∀ a b, (cells j).getLsbD a = true → ((cells j).getLsbD b = true ↔ Rch (EP E all) (fun z => z = a) b)) ∧
  (∀ (j : Nat) b, j < i → (cells j).getLsbD b = true → left.getLsbD b = false) ∧
  (∀ (j j' : Nat) b, j < i → j' < i → (cells j).getLsbD b = true → (cells j').getLsbD b = true → j = j') ∧
  popc left + i ≤ 49
theorem FB.done {E : Nat → Nat → Prop} {all : BitVec 64} {i : Nat} {cells : Int → BitVec 64} (h : FB E all i cells 0#64) : GoodLab E all i (fun j b => (cells j).getLsbD b = true) := by
  obtain ⟨a1, a2, a3, a4, a5, a6⟩ := h
  refine ⟨fun j hj => ?_, fun b => ?_, a3, fun j j' a hj hj' h1 h2 => a5 j j' a hj hj' h1 h2, fun j j' hjj hj' => ?_⟩
  · obtain ⟨f, hf, -⟩ := a1 j hj
    refine ⟨f, hf.1, fun b hb => ?_⟩
    have hb : (cells j).getLsbD b = true := hb
    apply Classical.byContradiction
    intro hlt
    have := hf.2 b (by omega)
    rw [this] at hb; cases hb
  · rw [a2 b]
    constructor
    · rintro (h | h)
      · rw [gl_zero] at h; cases h
      · exact h
    · exact Or.inr
  · obtain ⟨f, hf, -, h3⟩ := a1 j (by omega)
    exact ⟨f, hf.1, h3 j' hjj hj'⟩
theorem FB.next {E : Nat → Nat → Prop} (hs : ∀ x y, E x y → E y x) {all : BitVec 64} {i : Nat} {cells : Int → BitVec 64} {left : BitVec 64} (h : FB E all i cells left) {f : Nat} (hf : isF left f) {r : BitVec 64} (hr : ∀ j, r.getLsbD j = true ↔ Rch (EP E all) (fun a => a = f) j) :
    FB E all (i + 1) (upi cells i r) (left &&& (r ^^^ 18446744073709551615#64)) := by
  obtain ⟨a1, a2, a3, a4, a5, a6⟩ := h
  have hfall : all.getLsbD f = true := (a2 f).mpr (Or.inl hf.1)
  have hup : ∀ j : Nat, j < i → upi cells i r (j : Int) = cells j := fun j hj => upi_n _ _ (by omega)
  have hui : upi cells i r (i : Int) = r := upi_s _ _ _
  have hnl : ∀ b, (left &&& (r ^^^ 18446744073709551615#64)).getLsbD b = true ↔ left.getLsbD b = true ∧ r.getLsbD b = false := by
    intro b
    rw [gl_and]
    by_cases hb : b < 64
    · rw [gl_not _ hb]; simp
    · rw [gl_big (x := left) (by omega)]; simp
  -- what is reached from the rest lies in the rest
  have hrl : ∀ b, r.getLsbD b = true → left.getLsbD b = true := by
    intro b hb
    have h1 := (hr b).mp hb
    rcases (a2 b).mp (rch_in hfall h1) with h2 | ⟨j, hj, h2⟩
    · exact h2
    · exfalso
      have h3 := (a3 j hj b f h2).mpr (rch_symm hs hfall h1)
      have := a4 j f hj h3
      rw [hf.1] at this; cases this
  refine ⟨?_, ?_, ?_, ?_, ?_, ?_⟩
  · intro j hj
    by_cases hji : j = i
    · subst hji
      refine ⟨f, ⟨by rw [hui]; exact (hr f).mpr (Rch.start rfl), fun k hk => ?_⟩, fun b hb => ?_, fun j' h1 h2 => by omega⟩
      · rw [hui]
        cases hrk : r.getLsbD k with
        | false => rfl
        | true =>
          have := hrl k hrk
          rw [hf.2 k hk] at this; cases this
      · obtain ⟨h1, h2⟩ := (hnl b).mp hb
        rcases Nat.lt_trichotomy b f with h3 | h3 | h3
        · rw [hf.2 b h3] at h1; cases h1
        · rw [h3, (hr f).mpr (Rch.start rfl)] at h2; cases h2
        · exact h3
    · obtain ⟨g, hg1, hg2, hg3⟩ := a1 j (by omega)
      refine ⟨g, by rw [hup j (by omega)]; exact hg1, fun b hb => hg2 b ((hnl b).mp hb).1, fun j' h1 h2 b hb => ?_⟩
      by_cases hj' : j' = i
      · subst hj'
        rw [hui] at hb
        exact hg2 b (hrl b hb)
      · rw [hup j' (by omega)] at hb
        exact hg3 j' h1 (by omega) b hb
  · intro b
    rw [a2 b, hnl b]
    constructor
    · rintro (h1 | ⟨j, hj, h1⟩)
      · cases hrb : r.getLsbD b with
        | false => exact Or.inl ⟨h1, rfl⟩
        | true => exact Or.inr ⟨i, by omega, by rw [hui]; exact hrb⟩
      · exact Or.inr ⟨j, by omega, by rw [hup j hj]; exact h1⟩
    · rintro (h1 | ⟨j, hj, h1⟩)
      · exact Or.inl h1.1
      · by_cases hji : j = i
        · subst hji
          rw [hui] at h1
          exact Or.inl (hrl b h1)
        · rw [hup j (by omega)] at h1
          exact Or.inr ⟨j, by omega, h1⟩
  · intro j hj a b ha
    by_cases hji : j = i
    · subst hji
      rw [hui] at ha ⊢
      have h1 := (hr a).mp ha
      rw [hr b]
      exact ⟨fun h2 => (rch_symm hs hfall h1).trans h2, fun h2 => h1.trans h2⟩
    · rw [hup j (by omega)] at ha ⊢
      exact a3 j (by omega) a b ha
  · intro j b hj hb
    cases hx : (left &&& (r ^^^ 18446744073709551615#64)).getLsbD b with
    | false => rfl
    | true =>
      obtain ⟨h1, h2⟩ := (hnl b).mp hx
      by_cases hji : j = i
      · subst hji
        rw [hui, h2] at hb; cases hb
      · rw [hup j (by omega)] at hb
        rw [a4 j b (by omega) hb] at h1; cases h1
  · intro j j' b hj hj' h1 h2
    by_cases hji : j = i
    · by_cases hji' : j' = i
      · omega
      · subst hji
        rw [hui] at h1
        rw [hup j' (by omega)] at h2
        have := a4 j' b (by omega) h2
        rw [hrl b h1] at this; cases this
    · by_cases hji' : j' = i
      · subst hji'
        rw [hui] at h2
        rw [hup j (by omega)] at h1
        have := a4 j b (by omega) h1
        rw [hrl b h2] at this; cases this
      · rw [hup j (by omega)] at h1
        rw [hup j' (by omega)] at h2
        exact a5 j j' b (by omega) (by omega) h1 h2
  · have h1 : popc (left &&& (r ^^^ 18446744073709551615#64)) + 1 ≤ popc left := cntB_lt (k := f) (fun b _ hb => ((hnl b).mp hb).1) (gl_lt hf.1) (by
      cases hx : (left &&& (r ^^^ 18446744073709551615#64)).getLsbD f with
      | false => rfl
      | true => have := ((hnl f).mp hx).2; rw [(hr f).mpr (Rch.start rfl)] at this; cases this) hf.1
    omega
theorem find_loop {N : Nat} (hN : 4000 ≤ N) {all jr jb : BitVec 64} (hg : Grid all) (near : Int → BitVec 64) : ∀ (n i : Nat) (left : BitVec 64) (cells : Int → BitVec 64), 49 < n + i → FB (EJ jr jb) all i cells left →
    ∃ (cnt : Nat) (cells' : Int → BitVec 64), cnt ≤ 49 ∧ f_pa_find_63 N all jr jb near n left (i : Int) (i : Int) cells = f_pa_find_124 N all jr jb (cnt : Int) cells' N 0 near ∧ GoodLab (EJ jr jb) all cnt (fun j b => (cells' j).getLsbD b = true) := by
  intro n
  induction n with
  | zero => intro i left cells h1 h2; have := h2.2.2.2.2.2; have := popc_nn left; omega
  | succ n ih =>
    intro i left cells h1 h2
    have h6 := h2.2.2.2.2.2
    have h0 := popc_nn left
    rw [f_pa_find_63.eq_2, og_pos (by omega)]
    by_cases hl : left = 0#64
    · rw [hl] at h2
      refine ⟨i, cells, by omega, ?_, h2.done⟩
      by_cases h49 : (49 : Int) ≤ (i : Int)
      · rw [if_pos h49]
      · rw [if_neg h49, if_pos hl]
    · have hp : popc left ≠ 0 := fun h => hl (popc_zero.mp h)
      rw [if_neg (by omega), if_neg hl]
      obtain ⟨f, hf64, hf⟩ := isF_ex hl
      rw [f_first hf, bd_some]
      have hfa : all.getLsbD f = true := (h2.2.1 f).mpr (Or.inl hf.1)
      obtain ⟨r, hr1, hr2⟩ := f_fragment (N := N) hN (start := 1#64 <<< f) (part := all) (jr := jr) (jb := jb) rfl hfa hg
      rw [hr1, bd_some, og_pos (by omega), bd_some, bd_some, bd_some, bd_some, upi_s]
      have e1 : (i : Int) + 1 = ((i + 1 : Nat) : Int) := by omega
      rw [e1]
      exact ih (i + 1) _ _ (by omega) (FB.next (fun _ _ h => h.symm) h2 hf hr2)
def side (a b : Nat) : Prop := b = a + 1 ∨ a = b + 1 ∨ b = a + 8 ∨ a = b + 8
theorem ce_beside {N : Nat} (x : BitVec 64) : ∃ y, f_ce_beside N x = some y ∧ ∀ b, b < 64 → (y.getLsbD b = true ↔ ∃ a, x.getLsbD a = true ∧ side a b) := by
  refine ⟨_, rfl, fun b hb => ?_⟩
  unfold side
  simp only [gl_or, gl_shl, gl_shr, Bool.or_eq_true, Bool.and_eq_true, decide_eq_true_eq]
  constructor
  · rintro (((⟨-, h1, h2⟩ | h) | ⟨-, h1, h2⟩) | h)
    · exact ⟨b - 1, h2, by omega⟩
    · exact ⟨b + 1, h, by omega⟩
    · exact ⟨b - 8, h2, by omega⟩
    · exact ⟨b + 8, h, by omega⟩
  · rintro ⟨a, ha, h | h | h | h⟩
    · exact Or.inl (Or.inl (Or.inl ⟨hb, by omega, by rw [show b - 1 = a by omega]; exact ha⟩))
    · exact Or.inl (Or.inl (Or.inr (by rw [← h]; exact ha)))
    · exact Or.inl (Or.inr ⟨hb, by omega, by rw [show b - 8 = a by omega]; exact ha⟩)
    · exact Or.inr (by rw [← h]; exact ha)
theorem touch_loop {N cnt : Nat} (hc : cnt ≤ 49) (p : Nat) (ar : BitVec 64) (cells : Int → BitVec 64) (hp : p < cnt) : ∀ (n q : Nat) (x : BitVec 64), q ≤ cnt → cnt < n + q →
    ∃ y, f_pa_touching_16 N (p : Int) ar (cnt : Int) cells n x (q : Int) = some y ∧ ∀ i, y.getLsbD i = true ↔ (x.getLsbD i = true ∨ (q ≤ i ∧ i < cnt ∧ i ≠ p ∧ ¬ (cells i &&& ar) = 0#64)) := by
  intro n
  induction n with
  | zero => intro q x h1 h2; omega
  | succ n ih =>
    intro q x h1 h2
    rw [f_pa_touching_16.eq_2, og_pos (by omega), og_pos (by omega)]
    by_cases h : q = cnt
    · rw [if_pos (by omega)]
      exact ⟨x, rfl, fun i => ⟨Or.inl, fun h3 => h3.elim id (fun h4 => by omega)⟩⟩
    · rw [if_neg (by omega), og_pos (by omega)]
      have e1 : (q : Int) + 1 = ((q + 1 : Nat) : Int) := by omega
      by_cases hqp : q = p
      · rw [if_pos (by omega), bd_some, bd_some]
        show ∃ y, f_pa_touching_16 N (p : Int) ar (cnt : Int) cells n x ((q : Int) + 1) = some y ∧ _
        rw [e1]
        obtain ⟨y, hy1, hy2⟩ := ih (q + 1) x (by omega) (by omega)
        refine ⟨y, hy1, fun i => ?_⟩
        rw [hy2 i]
        constructor
        · rintro (h3 | h3)
          · exact Or.inl h3
          · exact Or.inr ⟨by omega, h3.2⟩
        · rintro (h3 | h3)
          · exact Or.inl h3
          · exact Or.inr ⟨by omega, h3.2⟩
      · rw [if_neg (by omega), og_pos (by omega)]
        by_cases ht : (cells q &&& ar) = 0#64
        · rw [if_pos ht, bd_some, bd_some]
          show ∃ y, f_pa_touching_16 N (p : Int) ar (cnt : Int) cells n x ((q : Int) + 1) = some y ∧ _
          rw [e1]
          obtain ⟨y, hy1, hy2⟩ := ih (q + 1) x (by omega) (by omega)
          refine ⟨y, hy1, fun i => ?_⟩
          rw [hy2 i]
          constructor
          · rintro (h3 | h3)
            · exact Or.inl h3
            · exact Or.inr ⟨by omega, h3.2⟩
          · rintro (h3 | h3)
            · exact Or.inl h3
            · by_cases hiq : i = q
              · subst hiq
                exact absurd ht h3.2.2.2
              · exact Or.inr ⟨by omega, h3.2⟩
        · rw [if_neg ht, og_pos (by omega), bd_some, bd_some, bd_some]
          show ∃ y, f_pa_touching_16 N (p : Int) ar (cnt : Int) cells n (x ||| (1#64 <<< (q : Int).toNat)) ((q : Int) + 1) = some y ∧ _
          rw [e1, show (q : Int).toNat = q by omega]
          obtain ⟨y, hy1, hy2⟩ := ih (q + 1) (x ||| (1#64 <<< q)) (by omega) (by omega)
          refine ⟨y, hy1, fun i => ?_⟩
          rw [hy2 i, gl_or, gl_one (by omega)]
          simp only [Bool.or_eq_true, decide_eq_true_eq]
          constructor
          · rintro ((h3 | h3) | h3)
            · exact Or.inl h3
            · subst h3
              exact Or.inr ⟨Nat.le_refl _, by omega, hqp, ht⟩
            · exact Or.inr ⟨by omega, h3.2⟩
          · rintro (h3 | h3)
            · exact Or.inl (Or.inl h3)
            · by_cases hiq : i = q
              · exact Or.inl (Or.inr hiq)
              · exact Or.inr ⟨by omega, h3.2⟩
/-- panes next to each other -/
def Nr (cells : Int → BitVec 64) (cnt p q : Nat) : Prop := q < cnt ∧ q ≠ p ∧ ∃ a b, (cells p).getLsbD a = true ∧ (cells q).getLsbD b = true ∧ side a b
theorem pa_touching {N cnt : Nat} (hN : 4000 ≤ N) (hc : cnt ≤ 49) {p : Nat} (hp : p < cnt) (cells : Int → BitVec 64) : ∃ y, f_pa_touching N (p : Int) (cnt : Int) cells = some y ∧ ∀ q, y.getLsbD q = true ↔ Nr cells cnt p q := by
  unfold f_pa_touching
  obtain ⟨ar, ha1, ha2⟩ := ce_beside (N := N) (cells p)
  rw [og_pos (by omega), ha1, bd_some]
  obtain ⟨y, hy1, hy2⟩ := touch_loop (N := N) hc p ar cells hp N 0 0#64 (by omega) (by omega)
  refine ⟨y, hy1, fun q => ?_⟩
  rw [hy2 q]
  unfold Nr
  constructor
  · rintro (h | ⟨-, h1, h2, h3⟩)
    · rw [gl_zero] at h; cases h
    · obtain ⟨b, hb1, hb2⟩ := gl_ne.mp h3
      rw [gl_and] at hb2
      simp at hb2
      obtain ⟨a, ha3, ha4⟩ := (ha2 b hb1).mp hb2.2
      exact ⟨h1, h2, a, b, ha3, hb2.1, ha4⟩
  · rintro ⟨h1, h2, a, b, h3, h4, h5⟩
    refine Or.inr ⟨Nat.zero_le _, h1, h2, gl_ne.mpr ⟨b, gl_lt h4, ?_⟩⟩
    rw [gl_and, h4, (ha2 b (gl_lt h4)).mpr ⟨a, h3, h5⟩]
    rfl
theorem near_loop {N cnt : Nat} (hN : 4000 ≤ N) (hc : cnt ≤ 49) (all jr jb : BitVec 64) (cells : Int → BitVec 64) : ∀ (n p : Nat) (near : Int → BitVec 64), p ≤ cnt → cnt < n + p → (∀ p' : Nat, p' < p → ∀ q, (near p').getLsbD q = true ↔ Nr cells cnt p' q) →
    ∃ near', f_pa_find_124 N all jr jb (cnt : Int) cells n (p : Int) near = some (all, jr, jb, (cnt : Int), cells, near') ∧ ∀ p' : Nat, p' < cnt → ∀ q, (near' p').getLsbD q = true ↔ Nr cells cnt p' q := by
  intro n
  induction n with
  | zero => intro p near h1 h2; omega
  | succ n ih =>
    intro p near h1 h2 h3
    rw [f_pa_find_124.eq_2, og_pos (by omega), og_pos (by omega)]
    by_cases h : p = cnt
    · rw [if_pos (by omega)]
      exact ⟨near, rfl, fun p' hp' => h3 p' (by omega)⟩
    · obtain ⟨y, hy1, hy2⟩ := pa_touching (N := N) hN hc (p := p) (by omega) cells
      rw [if_neg (by omega), hy1, bd_some, og_pos (by omega), bd_some, bd_some]
      have e1 : (p : Int) + 1 = ((p + 1 : Nat) : Int) := by omega
      rw [e1]
      refine ih (p + 1) (upi near p y) (by omega) (by omega) (fun p' hp' q => ?_)
      by_cases hpp : p' = p
      · subst hpp
        rw [upi_s]; exact hy2 q
      · rw [upi_n _ _ (by omega)]; exact h3 p' (by omega) q
/-- the component's panes are those of the drawing -/
def PO (all jr jb : BitVec 64) (count : Int) (cells near : Int → BitVec 64) (now : Int → Int) (R C : Nat) : Prop :=
  ∃ cnt : Nat, count = cnt ∧ 1 ≤ cnt ∧ cnt ≤ 49 ∧ MD now R C jr jb ∧ (∀ i, all.getLsbD i = true ↔ i / 8 < R ∧ i % 8 < C) ∧ GoodLab (EJ jr jb) all cnt (fun j b => (cells j).getLsbD b = true) ∧ ∀ p : Nat, p < cnt → ∀ q, (near p).getLsbD q = true ↔ Nr cells cnt p q
theorem pa_find {N R C : Nat} (hN : 4000 ≤ N) {rows cols cl kl : Int} {cr cb : BitVec 64} {col now : Int → Int} (h : RD rows cols cr cb cl kl col now R C) (pall pjr pjb : BitVec 64) (pc : Int) (pcells pnear : Int → BitVec 64) :
    ∃ all jr jb count cells near, f_pa_find N rows cols cr cb col pall pjr pjb pc pcells pnear = some (all, jr, jb, count, cells, near) ∧ PO all jr jb count cells near now R C := by
  obtain ⟨jr, jb, j1, j2, hM⟩ := rd_joined (N := N) hN h
  have h0 := h
  obtain ⟨rfl, rfl, -, -, hb, -⟩ := h0
  unfold f_pa_find
  obtain ⟨all, ha1, ha2⟩ := ce_block (N := N) hN (t := 0) (b := R - 1) (l := 0) (r := C - 1) (by omega) (by omega) (by omega) (by omega)
  have e1 : ((R - 1 : Nat) : Int) = (R : Int) - 1 := by omega
  have e2 : ((C - 1 : Nat) : Int) = (C : Int) - 1 := by omega
  have e0 : ((0 : Nat) : Int) = 0 := rfl
  rw [e1, e2, e0] at ha1
  rw [ha1, bd_some, j1, bd_some, j2, bd_some]
  have hall : ∀ i, all.getLsbD i = true ↔ i / 8 < R ∧ i % 8 < C := fun i => by rw [ha2 i]; omega
  have hg : Grid all := fun i hi => by
    have := (hall i).mp hi
    unfold gd; simp; omega
  have hne : ¬ all = 0#64 := gl_ne.mpr ⟨0, by omega, (hall 0).mpr (by omega)⟩
  have hFB : FB (EJ jr jb) all 0 pcells all := ⟨fun j hj => by omega, fun b => ⟨Or.inl, fun h => h.elim id (fun ⟨j, hj, _⟩ => by omega)⟩, fun j hj => by omega, fun j b hj => by omega, fun j j' b hj => by omega, by have := hg.le; omega⟩
  obtain ⟨cnt, cells, c1, c2, c3⟩ := find_loop (N := N) hN (jr := jr) (jb := jb) hg pnear N 0 all pcells (by omega) hFB
  rw [e0] at c2
  rw [c2]
  obtain ⟨near, n1, n2⟩ := near_loop (N := N) hN c1 all jr jb cells N 0 pnear (by omega) (by omega) (fun p' hp' => by omega)
  rw [e0] at n1
  refine ⟨all, jr, jb, cnt, cells, near, n1, cnt, rfl, ?_, c1, hM, hall, c3, n2⟩
  obtain ⟨i, hi, -⟩ := (c3.2.1 0).mp ((hall 0).mpr (by omega))
  omega
