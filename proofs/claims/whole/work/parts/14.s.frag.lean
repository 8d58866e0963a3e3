/-! ===== PURE: the fragments of a part, the class's side ===== -/
theorem good_ex {jr jb part : BitVec 64} (hg : Grid part) : ∃ (cnt : Nat) (fr : Int → BitVec 64), cnt ≤ 49 ∧ GoodLab (EJ jr jb) part cnt (fun j b => (fr j).getLsbD b = true) := by
  have hFB : FB (EJ jr jb) part 0 (fun _ => 0#64) part := ⟨fun j hj => by omega, fun b => ⟨Or.inl, fun h => h.elim id (fun ⟨j, hj, _⟩ => by omega)⟩, fun j hj => by omega, fun j b hj => by omega, fun j j' b hj => by omega, by have := hg.le; omega⟩
  obtain ⟨cnt, fr, h1, -, h3⟩ := find_loop (N := 4000) (Nat.le_refl _) (jr := jr) (jb := jb) hg (fun _ => 0#64) 4000 0 part (fun _ => 0#64) (by omega) hFB
  exact ⟨cnt, fr, h1, h3⟩
noncomputable def ezS (R C : Nat) (S : Nat → Prop) (cl kl : Int) : Bool := ez R C (fun u => isT (S (eb u))) cl kl
theorem ezS_c {R C : Nat} {S T : Nat → Prop} {cl kl : Int} (h : ∀ b, S b ↔ T b) : ezS R C S cl kl = ezS R C T cl kl := by
  have : S = T := funext fun b => propext (h b)
  rw [this]
theorem ezS_bits {R C : Nat} (x : BitVec 64) (cl kl : Int) : ezS R C (fun b => x.getLsbD b = true) cl kl = ez R C (fun u => x.getLsbD (eb u)) cl kl := by
  unfold ezS
  have : (fun u => isT (x.getLsbD (eb u) = true)) = fun u => x.getLsbD (eb u) := by
    funext u
    cases hx : x.getLsbD (eb u) with
    | true => exact isT_t rfl
    | false => exact isT_f (fun h => by cases h)
  rw [this]
def EMC (jr jb part : BitVec 64) (R C : Nat) (cl kl v : Int) : Prop :=
  ∃ (cnt : Nat) (S : Nat → Nat → Prop), GoodLab (EJ jr jb) part cnt S ∧ ((v = -1 ∧ ∃ j, j < cnt ∧ ezS R C (S j) cl kl = false) ∨ (v = cnt ∧ ∀ j, j < cnt → ezS R C (S j) cl kl = true))
theorem EMC.uniq {jr jb part : BitVec 64} {R C : Nat} {cl kl v v' : Int} (h : EMC jr jb part R C cl kl v) (h' : EMC jr jb part R C cl kl v') : v = v' := by
  obtain ⟨cnt, S, g, h⟩ := h
  obtain ⟨cnt', S', g', h'⟩ := h'
  have hc := g.cnt g'
  subst hc
  have hs : ∀ j, j < cnt → ezS R C (S j) cl kl = ezS R C (S' j) cl kl := fun j hj => ezS_c (g.same g' j hj).2
  rcases h with ⟨rfl, j, hj, h1⟩ | ⟨rfl, h1⟩
  · rcases h' with ⟨rfl, -⟩ | ⟨rfl, h2⟩
    · rfl
    · have := h2 j hj
      rw [← hs j hj, h1] at this
      cases this
  · rcases h' with ⟨rfl, j, hj, h2⟩ | ⟨rfl, h2⟩
    · have := h1 j hj
      rw [hs j hj, h2] at this
      cases this
    · rfl
theorem cef_loop {N R C : Nat} (hN : 4000 ≤ N) {part all jr jb : BitVec 64} {cl kl : Int} (hb : R ≤ 7 ∧ C ≤ 7) (hall : ∀ i, all.getLsbD i = true ↔ i / 8 < R ∧ i % 8 < C) (hs : ∀ i, part.getLsbD i = true → all.getLsbD i = true) (hg : Grid part) (hcl : xR cl) (hkl : xR kl) :
    ∀ (n i : Nat) (left : BitVec 64) (cells : Int → BitVec 64), 49 < n + i → FB (EJ jr jb) part i cells left → popc left + i ≤ popc part → (∀ j : Nat, j < i → ez R C (fun u => (cells j).getLsbD (eb u)) cl kl = true) →
      ∃ v, f_pa_countEasyFragments_8 N part cl kl all jr jb n (i : Int) left (i : Int) = some v ∧ EMC jr jb part R C cl kl v ∧ (v = -1 ∨ (0 ≤ v ∧ v ≤ popc part)) := by
  intro n
  induction n with
  | zero => intro i left cells h1 h2; have := h2.2.2.2.2.2; have := popc_nn left; omega
  | succ n ih =>
    intro i left cells h1 h2 h3 h4
    have h6 := h2.2.2.2.2.2
    have h0 := popc_nn left
    rw [f_pa_countEasyFragments_8.eq_2, og_pos (by omega)]
    by_cases hl : left = 0#64
    · rw [hl] at h2
      refine ⟨(i : Int), ?_, ⟨i, _, h2.done, Or.inr ⟨rfl, fun j hj => by rw [ezS_bits]; exact h4 j hj⟩⟩, Or.inr (by omega)⟩
      by_cases h49 : (49 : Int) ≤ (i : Int)
      · rw [if_pos h49]
      · rw [if_neg h49, if_pos hl]
    · have hp : popc left ≠ 0 := fun h => hl (popc_zero.mp h)
      rw [if_neg (by omega), if_neg hl]
      obtain ⟨f, hf64, hf⟩ := isF_ex hl
      rw [f_first hf, bd_some]
      have hfa : part.getLsbD f = true := (h2.2.1 f).mpr (Or.inl hf.1)
      obtain ⟨r, hr1, hr2⟩ := f_fragment (N := N) hN (start := 1#64 <<< f) (part := part) (jr := jr) (jb := jb) rfl hfa hg
      have hrp : ∀ b, r.getLsbD b = true → part.getLsbD b = true := fun b hb => rch_in hfa ((hr2 b).mp hb)
      rw [hr1, bd_some, pa_isEasy hN hb hall (fun b hb => hs b (hrp b hb)) hcl hkl, bd_some]
      by_cases ce : ez R C (fun u => r.getLsbD (eb u)) cl kl = true
      · rw [if_pos ce, og_pos (by decide), if_neg (by decide), bd_some, bd_some, bd_some]
        have e1 : (i : Int) + 1 = ((i + 1 : Nat) : Int) := by omega
        rw [e1]
        have hlt : popc (left &&& (r ^^^ 18446744073709551615#64)) + 1 ≤ popc left := cntB_lt (k := f) (fun b _ hb => (gl_sub.mp hb).1) (gl_lt hf.1) (by
          cases hx : (left &&& (r ^^^ 18446744073709551615#64)).getLsbD f with
          | false => rfl
          | true => have := (gl_sub.mp hx).2; rw [(hr2 f).mpr (Rch.start rfl)] at this; cases this) hf.1
        refine ih (i + 1) _ (upi cells i r) (by omega) (FB.next (fun _ _ h => h.symm) h2 hf hr2) (by omega) (fun j hj => ?_)
        by_cases c : j = i
        · subst c; rw [upi_s]; exact ce
        · rw [upi_n _ _ (by omega)]; exact h4 j (by omega)
      · rw [if_neg ce, og_pos (by decide), if_pos rfl]
        obtain ⟨cnt, fr, -, g⟩ := good_ex (jr := jr) (jb := jb) hg
        obtain ⟨j, hj, hjf⟩ := (g.2.1 f).mp hfa
        refine ⟨-1, rfl, ⟨cnt, _, g, Or.inl ⟨rfl, j, hj, ?_⟩⟩, Or.inl rfl⟩
        have : ezS R C (fun b => (fr j).getLsbD b = true) cl kl = ezS R C (fun b => r.getLsbD b = true) cl kl := ezS_c (fun b => (g.2.2.1 j hj f b hjf).trans (hr2 b).symm)
        show ezS R C (fun b => (fr j).getLsbD b = true) cl kl = false
        rw [this, ezS_bits]
        cases hx : ez R C (fun u => r.getLsbD (eb u)) cl kl with
        | false => rfl
        | true => exact absurd hx ce
theorem pa_cef {N R C : Nat} (hN : 4000 ≤ N) {part all jr jb : BitVec 64} {cl kl : Int} (hb : R ≤ 7 ∧ C ≤ 7) (hall : ∀ i, all.getLsbD i = true ↔ i / 8 < R ∧ i % 8 < C) (hs : ∀ i, part.getLsbD i = true → all.getLsbD i = true) (hcl : xR cl) (hkl : xR kl) :
    ∃ v, f_pa_countEasyFragments N part cl kl all jr jb = some v ∧ EMC jr jb part R C cl kl v ∧ (v = -1 ∨ (0 ≤ v ∧ v ≤ popc part)) := by
  have hg : Grid part := fun i hi => by
    have := (hall i).mp (hs i hi)
    unfold gd; simp; omega
  have hFB : FB (EJ jr jb) part 0 (fun _ => 0#64) part := ⟨fun j hj => by omega, fun b => ⟨Or.inl, fun h => h.elim id (fun ⟨j, hj, _⟩ => by omega)⟩, fun j hj => by omega, fun j b hj => by omega, fun j j' b hj => by omega, by have := hg.le; omega⟩
  exact cef_loop hN hb hall hs hg hcl hkl N 0 part (fun _ => 0#64) (by omega) hFB (by omega) (fun j hj => by omega)
/-- a single cell is easy to cut -/
theorem ez_one {R C : Nat} (hb : R ≤ 7 ∧ C ≤ 7) {S : Nat → Bool} {cl kl : Int} (hcl : 1 ≤ cl) (hkl : 0 ≤ kl) {x : Nat} (h : ∀ u, u < 49 → S u = true → u = x) : ez R C S cl kl = true := by
  have h1 : cntB S 49 ≤ 1 := by
    by_cases hx : x < 49
    · have : cntB S 49 ≤ cntB (fun u => decide (u = x)) 49 := cntB_le (fun i hi hS => decide_eq_true (h i hi hS))
      have h2 : cntB (fun u => decide (u = x)) 49 = cntB (fun _ => false) 49 + 1 := cntB_upd hx rfl (decide_eq_true rfl) (fun i _ hi => by rw [decide_eq_false hi])
      rw [cntB_f (fun _ _ => rfl)] at h2
      omega
    · have : cntB S 49 = 0 := cntB_f (fun i hi => by
        cases hS : S i with
        | false => rfl
        | true => have := h i hi hS; omega)
      omega
  have h2 : cornN S R C = 0 := by
    unfold cornN
    refine sumN_0 (fun r hr => cntB_f (fun c hc => ?_))
    have a1 := h (7 * r + c) (by omega)
    have a2 := h (7 * r + c + 1) (by omega)
    have a3 := h (7 * r + c + 7) (by omega)
    have a4 := h (7 * r + c + 8) (by omega)
    show three (S (7 * r + c)) (S (7 * r + c + 1)) (S (7 * r + c + 7)) (S (7 * r + c + 8)) = false
    cases b1 : S (7 * r + c) <;> cases b2 : S (7 * r + c + 1) <;> cases b3 : S (7 * r + c + 7) <;> cases b4 : S (7 * r + c + 8) <;> first | rfl | (exfalso; simp only [b1, b2, b3, b4, true_implies] at a1 a2 a3 a4; omega)
  unfold ez
  exact decide_eq_true ⟨by omega, by omega, hole_none hb (by omega)⟩
