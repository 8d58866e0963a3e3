/-! ===== PURE: the reference's panes ===== -/
theorem em_symm {jr jb : BitVec 64} {t b l r u v : Nat} (hu : u < 49 ∧ t ≤ u / 7 ∧ u / 7 ≤ b ∧ l ≤ u % 7 ∧ u % 7 ≤ r) (h : EM jr jb t b l r u v) : EM jr jb t b l r v u := ⟨h.1.symm, hu⟩
theorem em_in {jr jb : BitVec 64} {t b l r s v : Nat} (hs : s < 49 ∧ t ≤ s / 7 ∧ s / 7 ≤ b ∧ l ≤ s % 7 ∧ s % 7 ≤ r) (h : Rch (EM jr jb t b l r) (fun a => a = s) v) : v < 49 ∧ t ≤ v / 7 ∧ v / 7 ≤ b ∧ l ≤ v % 7 ∧ v % 7 ≤ r :=
  h.ind (fun v => v < 49 ∧ t ≤ v / 7 ∧ v / 7 ≤ b ∧ l ≤ v % 7 ∧ v % 7 ≤ r) (fun a ha => by subst ha; exact hs) (fun _ _ _ _ hE => hE.2)
theorem em_rsymm {jr jb : BitVec 64} {t b l r s v : Nat} (hs : s < 49 ∧ t ≤ s / 7 ∧ s / 7 ≤ b ∧ l ≤ s % 7 ∧ s % 7 ≤ r) (h : Rch (EM jr jb t b l r) (fun a => a = s) v) : Rch (EM jr jb t b l r) (fun a => a = v) s := by
  refine h.ind (fun z => Rch (EM jr jb t b l r) (fun w => w = z) s) (fun z hz => by rw [hz]; exact Rch.start rfl) (fun x y hx hT hE => ?_)
  have h1 : Rch (EM jr jb t b l r) (fun w => w = y) x := (Rch.start rfl : Rch (EM jr jb t b l r) (fun w => w = y) y).step (em_symm (em_in hs hx) hE)
  exact h1.trans hT
/-- between: the cells before k are marked, p panes are found -/
def MB (E : Nat → Nat → Prop) (inD : Nat → Prop) (k p : Nat) (pane size : Int → Int) : Prop :=
  p ≤ k ∧
  (∀ u : Nat, u < 49 → pane u = -1 ∨ (0 ≤ pane u ∧ pane u < p ∧ inD u)) ∧
  (∀ u : Nat, u < 49 → u < k → inD u → 0 ≤ pane u) ∧
  (∀ j : Nat, j < p → ∃ f : Nat, f < k ∧ f < 49 ∧ pane f = j ∧ (∀ u : Nat, u < 49 → pane u = j → f ≤ u) ∧ ∀ u : Nat, u < 49 → (j : Int) < pane u → f < u) ∧
  (∀ u v : Nat, u < 49 → v < 49 → 0 ≤ pane u → (pane v = pane u ↔ Rch E (fun a => a = u) v)) ∧
  (∀ j : Nat, j < p → size j = cntB (fun v => decide (pane (v : Int) = j)) 49)
theorem mo_find_loop {N R C : Nat} (hN : 4000 ≤ N) {now : Int → Int} {jr jb : BitVec 64} (h : MD now R C jr jb) : ∀ (n k p : Nat) (queue pane size : Int → Int), k ≤ 49 → 49 < n + k → MB (EM jr jb 0 (R - 1) 0 (C - 1)) (fun u => u / 7 < R ∧ u % 7 < C) k p pane size →
    ∃ (p' : Nat) (queue' pane' size' : Int → Int), f_mo_findPanes_32 N 0 ((R : Int) - 1) 0 ((C : Int) - 1) now n (k : Int) (p : Int) queue pane size = some (0, (R : Int) - 1, 0, (C : Int) - 1, (p' : Int), queue', pane', size') ∧ MB (EM jr jb 0 (R - 1) 0 (C - 1)) (fun u => u / 7 < R ∧ u % 7 < C) 49 p' pane' size' := by
  intro n
  induction n with
  | zero => intro k p queue pane size h1 h2; omega
  | succ n ih =>
    intro k p queue pane size hk hn hB
    have hb7 := h.2.2.1
    obtain ⟨b1, b2, b3, b4, b5, b6⟩ := hB
    rw [f_mo_findPanes_32.eq_2, og_pos (by omega)]
    by_cases hk49 : k = 49
    · subst hk49
      rw [if_pos (by omega)]
      exact ⟨p, queue, pane, size, rfl, b1, b2, b3, b4, b5, b6⟩
    · rw [if_neg (by omega), og_pos (by omega), mo_isCell h (by omega) (by omega), bd_some]
      have e1 : (k : Int) + 1 = ((k + 1 : Nat) : Int) := by omega
      by_cases hcell : k / 7 < R ∧ k % 7 < C
      · rw [if_pos (by omega), og_pos (by decide), if_neg (by decide), og_pos (by omega)]
        have hpk := b2 k (by omega)
        rw [og_pos (by omega)]
        by_cases hm : 0 ≤ pane k
        · rw [if_pos hm, bd_some, bd_some]
          show ∃ p' queue' pane' size', f_mo_findPanes_32 N 0 ((R : Int) - 1) 0 ((C : Int) - 1) now n ((k : Int) + 1) (p : Int) queue pane size = _ ∧ _
          rw [e1]
          refine ih (k + 1) p queue pane size (by omega) (by omega) ⟨by omega, b2, fun u h1 h2 h3 => ?_, fun j hj => ?_, b5, b6⟩
          · by_cases huk : u = k
            · rw [huk]; exact hm
            · exact b3 u h1 (by omega) h3
          · obtain ⟨f, hf1, hf2⟩ := b4 j hj
            exact ⟨f, by omega, hf2⟩
        · rw [if_neg hm]
          -- a new pane
          have hst : k < 49 ∧ 0 ≤ k / 7 ∧ k / 7 ≤ R - 1 ∧ 0 ≤ k % 7 ∧ k % 7 ≤ C - 1 := by omega
          have hneg : ∀ v : Nat, v < 49 → Rch (EM jr jb 0 (R - 1) 0 (C - 1)) (fun a => a = k) v → pane v < 0 := by
            intro v hv hr
            apply Classical.byContradiction
            intro hge
            have := (b5 v k hv (by omega) (by omega)).mpr (em_rsymm hst hr)
            omega
          obtain ⟨q1, m1, s1, s2, s3⟩ := mo_spread (N := N) hN h (t := 0) (b := R - 1) (l := 0) (r := C - 1) (by omega) (by omega) (id := (p : Int)) (by omega) (by omega) (s := k) (by omega) hst.2 (m0 := pane) (q0 := queue) (fun j h1 h2 => by
            have := b2 j.toNat (by omega)
            rw [show ((j.toNat : Nat) : Int) = j by omega] at this
            omega) (fun v hv => by have := b2 v hv; omega) hneg
          have e2 : ((R - 1 : Nat) : Int) = (R : Int) - 1 := by omega
          have e3 : ((C - 1 : Nat) : Int) = (C : Int) - 1 := by omega
          have e0 : ((0 : Nat) : Int) = 0 := rfl
          rw [e2, e3, e0] at s1
          rw [s1, bd_some, og_pos (by omega), bd_some, bd_some, bd_some, bd_some]
          show ∃ p' queue' pane' size', f_mo_findPanes_32 N 0 ((R : Int) - 1) 0 ((C : Int) - 1) now n ((k : Int) + 1) ((p : Int) + 1) q1 m1 (upi size p (cntB (fun v => decide (m1 (v : Int) = p)) 49)) = _ ∧ _
          rw [e1, show (p : Int) + 1 = ((p + 1 : Nat) : Int) by omega]
          -- old marks stay
          have hold : ∀ u : Nat, u < 49 → 0 ≤ pane u → m1 u = pane u := by
            intro u hu hge
            rcases s3 u with h1 | ⟨v, hv1, hv2, hv3, hv4⟩
            · exact h1
            · have : u = v := by omega
              subst this
              have := hneg u hu hv3
              omega
          have hback : ∀ (u : Nat), u < 49 → m1 u ≠ p → m1 u = pane u := by
            intro u hu hne
            rcases s3 u with h1 | ⟨v, hv1, hv2, hv3, hv4⟩
            · exact h1
            · exact absurd hv4 hne
          refine ih (k + 1) (p + 1) q1 m1 _ (by omega) (by omega) ⟨by omega, fun u hu => ?_, fun u h1 h2 h3 => ?_, fun j hj => ?_, fun u v hu hv hge => ?_, fun j hj => ?_⟩
          · by_cases hup : m1 u = p
            · have hr := em_in hst ((s2 u hu).mp hup)
              right
              rw [hup]
              refine ⟨by omega, by omega, ?_, ?_⟩ <;> omega
            · rw [hback u hu hup]
              rcases b2 u hu with h1 | h1
              · exact Or.inl h1
              · exact Or.inr ⟨h1.1, by omega, h1.2.2⟩
          · by_cases huk : u = k
            · rw [huk, (s2 k (by omega)).mpr (Rch.start rfl)]; omega
            · have := b3 u h1 (by omega) h3
              rw [hold u h1 this]; exact this
          · by_cases hjp : j = p
            · subst hjp
              refine ⟨k, by omega, by omega, (s2 k (by omega)).mpr (Rch.start rfl), fun u hu hm1 => ?_, fun u hu hlt => ?_⟩
              · have hr := (s2 u hu).mp hm1
                have hn1 := hneg u hu hr
                have hin := em_in hst hr
                apply Classical.byContradiction
                intro hlt
                have := b3 u hu (by omega) (by omega)
                omega
              · exfalso
                by_cases hup : m1 u = j
                · omega
                · rw [hback u hu hup] at hlt
                  have := b2 u hu
                  omega
            · obtain ⟨f, hf1, hf2, hf3, hf4, hf5⟩ := b4 j (by omega)
              refine ⟨f, by omega, hf2, by rw [hold f hf2 (by omega)]; exact hf3, fun u hu hm1 => ?_, fun u hu hlt => ?_⟩
              · have hup : m1 u ≠ p := by omega
                rw [hback u hu hup] at hm1
                exact hf4 u hu hm1
              · by_cases hup : m1 u = p
                · have hr := (s2 u hu).mp hup
                  have hn1 := hneg u hu hr
                  have hin := em_in hst hr
                  have : ¬ u < k := fun hlt2 => by
                    have := b3 u hu hlt2 (by omega)
                    omega
                  omega
                · rw [hback u hu hup] at hlt
                  exact hf5 u hu hlt
          · by_cases hup : m1 u = p
            · have hr := (s2 u hu).mp hup
              rw [hup, s2 v hv]
              exact ⟨fun h2 => (em_rsymm hst hr).trans h2, fun h2 => hr.trans h2⟩
            · have hpu := hback u hu hup
              rw [hpu] at hge
              rw [hpu, ← b5 u v hu hv hge]
              constructor
              · intro h2
                have : m1 v ≠ p := by rw [h2, ← hpu]; exact hup
                rw [← hback v hv this]; exact h2
              · intro h2
                rw [hold v hv (by omega)]; exact h2
          · by_cases hjp : j = p
            · subst hjp
              rw [upi_s]
            · rw [upi_n _ _ (by omega), b6 j (by omega)]
              refine cntB_congr (fun v hv => ?_)
              by_cases hup : m1 v = p
              · have hr := (s2 v hv).mp hup
                have hn1 := hneg v hv hr
                have a1 : ¬ pane v = j := by omega
                have a2 : ¬ m1 v = j := by omega
                simp [a1, a2]
              · rw [hback v hv hup]
      · rw [if_neg (by omega), og_pos (by decide), if_pos rfl, bd_some, bd_some]
        show ∃ p' queue' pane' size', f_mo_findPanes_32 N 0 ((R : Int) - 1) 0 ((C : Int) - 1) now n ((k : Int) + 1) (p : Int) queue pane size = _ ∧ _
        rw [e1]
        refine ih (k + 1) p queue pane size (by omega) (by omega) ⟨by omega, b2, fun u h1 h2 h3 => ?_, fun j hj => ?_, b5, b6⟩
        · by_cases huk : u = k
          · subst huk; exact absurd h3 hcell
          · exact b3 u h1 (by omega) h3
        · obtain ⟨f, hf1, hf2⟩ := b4 j hj
          exact ⟨f, by omega, hf2⟩
theorem mo_clear_loop {N : Nat} {t b l r p : Int} {queue size now : Int → Int} : ∀ (n k : Nat) (pane : Int → Int), k ≤ 49 → 49 < n + k → (∀ u : Nat, u < k → pane u = -1) →
    ∃ pane', f_mo_findPanes_11 N t b l r p queue size now n (k : Int) pane = f_mo_findPanes_32 N t b l r now N 0 p queue pane' size ∧ ∀ u : Nat, u < 49 → pane' u = -1 := by
  intro n
  induction n with
  | zero => intro k pane h1 h2; omega
  | succ n ih =>
    intro k pane h1 h2 h3
    rw [f_mo_findPanes_11.eq_2, og_pos (by omega)]
    by_cases h : k = 49
    · rw [if_pos (by omega)]
      exact ⟨pane, rfl, fun u hu => h3 u (by omega)⟩
    · rw [if_neg (by omega), og_pos (by omega), bd_some, bd_some, show (k : Int) + 1 = ((k + 1 : Nat) : Int) by omega]
      refine ih (k + 1) (upi pane k (-1)) (by omega) (by omega) (fun u hu => ?_)
      by_cases huk : u = k
      · rw [huk, upi_s]
      · rw [upi_n _ _ (by omega)]; exact h3 u (by omega)
/-- the reference's panes are those of the drawing -/
def ML (now : Int → Int) (R C : Nat) (jr jb all : BitVec 64) (cnt : Nat) (pane size : Int → Int) : Prop :=
  cnt ≤ 49 ∧ (∀ u : Nat, u < 49 → (0 ≤ pane u ↔ u / 7 < R ∧ u % 7 < C) ∧ -1 ≤ pane u ∧ pane u < cnt) ∧ GoodLab (EJ jr jb) all cnt (fun j b => ∃ u : Nat, u < 49 ∧ b = eb u ∧ pane u = j) ∧ ∀ j : Nat, j < cnt → size j = cntB (fun v => decide (pane (v : Int) = j)) 49
theorem mo_findPanes {N R C : Nat} (hN : 4000 ≤ N) {now : Int → Int} {jr jb all : BitVec 64} (h : MD now R C jr jb) (hall : ∀ i, all.getLsbD i = true ↔ i / 8 < R ∧ i % 8 < C) (t b l r p : Int) (queue pane size : Int → Int) :
    ∃ (cnt : Nat) (queue' pane' size' : Int → Int), f_mo_findPanes N t b l r p now queue pane size = some (0, (R : Int) - 1, 0, (C : Int) - 1, (cnt : Int), queue', pane', size') ∧ ML now R C jr jb all cnt pane' size' := by
  have hb7 := h.2.2.1
  unfold f_mo_findPanes f_mo_wholeDrawing
  rw [h.1, h.2.1, bd_some, bd_some, bd_some]
  show ∃ cnt queue' pane' size', f_mo_findPanes_11 N 0 ((R : Int) - 1) 0 ((C : Int) - 1) 0 queue size now N 0 pane = _ ∧ _
  obtain ⟨pane1, p1, p2⟩ := mo_clear_loop (N := N) (t := 0) (b := (R : Int) - 1) (l := 0) (r := (C : Int) - 1) (p := 0) (queue := queue) (size := size) (now := now) N 0 pane (by omega) (by omega) (fun u hu => by omega)
  have e0 : ((0 : Nat) : Int) = 0 := rfl
  rw [e0] at p1
  rw [p1]
  obtain ⟨cnt, q2, pane2, size2, f1, f2⟩ := mo_find_loop (N := N) hN h N 0 0 queue pane1 size (by omega) (by omega) ⟨by omega, fun u hu => Or.inl (p2 u hu), fun u h1 h2 => by omega, fun j hj => by omega, fun u v hu hv hge => by have := p2 u hu; omega, fun j hj => by omega⟩
  rw [e0] at f1
  obtain ⟨b1, b2, b3, b4, b5, b6⟩ := f2
  have hin : ∀ u : Nat, u < 49 → (0 ≤ pane2 u ↔ u / 7 < R ∧ u % 7 < C) := fun u hu => by
    constructor
    · intro hge
      rcases b2 u hu with h1 | h1
      · omega
      · exact h1.2.2
    · exact b3 u hu hu
  have hiso : ∀ u : Nat, u < 49 → u / 7 < R ∧ u % 7 < C → ∀ v, Rch (EM jr jb 0 (R - 1) 0 (C - 1)) (fun a => a = u) v ↔ Rch (EP (EJ jr jb) all) (fun a => a = eb u) (eb v) := by
    intro u hu huD v
    have hau : all.getLsbD (eb u) = true := (hall _).mpr (by have := eb_rc u; omega)
    refine rch_iso (part := all) (fun i hi => ?_) (fun x y hx hax hE => ?_) hau v
    · have h1 := (hall i).mp hi
      refine ⟨7 * (i / 8) + i % 8, by omega, by unfold eb; omega, by omega, by omega, by omega, by omega⟩
    · obtain ⟨-, h2⟩ := hE
      refine (hall _).mpr ?_
      have := eb_rc y
      omega
  refine ⟨cnt, q2, pane2, size2, f1, by omega, fun u hu => ⟨hin u hu, ?_⟩, ⟨?_, ?_, ?_, ?_, ?_⟩, b6⟩
  · have := b2 u hu
    omega
  · intro j hj
    obtain ⟨f, hf1, hf2, hf3, hf4, hf5⟩ := b4 j hj
    refine ⟨eb f, ⟨f, hf2, rfl, hf3⟩, ?_⟩
    rintro b ⟨u, hu, rfl, hm⟩
    have := hf4 u hu hm
    unfold eb; omega
  · intro i
    rw [hall i]
    constructor
    · intro h1
      have hu : 7 * (i / 8) + i % 8 < 49 := by omega
      have h2 := (hin (7 * (i / 8) + i % 8) hu).mpr (by omega)
      have h3 := b2 _ hu
      refine ⟨(pane2 ((7 * (i / 8) + i % 8 : Nat) : Int)).toNat, by omega, 7 * (i / 8) + i % 8, hu, by unfold eb; omega, by omega⟩
    · rintro ⟨j, hj, u, hu, rfl, hm⟩
      have := (hin u hu).mp (by omega)
      have := eb_rc u
      omega
  · rintro j hj a b ⟨u, hu, rfl, hm⟩
    have huD := (hin u hu).mp (by omega)
    constructor
    · rintro ⟨v, hv, rfl, hm2⟩
      exact (hiso u hu huD v).mp ((b5 u v hu hv (by omega)).mp (by omega))
    · intro hr
      have hau : all.getLsbD (eb u) = true := (hall _).mpr (by have := eb_rc u; omega)
      have hab := rch_in hau hr
      have h1 := (hall b).mp hab
      have hbe : b = eb (7 * (b / 8) + b % 8) := by unfold eb; omega
      rw [hbe] at hr
      have hv : 7 * (b / 8) + b % 8 < 49 := by omega
      have := (b5 u _ hu hv (by omega)).mpr ((hiso u hu huD _).mpr hr)
      exact ⟨_, hv, hbe, by omega⟩
  · rintro i j a hi hj ⟨u, hu, rfl, hm⟩ ⟨v, hv, he, hm2⟩
    have := eb_inj he
    subst this
    omega
  · intro i j hij hj
    obtain ⟨f, hf1, hf2, hf3, hf4, hf5⟩ := b4 i (by omega)
    refine ⟨eb f, ⟨f, hf2, rfl, hf3⟩, ?_⟩
    rintro b ⟨u, hu, rfl, hm⟩
    have := hf5 u hu (by omega)
    unfold eb; omega
/-- the two agree -/
theorem panes_same {now : Int → Int} {R C : Nat} {all jr jb : BitVec 64} {cnt cnt' : Nat} {cells : Int → BitVec 64} {pane size : Int → Int} (h1 : GoodLab (EJ jr jb) all cnt (fun j b => (cells j).getLsbD b = true)) (h2 : ML now R C jr jb all cnt' pane size) : cnt = cnt' ∧ ∀ j : Nat, j < cnt → ∀ u : Nat, u < 49 → ((cells j).getLsbD (eb u) = true ↔ pane u = j) := by
  have hc := h1.cnt h2.2.2.1
  refine ⟨hc, fun j hj u hu => ?_⟩
  have := (h1.same h2.2.2.1 j hj).2 (eb u)
  constructor
  · intro h
    obtain ⟨v, hv1, hv2, hv3⟩ := this.mp h
    have := eb_inj hv2
    subst this
    exact hv3
  · intro h
    exact this.mpr ⟨u, hu, rfl, h⟩
theorem md_uniq {now : Int → Int} {R C : Nat} {jr jb jr' jb' : BitVec 64} (h : MD now R C jr jb) (h' : MD now R C jr' jb') : jr = jr' ∧ jb = jb' := by
  constructor
  · apply gl_ext
    intro i _
    have a := h.2.2.2.2.1 i
    have b := h'.2.2.2.2.1 i
    rw [Bool.eq_iff_iff, a, b]
  · apply gl_ext
    intro i _
    have a := h.2.2.2.2.2 i
    have b := h'.2.2.2.2.2 i
    rw [Bool.eq_iff_iff, a, b]
