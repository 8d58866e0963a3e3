/-! ===== PURE: the cuts of a split, the reference's side ===== -/
theorem bv_ex (f : Nat → Bool) : ∀ n : Nat, n ≤ 64 → ∃ x : BitVec 64, ∀ i, x.getLsbD i = (decide (i < n) && f i)
  | 0, _ => ⟨0#64, fun i => by rw [gl_zero]; simp⟩
  | n + 1, hn => by
    obtain ⟨x, hx⟩ := bv_ex f n (by omega)
    by_cases c : f n = true
    · refine ⟨x ||| (1#64 <<< n), fun i => ?_⟩
      rw [gl_or, hx, gl_one (by omega)]
      by_cases ci : i = n
      · subst ci; simp [c]
      · have : decide (i < n + 1) = decide (i < n) := by simp; omega
        rw [this, decide_eq_false ci]; simp
    · refine ⟨x, fun i => ?_⟩
      rw [hx]
      by_cases ci : i = n
      · subst ci
        have : f i = false := by cases h : f i with
          | false => rfl
          | true => exact absurd h c
        simp [this]
      · have : decide (i < n + 1) = decide (i < n) := by simp; omega
        rw [this]
theorem md_ex {now : Int → Int} {R C : Nat} (h0 : now 0 = R) (h1 : now 1 = C) (hb : 1 ≤ R ∧ R ≤ 7 ∧ 1 ≤ C ∧ C ≤ 7) (hv : ∀ j : Int, 0 ≤ j → j < 151 → 0 ≤ now j ∧ now j ≤ 49) : ∃ jr jb, MD now R C jr jb := by
  obtain ⟨x, hx⟩ := bv_ex (fun i => decide (i / 8 < R ∧ i % 8 + 1 < C ∧ now ((4 + 7 * (i / 8) + i % 8 : Nat) : Int) = now ((4 + 7 * (i / 8) + i % 8 + 1 : Nat) : Int) ∧ now ((53 + 7 * (i / 8) + i % 8 : Nat) : Int) = 0)) 64 (Nat.le_refl _)
  obtain ⟨y, hy⟩ := bv_ex (fun i => decide (i / 8 + 1 < R ∧ i % 8 < C ∧ now ((4 + 7 * (i / 8) + i % 8 : Nat) : Int) = now ((4 + 7 * (i / 8) + i % 8 + 7 : Nat) : Int) ∧ now ((102 + 7 * (i / 8) + i % 8 : Nat) : Int) = 0)) 64 (Nat.le_refl _)
  refine ⟨x, y, h0, h1, hb, hv, fun i => ?_, fun i => ?_⟩
  · rw [hx, Bool.and_eq_true, decide_eq_true_eq, decide_eq_true_eq]
    exact ⟨fun hq => hq.2, fun hq => ⟨by omega, hq⟩⟩
  · rw [hy, Bool.and_eq_true, decide_eq_true_eq, decide_eq_true_eq]
    exact ⟨fun hq => hq.2, fun hq => ⟨by omega, hq⟩⟩
def NC (now nk : Int → Int) : Prop := (∀ j : Int, j < 53 → nk j = now j) ∧ (∀ k : Nat, k < 98 → nk ((53 + k : Nat) : Int) = 0 ∨ nk ((53 + k : Nat) : Int) = 1) ∧ ∀ k : Nat, k < 98 → now ((53 + k : Nat) : Int) = 1 → nk ((53 + k : Nat) : Int) = 1
theorem NC.upd {now nk : Int → Int} (h : NC now nk) {k : Nat} {v : Int} (hv : v = nk ((53 + k : Nat) : Int) ∨ v = 1) (hk : k < 98) : NC now (upi nk ((53 + k : Nat) : Int) v) := by
  obtain ⟨h1, h2, h3⟩ := h
  refine ⟨fun j hj => by rw [upi_n _ _ (by omega)]; exact h1 j hj, fun i hi => ?_, fun i hi hn => ?_⟩
  · by_cases c : i = k
    · subst c; rw [upi_s]; have := h2 i hi; omega
    · rw [upi_n _ _ (by omega)]; exact h2 i hi
  · by_cases c : i = k
    · subst c; rw [upi_s]; have := h3 i hi hn; omega
    · rw [upi_n _ _ (by omega)]; exact h3 i hi hn
section MCUT
variable {N R C : Nat} {jr jb all : BitVec 64} {cnt : Nat} {cells : Int → BitVec 64} {now pane size : Int → Int} {p : Nat}
theorem nc_joins (h : MD now R C jr jb) (h01 : ∀ k : Nat, k < 98 → now ((53 + k : Nat) : Int) = 0 ∨ now ((53 + k : Nat) : Int) = 1) {nk : Int → Int} (hn : NC now nk) {u : Nat} (hr : u / 7 < R) (hc : u % 7 < C) :
    f_mo_joins N (u : Int) 0 nk = some (if jr.getLsbD (eb u) = true ∧ nk ((53 + u : Nat) : Int) = 0 then 1 else 0) ∧ f_mo_joins N (u : Int) 1 nk = some (if jb.getLsbD (eb u) = true ∧ nk ((102 + u : Nat) : Int) = 0 then 1 else 0) := by
  obtain ⟨n1, n2, n3⟩ := hn
  have hM := h
  obtain ⟨m0, m1, hb, hv, mr, mb⟩ := hM
  obtain ⟨jr', jb', hM'⟩ := md_ex (now := nk) (R := R) (C := C) (by rw [n1 0 (by omega)]; exact m0) (by rw [n1 1 (by omega)]; exact m1) hb (fun j j1 j2 => by
    by_cases c : j < 53
    · rw [n1 j c]; exact hv j j1 j2
    · have := n2 (j - 53).toNat (by omega)
      rw [show ((53 + (j - 53).toNat : Nat) : Int) = j by omega] at this
      omega)
  obtain ⟨e1, e2, -⟩ := eb_rc u
  have k1 := (hM'.2.2.2.2.1 (eb u))
  have k2 := (hM'.2.2.2.2.2 (eb u))
  have k3 := mr (eb u)
  have k4 := mb (eb u)
  rw [e1, e2] at k1 k2 k3 k4
  rw [mo_joins0 hM' hr hc, mo_joins1 hM' hr hc]
  rw [show 53 + 7 * (u / 7) + u % 7 = 53 + u by omega] at k1 k3
  rw [show 102 + 7 * (u / 7) + u % 7 = 53 + (49 + u) by omega] at k2 k4
  rw [show 102 + u = 53 + (49 + u) by omega]
  have z1 := n2 u (by omega)
  have z2 := n2 (49 + u) (by omega)
  have z3 := h01 u (by omega)
  have z4 := h01 (49 + u) (by omega)
  have z5 := n3 u (by omega)
  have z6 := n3 (49 + u) (by omega)
  constructor
  · have : jr'.getLsbD (eb u) = true ↔ jr.getLsbD (eb u) = true ∧ nk ((53 + u : Nat) : Int) = 0 := by
      rw [k1, k3]
      constructor
      · rintro ⟨a1, a2, a3, a4⟩
        rw [n1 _ (by omega), n1 _ (by omega)] at a3
        exact ⟨⟨a1, a2, a3, by omega⟩, a4⟩
      · rintro ⟨⟨a1, a2, a3, a4⟩, a5⟩
        rw [n1 _ (by omega), n1 _ (by omega)]
        exact ⟨a1, a2, a3, a5⟩
    by_cases c : jr'.getLsbD (eb u) = true
    · rw [if_pos c, if_pos (this.mp c)]
    · rw [if_neg c, if_neg (fun hq => c (this.mpr hq))]
  · have : jb'.getLsbD (eb u) = true ↔ jb.getLsbD (eb u) = true ∧ nk ((53 + (49 + u) : Nat) : Int) = 0 := by
      rw [k2, k4]
      constructor
      · rintro ⟨a1, a2, a3, a4⟩
        rw [n1 _ (by omega), n1 _ (by omega)] at a3
        exact ⟨⟨a1, a2, a3, by omega⟩, a4⟩
      · rintro ⟨⟨a1, a2, a3, a4⟩, a5⟩
        rw [n1 _ (by omega), n1 _ (by omega)]
        exact ⟨a1, a2, a3, a5⟩
    by_cases c : jb'.getLsbD (eb u) = true
    · rw [if_pos c, if_pos (this.mp c)]
    · rw [if_neg c, if_neg (fun hq => c (this.mpr hq))]
theorem cut_below (hN : 4000 ≤ N) (h : PC R C jr jb all cnt cells now pane size) (hp : p < cnt) (h01 : ∀ k : Nat, k < 98 → now ((53 + k : Nat) : Int) = 0 ∨ now ((53 + k : Nat) : Int) = 1) {t b l r k0 sp : Nat} (htb : t ≤ b) (hlr : l ≤ r) (hb6 : b < R) (hr6 : r < C) (hk0 : k0 < R) (hsp : sp + 1 < 128) (wt : Int → Int) :
    ∀ (n c : Nat) (nk : Int → Int), l ≤ c → c ≤ r + 1 → r + 1 < n + c → NC now nk →
      ∃ nk', f_mo_cutBy_94 N (p : Int) (sp : Int) (t : Int) (b : Int) (l : Int) (r : Int) (k0 : Int) 1 (r : Int) wt pane n (c : Int) nk = some ((sp : Int) + 2, nk', upi (upi wt (sp : Int) ((bx t k0 l r : Nat) : Int)) ((sp : Int) + 1) ((bx (k0 + 1) b l r : Nat) : Int)) ∧ NC now nk' ∧ ∀ k : Nat, k < 98 → (nk' ((53 + k : Nat) : Int) = 1 ↔ nk ((53 + k : Nat) : Int) = 1 ∨ (49 ≤ k ∧ (k - 49) / 7 = k0 ∧ c ≤ (k - 49) % 7 ∧ (k - 49) % 7 ≤ r ∧ pane ((k - 49 : Nat) : Int) = p ∧ jb.getLsbD (eb (k - 49)) = true)) := by
  have hb7 := h.2.1.2.2.1
  have hcn := h.1
  intro n
  induction n with
  | zero => intro c nk a1 a2 a3; omega
  | succ n ih =>
    intro c nk a1 a2 a3 hNC
    rw [f_mo_cutBy_94.eq_2, og_pos (by omega), og_pos (by omega)]
    by_cases hend : c = r + 1
    · rw [if_pos (by omega), og_pos (by decide), if_pos (show (1 : Int) = 1 from rfl), show (k0 : Int) + 1 = ((k0 + 1 : Nat) : Int) by omega, mo_box, bd_some, bd_some, og_pos (by omega), bd_some, if_pos (show (1 : Int) = 1 from rfl), mo_box, bd_some, bd_some, og_pos (by omega), bd_some]
      exact ⟨nk, rfl, hNC, fun k hk => ⟨Or.inl, fun hq => hq.elim id (fun hq => by omega)⟩⟩
    · rw [if_neg (by omega), og_pos (by decide), if_pos (show (1 : Int) = 1 from rfl), bd_some, show 7 * (k0 : Int) + (c : Int) = ((7 * k0 + c : Nat) : Int) by omega, og_pos (by omega), og_pos (h.marks _ (by omega) (by omega)), og_pos (by omega)]
      have ea : (53 + 49 * (1 : Int)) + ((7 * k0 + c : Nat) : Int) = ((53 + (49 + (7 * k0 + c)) : Nat) : Int) := by omega
      have ec : (c : Int) + 1 = ((c + 1 : Nat) : Int) := by omega
      have hjn := (nc_joins (N := N) h.2.1 h01 hNC (u := 7 * k0 + c) (by omega) (by omega)).2
      have hadr : ((53 + (49 + (7 * k0 + c)) : Nat) : Int) = ((102 + (7 * k0 + c) : Nat) : Int) := by omega
      rw [← hadr] at hjn
      have hv01 := hNC.2.1 (49 + (7 * k0 + c)) (by omega)
      have fin : ∀ v : Int, (v = 1 ↔ nk ((53 + (49 + (7 * k0 + c)) : Nat) : Int) = 1 ∨ (pane ((7 * k0 + c : Nat) : Int) = p ∧ jb.getLsbD (eb (7 * k0 + c)) = true)) → (v = nk ((53 + (49 + (7 * k0 + c)) : Nat) : Int) ∨ v = 1) → ∃ nk', f_mo_cutBy_94 N (p : Int) (sp : Int) (t : Int) (b : Int) (l : Int) (r : Int) (k0 : Int) 1 (r : Int) wt pane n ((c + 1 : Nat) : Int) (upi nk ((53 + (49 + (7 * k0 + c)) : Nat) : Int) v) = some ((sp : Int) + 2, nk', upi (upi wt (sp : Int) ((bx t k0 l r : Nat) : Int)) ((sp : Int) + 1) ((bx (k0 + 1) b l r : Nat) : Int)) ∧ NC now nk' ∧ ∀ k : Nat, k < 98 → (nk' ((53 + k : Nat) : Int) = 1 ↔ nk ((53 + k : Nat) : Int) = 1 ∨ (49 ≤ k ∧ (k - 49) / 7 = k0 ∧ c ≤ (k - 49) % 7 ∧ (k - 49) % 7 ≤ r ∧ pane ((k - 49 : Nat) : Int) = p ∧ jb.getLsbD (eb (k - 49)) = true)) := by
        intro v hv1 hv2
        obtain ⟨nk', z1, z2, z3⟩ := ih (c + 1) (upi nk ((53 + (49 + (7 * k0 + c)) : Nat) : Int) v) (by omega) (by omega) (by omega) (hNC.upd (k := 49 + (7 * k0 + c)) hv2 (by omega))
        refine ⟨nk', z1, z2, fun k hk => ?_⟩
        rw [z3 k hk]
        by_cases ck : k = 49 + (7 * k0 + c)
        · subst ck
          rw [upi_s, hv1]
          constructor
          · rintro ((g | g) | g)
            · exact Or.inl g
            · refine Or.inr ?_
              rw [show 49 + (7 * k0 + c) - 49 = 7 * k0 + c by omega]; exact ⟨by omega, by omega, by omega, by omega, g.1, g.2⟩
            · omega
          · rintro (g | g)
            · exact Or.inl (Or.inl g)
            · refine Or.inl (Or.inr ?_)
              rw [show 49 + (7 * k0 + c) - 49 = 7 * k0 + c by omega] at g; exact ⟨g.2.2.2.2.1, g.2.2.2.2.2⟩
        · rw [upi_n _ _ (by omega)]
          constructor
          · rintro (g | ⟨g1, g2, g3, g4⟩)
            · exact Or.inl g
            · exact Or.inr ⟨g1, g2, by omega, g4⟩
          · rintro (g | ⟨g1, g2, g3, g4⟩)
            · exact Or.inl g
            · exact Or.inr ⟨g1, g2, by omega, g4⟩
      have keep : ∀ kf : Int → (Int → Int) → Option (Int × (Int → Int) × (Int → Int)), f_mo_cutBy_169 N (p : Int) (sp : Int) (t : Int) (b : Int) (l : Int) (r : Int) (k0 : Int) 1 (r : Int) wt pane kf (c : Int) ((7 * k0 + c : Nat) : Int) ((53 + (49 + (7 * k0 + c)) : Nat) : Int) nk = kf ((c + 1 : Nat) : Int) (upi nk ((53 + (49 + (7 * k0 + c)) : Nat) : Int) (nk ((53 + (49 + (7 * k0 + c)) : Nat) : Int))) := by
        intro kf
        unfold f_mo_cutBy_169 f_mo_cutBy_185
        rw [ea, og_pos (by omega), og_pos (by omega), bd_some, bd_some, ec]
      rw [ea]
      by_cases c1 : pane ((7 * k0 + c : Nat) : Int) = p
      · rw [if_pos c1, hjn, bd_some]
        by_cases c2 : jb.getLsbD (eb (7 * k0 + c)) = true ∧ nk ((53 + (49 + (7 * k0 + c)) : Nat) : Int) = 0
        · rw [if_pos c2, og_pos (by decide), if_neg (by decide)]
          unfold f_mo_cutBy_185
          rw [og_pos (by omega), bd_some, bd_some, ec]
          exact fin 1 ⟨fun _ => Or.inr ⟨c1, c2.1⟩, fun _ => rfl⟩ (Or.inr rfl)
        · rw [if_neg c2, og_pos (by decide), if_pos rfl, keep]
          exact fin _ ⟨Or.inl, fun hq => hq.elim id (fun hq => Classical.byContradiction fun hz => c2 ⟨hq.2, by omega⟩)⟩ (Or.inl rfl)
      · rw [if_neg c1, keep]
        exact fin _ ⟨Or.inl, fun hq => hq.elim id (fun hq => absurd hq.1 c1)⟩ (Or.inl rfl)
theorem cut_right (hN : 4000 ≤ N) (h : PC R C jr jb all cnt cells now pane size) (hp : p < cnt) (h01 : ∀ k : Nat, k < 98 → now ((53 + k : Nat) : Int) = 0 ∨ now ((53 + k : Nat) : Int) = 1) {t b l r k0 sp : Nat} (htb : t ≤ b) (hlr : l ≤ r) (hb6 : b < R) (hr6 : r < C) (hk0 : k0 < C) (hsp : sp + 1 < 128) (wt : Int → Int) :
    ∀ (n c : Nat) (nk : Int → Int), t ≤ c → c ≤ b + 1 → b + 1 < n + c → NC now nk →
      ∃ nk', f_mo_cutBy_94 N (p : Int) (sp : Int) (t : Int) (b : Int) (l : Int) (r : Int) (k0 : Int) 0 (b : Int) wt pane n (c : Int) nk = some ((sp : Int) + 2, nk', upi (upi wt (sp : Int) ((bx t b l k0 : Nat) : Int)) ((sp : Int) + 1) ((bx t b (k0 + 1) r : Nat) : Int)) ∧ NC now nk' ∧ ∀ k : Nat, k < 98 → (nk' ((53 + k : Nat) : Int) = 1 ↔ nk ((53 + k : Nat) : Int) = 1 ∨ (k < 49 ∧ k % 7 = k0 ∧ c ≤ k / 7 ∧ k / 7 ≤ b ∧ pane (k : Int) = p ∧ jr.getLsbD (eb k) = true)) := by
  have hb7 := h.2.1.2.2.1
  have hcn := h.1
  intro n
  induction n with
  | zero => intro c nk a1 a2 a3; omega
  | succ n ih =>
    intro c nk a1 a2 a3 hNC
    rw [f_mo_cutBy_94.eq_2, og_pos (by omega), og_pos (by omega)]
    by_cases hend : c = b + 1
    · rw [if_pos (by omega), og_pos (by decide), if_neg (show ¬ (0 : Int) = 1 by decide), show (k0 : Int) + 1 = ((k0 + 1 : Nat) : Int) by omega, mo_box, bd_some, bd_some, og_pos (by omega), bd_some, if_neg (show ¬ (0 : Int) = 1 by decide), mo_box, bd_some, bd_some, og_pos (by omega), bd_some]
      exact ⟨nk, rfl, hNC, fun k hk => ⟨Or.inl, fun hq => hq.elim id (fun hq => by omega)⟩⟩
    · rw [if_neg (by omega), og_pos (by decide), if_neg (show ¬ (0 : Int) = 1 by decide), bd_some, show 7 * (c : Int) + (k0 : Int) = ((7 * c + k0 : Nat) : Int) by omega, og_pos (by omega), og_pos (h.marks _ (by omega) (by omega)), og_pos (by omega)]
      have ea : (53 + 49 * (0 : Int)) + ((7 * c + k0 : Nat) : Int) = ((53 + (7 * c + k0) : Nat) : Int) := by omega
      have ec : (c : Int) + 1 = ((c + 1 : Nat) : Int) := by omega
      have hjn := (nc_joins (N := N) h.2.1 h01 hNC (u := 7 * c + k0) (by omega) (by omega)).1
      have hadr : ((53 + (7 * c + k0) : Nat) : Int) = ((53 + (7 * c + k0) : Nat) : Int) := by omega
      rw [← hadr] at hjn
      have hv01 := hNC.2.1 (7 * c + k0) (by omega)
      have fin : ∀ v : Int, (v = 1 ↔ nk ((53 + (7 * c + k0) : Nat) : Int) = 1 ∨ (pane ((7 * c + k0 : Nat) : Int) = p ∧ jr.getLsbD (eb (7 * c + k0)) = true)) → (v = nk ((53 + (7 * c + k0) : Nat) : Int) ∨ v = 1) → ∃ nk', f_mo_cutBy_94 N (p : Int) (sp : Int) (t : Int) (b : Int) (l : Int) (r : Int) (k0 : Int) 0 (b : Int) wt pane n ((c + 1 : Nat) : Int) (upi nk ((53 + (7 * c + k0) : Nat) : Int) v) = some ((sp : Int) + 2, nk', upi (upi wt (sp : Int) ((bx t b l k0 : Nat) : Int)) ((sp : Int) + 1) ((bx t b (k0 + 1) r : Nat) : Int)) ∧ NC now nk' ∧ ∀ k : Nat, k < 98 → (nk' ((53 + k : Nat) : Int) = 1 ↔ nk ((53 + k : Nat) : Int) = 1 ∨ (k < 49 ∧ k % 7 = k0 ∧ c ≤ k / 7 ∧ k / 7 ≤ b ∧ pane (k : Int) = p ∧ jr.getLsbD (eb k) = true)) := by
        intro v hv1 hv2
        obtain ⟨nk', z1, z2, z3⟩ := ih (c + 1) (upi nk ((53 + (7 * c + k0) : Nat) : Int) v) (by omega) (by omega) (by omega) (hNC.upd (k := 7 * c + k0) hv2 (by omega))
        refine ⟨nk', z1, z2, fun k hk => ?_⟩
        rw [z3 k hk]
        by_cases ck : k = 7 * c + k0
        · subst ck
          rw [upi_s, hv1]
          constructor
          · rintro ((g | g) | g)
            · exact Or.inl g
            · refine Or.inr ?_
              exact ⟨by omega, by omega, by omega, by omega, g.1, g.2⟩
            · omega
          · rintro (g | g)
            · exact Or.inl (Or.inl g)
            · refine Or.inl (Or.inr ?_)
              exact ⟨g.2.2.2.2.1, g.2.2.2.2.2⟩
        · rw [upi_n _ _ (by omega)]
          constructor
          · rintro (g | ⟨g1, g2, g3, g4⟩)
            · exact Or.inl g
            · exact Or.inr ⟨g1, g2, by omega, g4⟩
          · rintro (g | ⟨g1, g2, g3, g4⟩)
            · exact Or.inl g
            · exact Or.inr ⟨g1, g2, by omega, g4⟩
      have keep : ∀ kf : Int → (Int → Int) → Option (Int × (Int → Int) × (Int → Int)), f_mo_cutBy_169 N (p : Int) (sp : Int) (t : Int) (b : Int) (l : Int) (r : Int) (k0 : Int) 0 (b : Int) wt pane kf (c : Int) ((7 * c + k0 : Nat) : Int) ((53 + (7 * c + k0) : Nat) : Int) nk = kf ((c + 1 : Nat) : Int) (upi nk ((53 + (7 * c + k0) : Nat) : Int) (nk ((53 + (7 * c + k0) : Nat) : Int))) := by
        intro kf
        unfold f_mo_cutBy_169 f_mo_cutBy_185
        rw [ea, og_pos (by omega), og_pos (by omega), bd_some, bd_some, ec]
      rw [ea]
      by_cases c1 : pane ((7 * c + k0 : Nat) : Int) = p
      · rw [if_pos c1, hjn, bd_some]
        by_cases c2 : jr.getLsbD (eb (7 * c + k0)) = true ∧ nk ((53 + (7 * c + k0) : Nat) : Int) = 0
        · rw [if_pos c2, og_pos (by decide), if_neg (by decide)]
          unfold f_mo_cutBy_185
          rw [og_pos (by omega), bd_some, bd_some, ec]
          exact fin 1 ⟨fun _ => Or.inr ⟨c1, c2.1⟩, fun _ => rfl⟩ (Or.inr rfl)
        · rw [if_neg c2, og_pos (by decide), if_pos rfl, keep]
          exact fin _ ⟨Or.inl, fun hq => hq.elim id (fun hq => Classical.byContradiction fun hz => c2 ⟨hq.2, by omega⟩)⟩ (Or.inl rfl)
      · rw [if_neg c1, keep]
        exact fin _ ⟨Or.inl, fun hq => hq.elim id (fun hq => absurd hq.1 c1)⟩ (Or.inl rfl)
theorem mo_cutBy (hN : 4000 ≤ N) (h : PC R C jr jb all cnt cells now pane size) (hp : p < cnt) (h01 : ∀ k : Nat, k < 98 → now ((53 + k : Nat) : Int) = 0 ∨ now ((53 + k : Nat) : Int) = 1) {t b l r m sp : Nat} (htb : t ≤ b) (hlr : l ≤ r) (hb6 : b < R) (hr6 : r < C) (hsp : sp + 1 < 128) {li : Int → Int} (hli : li ((bx t b l r : Nat) : Int) = m) (hm : (t ≤ m ∧ m < b) ∨ (7 + l ≤ m ∧ m < 7 + r)) (wt : Int → Int) {nk : Int → Int} (hNC : NC now nk) :
    ∃ nk' wt', f_mo_cutBy N (p : Int) ((bx t b l r : Nat) : Int) (sp : Int) nk pane li wt = some ((sp : Int) + 2, nk', wt') ∧ NC now nk' ∧ (∀ k : Nat, k < 98 → (nk' ((53 + k : Nat) : Int) = 1 ↔ nk ((53 + k : Nat) : Int) = 1 ∨ LnS (cells p) jr jb t b l r m k)) ∧
      wt' (sp : Int) = ((if m < 7 then bx t m l r else bx t b l (m - 7) : Nat) : Int) ∧ wt' ((sp : Int) + 1) = ((if m < 7 then bx (m + 1) b l r else bx t b (m - 7 + 1) r : Nat) : Int) ∧ ∀ j : Int, j < sp → wt' j = wt j := by
  have hb7 := h.2.1.2.2.1
  have hbx := bx_lt (t := t) (b := b) (l := l) (r := r) (by omega) (by omega) (by omega) (by omega)
  have d1 : ((bx t b l r : Nat) : Int) / 343 = (t : Int) := by unfold bx; omega
  have d2 : ((bx t b l r : Nat) : Int) / 49 % 7 = (b : Int) := by unfold bx; omega
  have d3 : ((bx t b l r : Nat) : Int) / 7 % 7 = (l : Int) := by unfold bx; omega
  have d4 : ((bx t b l r : Nat) : Int) % 7 = (r : Int) := by unfold bx; omega
  have hset := h.2.2.2.2.1 p hp
  have hw : ∀ x y : Int, (upi (upi wt (sp : Int) x) ((sp : Int) + 1) y) (sp : Int) = x ∧ (upi (upi wt (sp : Int) x) ((sp : Int) + 1) y) ((sp : Int) + 1) = y ∧ ∀ j : Int, j < sp → (upi (upi wt (sp : Int) x) ((sp : Int) + 1) y) j = wt j := fun x y => ⟨by rw [upi_n _ _ (by omega), upi_s], by rw [upi_s], fun j hj => by rw [upi_n _ _ (by omega), upi_n _ _ (by omega)]⟩
  unfold f_mo_cutBy
  rw [og_pos (by omega), bd_some, og_pos (by omega), bd_some, og_pos (by omega), bd_some, bd_some, og_pos (by omega), hli, og_pos (by omega), bd_some, og_pos (by omega), d1, d2, d3, d4]
  by_cases c : m < 7
  · rw [if_neg (show ¬ (7 : Int) ≤ (m : Int) by omega), bd_some, og_pos (by decide), if_pos rfl, bd_some, if_pos rfl, bd_some, show (m : Int) % 7 = (m : Int) by omega]
    obtain ⟨nk', z1, z2, z3⟩ := cut_below hN h hp h01 (t := t) (b := b) (l := l) (r := r) (k0 := m) (sp := sp) htb hlr hb6 hr6 (by omega) hsp wt N l nk (Nat.le_refl _) (by omega) (by omega) hNC
    obtain ⟨w1, w2, w3⟩ := hw ((bx t m l r : Nat) : Int) ((bx (m + 1) b l r : Nat) : Int)
    refine ⟨nk', _, z1, z2, fun k hk => ?_, by rw [if_pos c]; exact w1, by rw [if_pos c]; exact w2, w3⟩
    rw [z3 k hk]
    unfold LnS
    rw [if_pos c]
    constructor
    · rintro (g | ⟨g1, g2, g3, g4, g5, g6⟩)
      · exact Or.inl g
      · exact Or.inr ⟨g1, g2, g3, g4, (hset (k - 49) (by omega)).mpr g5, g6⟩
    · rintro (g | ⟨g1, g2, g3, g4, g5, g6⟩)
      · exact Or.inl g
      · exact Or.inr ⟨g1, g2, g3, g4, (hset (k - 49) (by omega)).mp g5, g6⟩
  · rw [if_pos (show (7 : Int) ≤ (m : Int) by omega), bd_some, og_pos (by decide), if_neg (by decide), bd_some, if_neg (by decide), bd_some, show (m : Int) % 7 = ((m - 7 : Nat) : Int) by omega]
    obtain ⟨nk', z1, z2, z3⟩ := cut_right hN h hp h01 (t := t) (b := b) (l := l) (r := r) (k0 := m - 7) (sp := sp) htb hlr hb6 hr6 (by omega) hsp wt N t nk (Nat.le_refl _) (by omega) (by omega) hNC
    obtain ⟨w1, w2, w3⟩ := hw ((bx t b l (m - 7) : Nat) : Int) ((bx t b (m - 7 + 1) r : Nat) : Int)
    refine ⟨nk', _, z1, z2, fun k hk => ?_, by rw [if_neg c]; exact w1, by rw [if_neg c]; exact w2, w3⟩
    rw [z3 k hk]
    unfold LnS
    rw [if_neg c]
    constructor
    · rintro (g | ⟨g1, g2, g3, g4, g5, g6⟩)
      · exact Or.inl g
      · exact Or.inr ⟨g1, g2, g3, g4, (hset k g1).mpr g5, g6⟩
    · rintro (g | ⟨g1, g2, g3, g4, g5, g6⟩)
      · exact Or.inl g
      · exact Or.inr ⟨g1, g2, g3, g4, (hset k g1).mp g5, g6⟩
end MCUT
