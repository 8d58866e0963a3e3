/-! ===== PURE: the reference's plan: its loops ===== -/
section MLOOP
variable {N R C : Nat} {jr jb all : BitVec 64} {cnt : Nat} {cells : Int → BitVec 64} {now pane size : Int → Int} {cl kl : Int} {p t0 b0 l0 r0 : Nat}
def MTab (N : Nat) (P all jr jb : BitVec 64) (cl kl : Int) (t b l r : Nat) (pi le li : Int → Int) : Prop := pi ((bx t b l r : Nat) : Int) = (pln N P all jr jb cl kl t b l r).1 ∧ le ((bx t b l r : Nat) : Int) = (pln N P all jr jb cl kl t b l r).2.1 ∧ li ((bx t b l r : Nat) : Int) = (pln N P all jr jb cl kl t b l r).2.2
def MDone (N : Nat) (P all jr jb : BitVec 64) (cl kl : Int) (t0 b0 l0 r0 : Nat) (hh ww tt lf : Nat) (pi le li : Int → Int) : Prop :=
  ∀ t b l r : Nat, t0 ≤ t → t ≤ b → b ≤ b0 → l0 ≤ l → l ≤ r → r ≤ r0 → (b - t < hh ∨ (b - t = hh ∧ (r - l < ww ∨ (r - l = ww ∧ (t < tt ∨ (t = tt ∧ l < lf)))))) → MTab N P all jr jb cl kl t b l r pi le li
theorem lay_161 (hN : 4000 ≤ N) (h : PC R C jr jb all cnt cells now pane size) (hp : p < cnt) (hcl : now 2 = cl) (hkl : now 3 = kl) (hcl1 : 1 ≤ cl) (htb0 : t0 ≤ b0) (hb0 : b0 < R) (hlr0 : l0 ≤ r0) (hr0 : r0 < C) {hh ww tt : Nat} (ht0 : t0 ≤ tt) (htb : tt + hh ≤ b0) (hw0 : ww ≤ r0 - l0) (k124 k135 k148 : Int → Int → Int → Int → Int → (Int → Int) → (Int → Int) → (Int → Int) → (Int → Int) → (Int → Int) → (Int → Int) → Option (Int × Int × Int × Int × Int × (Int → Int) × (Int → Int) × (Int → Int) × (Int → Int) × (Int → Int) × (Int → Int))) :
    ∀ (n lf : Nat) (T B L Q : Int) (q fr se pi le li : Int → Int), l0 ≤ lf → lf + ww ≤ r0 + 1 → r0 + 1 < n + lf → MDone N (cells p) all jr jb cl kl t0 b0 l0 r0 hh ww tt lf pi le li →
      ∃ T' B' L' Q' q' fr' se' pi' le' li', f_mo_layPlan_161 N (p : Int) (t0 : Int) (b0 : Int) (l0 : Int) (r0 : Int) (hh : Int) (ww : Int) (tt : Int) now pane k124 k135 k148 n (lf : Int) T B L Q q fr se pi le li = k148 ((tt + 1 : Nat) : Int) T' B' L' Q' q' fr' se' pi' le' li' ∧ MDone N (cells p) all jr jb cl kl t0 b0 l0 r0 hh ww (tt + 1) l0 pi' le' li' := by
  have hb7 := h.2.1.2.2.1
  intro n
  induction n with
  | zero => intro lf T B L Q q fr se pi le li a1 a2 a3; omega
  | succ n ih =>
    intro lf T B L Q q fr se pi le li a1 a2 a3 hD
    rw [f_mo_layPlan_161.eq_2, og_pos (by omega), og_pos (by omega)]
    by_cases c : lf + ww = r0 + 1
    · rw [if_pos (by omega), bd_some]
      exact ⟨T, B, L, Q, q, fr, se, pi, le, li, rfl, fun t b l r c1 c2 c3 c4 c5 c6 c7 => hD t b l r c1 c2 c3 c4 c5 c6 (by omega)⟩
    · rw [if_neg (by omega), bd_some, bd_some, show (tt : Int) + (hh : Int) = ((tt + hh : Nat) : Int) by omega, show (lf : Int) + (ww : Int) = ((lf + ww : Nat) : Int) by omega]
      obtain ⟨q', fr', se', pi', le', li', z1, z2, z3⟩ := mo_layBox hN h hp hcl hkl hcl1 (t := tt) (b := tt + hh) (l := lf) (r := lf + ww) (by omega) (by omega) (by omega) (by omega) pi le li q fr se (fun t b l r c1 c2 c3 c4 c5 c6 c7 => by
        have := hD t b l r (by omega) c2 (by omega) (by omega) c5 (by omega) (by omega)
        exact ⟨this.1, this.2.1⟩)
      rw [z1, bd_some, bd_some, show (lf : Int) + 1 = ((lf + 1 : Nat) : Int) by omega]
      refine ih (lf + 1) _ _ _ _ q' fr' se' pi' le' li' (by omega) (by omega) (by omega) (fun t b l r c1 c2 c3 c4 c5 c6 c7 => ?_)
      by_cases d : t = tt ∧ b = tt + hh ∧ l = lf ∧ r = lf + ww
      · obtain ⟨rfl, rfl, rfl, rfl⟩ := d
        exact z2
      · have hne : ((bx t b l r : Nat) : Int) ≠ ((bx tt (tt + hh) lf (lf + ww) : Nat) : Int) := fun hq => by
          have := bx_inj (by omega) (by omega) (by omega) (by omega) (by omega) (by omega) (show bx t b l r = bx tt (tt + hh) lf (lf + ww) by omega)
          omega
        have := hD t b l r c1 c2 c3 c4 c5 c6 (by omega)
        unfold MTab at this ⊢
        rw [(z3 _ hne).1, (z3 _ hne).2.1, (z3 _ hne).2.2]
        exact this
theorem lay_148 (hN : 4000 ≤ N) (h : PC R C jr jb all cnt cells now pane size) (hp : p < cnt) (hcl : now 2 = cl) (hkl : now 3 = kl) (hcl1 : 1 ≤ cl) (htb0 : t0 ≤ b0) (hb0 : b0 < R) (hlr0 : l0 ≤ r0) (hr0 : r0 < C) {hh ww : Nat} (hh0 : hh ≤ b0 - t0) (hw0 : ww ≤ r0 - l0) (k124 k135 : Int → Int → Int → Int → Int → (Int → Int) → (Int → Int) → (Int → Int) → (Int → Int) → (Int → Int) → (Int → Int) → Option (Int × Int × Int × Int × Int × (Int → Int) × (Int → Int) × (Int → Int) × (Int → Int) × (Int → Int) × (Int → Int))) :
    ∀ (n tt : Nat) (T B L Q : Int) (q fr se pi le li : Int → Int), t0 ≤ tt → tt + hh ≤ b0 + 1 → b0 + 1 < n + tt → MDone N (cells p) all jr jb cl kl t0 b0 l0 r0 hh ww tt l0 pi le li →
      ∃ T' B' L' Q' q' fr' se' pi' le' li', f_mo_layPlan_148 N (p : Int) (t0 : Int) (b0 : Int) (l0 : Int) (r0 : Int) (hh : Int) (ww : Int) now pane k124 k135 n (tt : Int) T B L Q q fr se pi le li = k135 ((ww + 1 : Nat) : Int) T' B' L' Q' q' fr' se' pi' le' li' ∧ MDone N (cells p) all jr jb cl kl t0 b0 l0 r0 hh (ww + 1) t0 l0 pi' le' li' := by
  have hb7 := h.2.1.2.2.1
  intro n
  induction n with
  | zero => intro tt T B L Q q fr se pi le li a1 a2 a3; omega
  | succ n ih =>
    intro tt T B L Q q fr se pi le li a1 a2 a3 hD
    rw [f_mo_layPlan_148.eq_2, og_pos (by omega), og_pos (by omega)]
    by_cases c : tt + hh = b0 + 1
    · rw [if_pos (by omega), bd_some]
      exact ⟨T, B, L, Q, q, fr, se, pi, le, li, rfl, fun t b l r c1 c2 c3 c4 c5 c6 c7 => hD t b l r c1 c2 c3 c4 c5 c6 (by omega)⟩
    · rw [if_neg (by omega)]
      obtain ⟨T', B', L', Q', q', fr', se', pi', le', li', z1, z2⟩ := lay_161 hN h hp hcl hkl hcl1 htb0 hb0 hlr0 hr0 (hh := hh) (ww := ww) (tt := tt) a1 (by omega) hw0 k124 k135 (f_mo_layPlan_148 N (p : Int) (t0 : Int) (b0 : Int) (l0 : Int) (r0 : Int) (hh : Int) (ww : Int) now pane k124 k135 n) N l0 T B L Q q fr se pi le li (Nat.le_refl _) (by omega) (by omega) hD
      rw [z1]
      exact ih (tt + 1) T' B' L' Q' q' fr' se' pi' le' li' (by omega) (by omega) (by omega) z2
theorem lay_135 (hN : 4000 ≤ N) (h : PC R C jr jb all cnt cells now pane size) (hp : p < cnt) (hcl : now 2 = cl) (hkl : now 3 = kl) (hcl1 : 1 ≤ cl) (htb0 : t0 ≤ b0) (hb0 : b0 < R) (hlr0 : l0 ≤ r0) (hr0 : r0 < C) {hh : Nat} (hh0 : hh ≤ b0 - t0) (k124 : Int → Int → Int → Int → Int → (Int → Int) → (Int → Int) → (Int → Int) → (Int → Int) → (Int → Int) → (Int → Int) → Option (Int × Int × Int × Int × Int × (Int → Int) × (Int → Int) × (Int → Int) × (Int → Int) × (Int → Int) × (Int → Int))) :
    ∀ (n ww : Nat) (T B L Q : Int) (q fr se pi le li : Int → Int), ww ≤ r0 - l0 + 1 → r0 - l0 + 1 < n + ww → MDone N (cells p) all jr jb cl kl t0 b0 l0 r0 hh ww t0 l0 pi le li →
      ∃ T' B' L' Q' q' fr' se' pi' le' li', f_mo_layPlan_135 N (p : Int) (t0 : Int) (b0 : Int) (l0 : Int) (r0 : Int) (hh : Int) now pane k124 n (ww : Int) T B L Q q fr se pi le li = k124 ((hh + 1 : Nat) : Int) T' B' L' Q' q' fr' se' pi' le' li' ∧ MDone N (cells p) all jr jb cl kl t0 b0 l0 r0 (hh + 1) 0 t0 l0 pi' le' li' := by
  have hb7 := h.2.1.2.2.1
  intro n
  induction n with
  | zero => intro ww T B L Q q fr se pi le li a1 a2; omega
  | succ n ih =>
    intro ww T B L Q q fr se pi le li a1 a2 hD
    rw [f_mo_layPlan_135.eq_2, og_pos (by omega), og_pos (by omega)]
    by_cases c : ww = r0 - l0 + 1
    · rw [if_pos (by omega), bd_some]
      exact ⟨T, B, L, Q, q, fr, se, pi, le, li, rfl, fun t b l r c1 c2 c3 c4 c5 c6 c7 => hD t b l r c1 c2 c3 c4 c5 c6 (by omega)⟩
    · rw [if_neg (by omega)]
      obtain ⟨T', B', L', Q', q', fr', se', pi', le', li', z1, z2⟩ := lay_148 hN h hp hcl hkl hcl1 htb0 hb0 hlr0 hr0 (hh := hh) (ww := ww) hh0 (by omega) k124 (f_mo_layPlan_135 N (p : Int) (t0 : Int) (b0 : Int) (l0 : Int) (r0 : Int) (hh : Int) now pane k124 n) N t0 T B L Q q fr se pi le li (Nat.le_refl _) (by omega) (by omega) hD
      rw [z1]
      exact ih (ww + 1) T' B' L' Q' q' fr' se' pi' le' li' (by omega) (by omega) z2
theorem lay_124 (hN : 4000 ≤ N) (h : PC R C jr jb all cnt cells now pane size) (hp : p < cnt) (hcl : now 2 = cl) (hkl : now 3 = kl) (hcl1 : 1 ≤ cl) (htb0 : t0 ≤ b0) (hb0 : b0 < R) (hlr0 : l0 ≤ r0) (hr0 : r0 < C) :
    ∀ (n hh : Nat) (T B L Q : Int) (q fr se pi le li : Int → Int), hh ≤ b0 - t0 + 1 → b0 - t0 + 1 < n + hh → MDone N (cells p) all jr jb cl kl t0 b0 l0 r0 hh 0 t0 l0 pi le li →
      ∃ T' B' L' Q' q' fr' se' pi' le' li', f_mo_layPlan_124 N (p : Int) (t0 : Int) (b0 : Int) (l0 : Int) (r0 : Int) now pane n (hh : Int) T B L Q q fr se pi le li = some (((bx t0 b0 l0 r0 : Nat) : Int), T', B', L', Q', q', fr', se', pi', le', li') ∧ ∀ t b l r : Nat, t0 ≤ t → t ≤ b → b ≤ b0 → l0 ≤ l → l ≤ r → r ≤ r0 → MTab N (cells p) all jr jb cl kl t b l r pi' le' li' := by
  have hb7 := h.2.1.2.2.1
  intro n
  induction n with
  | zero => intro hh T B L Q q fr se pi le li a1 a2; omega
  | succ n ih =>
    intro hh T B L Q q fr se pi le li a1 a2 hD
    rw [f_mo_layPlan_124.eq_2, og_pos (by omega), og_pos (by omega)]
    by_cases c : hh = b0 - t0 + 1
    · rw [if_pos (by omega), mo_box, bd_some]
      exact ⟨T, B, L, Q, q, fr, se, pi, le, li, rfl, fun t b l r c1 c2 c3 c4 c5 c6 => hD t b l r c1 c2 c3 c4 c5 c6 (by omega)⟩
    · rw [if_neg (by omega)]
      obtain ⟨T', B', L', Q', q', fr', se', pi', le', li', z1, z2⟩ := lay_135 hN h hp hcl hkl hcl1 htb0 hb0 hlr0 hr0 (hh := hh) (by omega) (f_mo_layPlan_124 N (p : Int) (t0 : Int) (b0 : Int) (l0 : Int) (r0 : Int) now pane n) N 0 T B L Q q fr se pi le li (by omega) (by omega) hD
      rw [show ((0 : Nat) : Int) = 0 from rfl] at z1
      rw [z1]
      exact ih (hh + 1) T' B' L' Q' q' fr' se' pi' le' li' (by omega) (by omega) z2
/-- the smallest and the largest of a number of cells -/
def MC (pr : Nat → Prop) (f : Nat → Nat) (k : Nat) (a b : Int) : Prop := ((∀ u, u < k → ¬ pr u) ∧ a = 7 ∧ b = 0) ∨ ∃ x y : Nat, a = x ∧ b = y ∧ (x ≤ 6 ∧ y ≤ 6) ∧ (∃ u, u < k ∧ pr u ∧ f u = x) ∧ (∃ u, u < k ∧ pr u ∧ f u = y) ∧ ∀ u, u < k → pr u → x ≤ f u ∧ f u ≤ y
theorem MC.no {pr : Nat → Prop} {f : Nat → Nat} {k : Nat} {a b : Int} (h : MC pr f k a b) (hn : ¬ pr k) : MC pr f (k + 1) a b := by
  rcases h with ⟨h1, h2, h3⟩ | ⟨x, y, h1, h2, h0, ⟨u, u1, u2, u3⟩, ⟨v, v1, v2, v3⟩, h7⟩
  · refine Or.inl ⟨fun i hi => ?_, h2, h3⟩
    by_cases c : i = k
    · rw [c]; exact hn
    · exact h1 i (by omega)
  · refine Or.inr ⟨x, y, h1, h2, h0, ⟨u, by omega, u2, u3⟩, ⟨v, by omega, v2, v3⟩, fun i hi hp => ?_⟩
    by_cases c : i = k
    · rw [c] at hp; exact absurd hp hn
    · exact h7 i (by omega) hp
theorem MC.yes {pr : Nat → Prop} {f : Nat → Nat} {k : Nat} {a b : Int} (h : MC pr f k a b) (hf : f k ≤ 6) (hy : pr k) : MC pr f (k + 1) (if a ≤ (f k : Int) then a else (f k : Int)) (if (f k : Int) ≤ b then b else (f k : Int)) := by
  rcases h with ⟨h1, h2, h3⟩ | ⟨x, y, h1, h2, h0, ⟨u, u1, u2, u3⟩, ⟨v, v1, v2, v3⟩, h7⟩
  · refine Or.inr ⟨f k, f k, ?_, ?_, by omega, ⟨k, by omega, hy, rfl⟩, ⟨k, by omega, hy, rfl⟩, fun i hi hp => ?_⟩
    · rw [if_neg (by omega)]
    · by_cases c : (f k : Int) ≤ b
      · rw [if_pos c]; omega
      · rw [if_neg c]
    · by_cases c : i = k
      · rw [c]; exact ⟨Nat.le_refl _, Nat.le_refl _⟩
      · exact absurd hp (h1 i (by omega))
  · refine Or.inr ⟨if x ≤ f k then x else f k, if f k ≤ y then y else f k, ?_, ?_, ?_, ?_, ?_, fun i hi hp => ?_⟩
    · rw [h1]
      by_cases c : x ≤ f k
      · rw [if_pos c, if_pos (by omega)]
      · rw [if_neg c, if_neg (by omega)]
    · rw [h2]
      by_cases c : f k ≤ y
      · rw [if_pos c, if_pos (by omega)]
      · rw [if_neg c, if_neg (by omega)]
    · constructor <;> split <;> omega
    · split
      · exact ⟨u, by omega, u2, u3⟩
      · exact ⟨k, by omega, hy, rfl⟩
    · split
      · exact ⟨v, by omega, v2, v3⟩
      · exact ⟨k, by omega, hy, rfl⟩
    · by_cases c : i = k
      · rw [c]
        constructor <;> split <;> omega
      · have := h7 i (by omega) hp
        constructor <;> split <;> omega
theorem lay_15 (hN : 4000 ≤ N) (h : PC R C jr jb all cnt cells now pane size) (hp : p < cnt) (T B L Q : Int) (q fr se pi le li : Int → Int) :
    ∀ (n k : Nat) (t b l r : Int), k ≤ 49 → 49 < n + k → MC (fun u => pane u = p) (fun u => u / 7) k t b → MC (fun u => pane u = p) (fun u => u % 7) k l r →
      ∃ t' b' l' r', f_mo_layPlan_15 N (p : Int) T B L Q q fr se pi le li now pane n t b l r (k : Int) = f_mo_layPlan_124 N (p : Int) t' b' l' r' now pane N 0 T B L Q q fr se pi le li ∧ MC (fun u => pane u = p) (fun u => u / 7) 49 t' b' ∧ MC (fun u => pane u = p) (fun u => u % 7) 49 l' r' := by
  have hc := h.1
  have hxr : ∀ {f : Nat → Nat} {k : Nat} {a b : Int}, MC (fun u => pane (u : Int) = p) f k a b → xR a ∧ xR b := by
    intro f k a b hm
    rcases hm with ⟨-, h2, h3⟩ | ⟨x, y, h1, h2, h0, -⟩ <;> omega
  intro n
  induction n with
  | zero => intro k t b l r h1 h2; omega
  | succ n ih =>
    intro k t b l r h1 h2 hA hB
    rw [f_mo_layPlan_15.eq_2, og_pos (by omega)]
    by_cases hk : k = 49
    · subst hk
      rw [if_pos (by omega)]
      exact ⟨t, b, l, r, rfl, hA, hB⟩
    · obtain ⟨xa1, xa2⟩ := hxr hA
      obtain ⟨xb1, xb2⟩ := hxr hB
      rw [if_neg (by omega), og_pos (by omega), og_pos (h.marks _ (by omega) (by omega)), og_pos (by omega)]
      by_cases c : pane (k : Int) = p
      · rw [if_pos c, og_pos (by omega), og_pos (by omega), og_pos xa1]
        have e7 : (k : Int) / 7 = ((k / 7 : Nat) : Int) := by omega
        have e8 : (k : Int) % 7 = ((k % 7 : Nat) : Int) := by omega
        have ite1 : ∀ {P : Prop} [Decidable P] (x y : Int), (if P then some x else some y) = some (if P then x else y) := by intro P _ x y; split <;> rfl
        have hA' := hA.yes (k := k) (show k / 7 ≤ 6 by omega) c
        have hB' := hB.yes (k := k) (show k % 7 ≤ 6 by omega) c
        have fin : (if ((k % 7 : Nat) : Int) ≤ r then Option.bind (some ((k : Int) + 1)) fun l6_56 => some (r, l6_56) else Option.bind (some ((k % 7 : Nat) : Int)) fun l5_57 => Option.bind (some ((k : Int) + 1)) fun l6_58 => some (l5_57, l6_58)) = some (if ((k % 7 : Nat) : Int) ≤ r then r else ((k % 7 : Nat) : Int), ((k + 1 : Nat) : Int)) := by
          by_cases c5 : ((k % 7 : Nat) : Int) ≤ r
          · rw [if_pos c5, if_pos c5]; rfl
          · rw [if_neg c5, if_neg c5]; rfl
        rw [e7, e8, ite1, bd_some, og_pos xa2, ite1, bd_some, og_pos (by omega), og_pos xb1, ite1, bd_some, og_pos xb2, fin, bd_some]
        exact ih (k + 1) _ _ _ _ (by omega) (by omega) hA' hB'
      · rw [if_neg c, bd_some, show (k : Int) + 1 = ((k + 1 : Nat) : Int) by omega]
        exact ih (k + 1) t b l r (by omega) (by omega) (hA.no c) (hB.no c)
theorem mo_layPlan (hN : 4000 ≤ N) (h : PC R C jr jb all cnt cells now pane size) (hp : p < cnt) (hcl : now 2 = cl) (hkl : now 3 = kl) (hcl1 : 1 ≤ cl) (T B L Q : Int) (q fr se pi le li : Int → Int) :
    ∃ (t b l r : Nat) (T' B' L' Q' : Int) (q' fr' se' pi' le' li' : Int → Int), f_mo_layPlan N (p : Int) T B L Q now q pane fr se pi le li = some (((bx t b l r : Nat) : Int), T', B', L', Q', q', fr', se', pi', le', li') ∧ Frm (cells p) t b l r ∧ b < R ∧ r < C ∧ ∀ t' b' l' r' : Nat, t ≤ t' → t' ≤ b' → b' ≤ b → l ≤ l' → l' ≤ r' → r' ≤ r → MTab N (cells p) all jr jb cl kl t' b' l' r' pi' le' li' := by
  have hb7 := h.2.1.2.2.1
  obtain ⟨t, b, l, r, z1, z2, z3⟩ := lay_15 hN h hp T B L Q q fr se pi le li N 0 7 0 7 0 (by omega) (by omega) (Or.inl ⟨fun i hi => by omega, rfl, rfl⟩) (Or.inl ⟨fun i hi => by omega, rfl, rfl⟩)
  obtain ⟨f, hf, -⟩ := h.2.2.2.1.1 p hp
  obtain ⟨u0, hu0, rfl⟩ := eb_of (h.grid hp f hf)
  have hset := h.2.2.2.2.1 p hp
  have hp0 := (hset u0 hu0).mp hf
  rcases z2 with ⟨a1, -, -⟩ | ⟨x, y, rfl, rfl, x0, ⟨u1, u1a, u1b, u1c⟩, ⟨u2, u2a, u2b, u2c⟩, x7⟩
  · exact absurd hp0 (a1 u0 hu0)
  rcases z3 with ⟨a1, -, -⟩ | ⟨z, v, rfl, rfl, y0, ⟨u3, u3a, u3b, u3c⟩, ⟨u4, u4a, u4b, u4c⟩, y7⟩
  · exact absurd hp0 (a1 u0 hu0)
  have d1 := x7 u0 hu0 hp0
  have d2 := y7 u0 hu0 hp0
  have hfr : Frm (cells p) x y z v := by
    refine ⟨by omega, x0.2, by omega, y0.2, fun i hi => ?_, ⟨eb u1, (hset u1 u1a).mpr u1b, by rw [(eb_rc u1).1]; exact u1c⟩, ⟨eb u2, (hset u2 u2a).mpr u2b, by rw [(eb_rc u2).1]; exact u2c⟩, ⟨eb u3, (hset u3 u3a).mpr u3b, by rw [(eb_rc u3).2.1]; exact u3c⟩, ⟨eb u4, (hset u4 u4a).mpr u4b, by rw [(eb_rc u4).2.1]; exact u4c⟩⟩
    obtain ⟨w, hw, rfl⟩ := eb_of (h.grid hp i hi)
    rw [(eb_rc w).1, (eb_rc w).2.1]
    have e1 := x7 w hw ((hset w hw).mp hi)
    have e2 := y7 w hw ((hset w hw).mp hi)
    exact ⟨e1.1, e1.2, e2.1, e2.2⟩
  have hyR : y < R := by
    have := ((h.2.2.2.2.2.1 u2 u2a).1.mp (by rw [u2b]; omega)).1
    have hh : u2 / 7 = y := u2c
    omega
  have hvC : v < C := by
    have := ((h.2.2.2.2.2.1 u4 u4a).1.mp (by rw [u4b]; omega)).2
    have hh : u4 % 7 = v := u4c
    omega
  obtain ⟨T', B', L', Q', q', fr', se', pi', le', li', w1, w2⟩ := lay_124 (cl := cl) (kl := kl) (t0 := x) (b0 := y) (l0 := z) (r0 := v) hN h hp hcl hkl hcl1 hfr.1 hyR hfr.2.2.1 hvC N 0 T B L Q q fr se pi le li (by omega) (by omega) (fun t b l r c1 c2 c3 c4 c5 c6 c7 => by omega)
  refine ⟨x, y, z, v, T', B', L', Q', q', fr', se', pi', le', li', ?_, hfr, hyR, hvC, w2⟩
  unfold f_mo_layPlan
  exact z1.trans w1
end MLOOP
