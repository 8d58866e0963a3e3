/-! ===== PURE: the reference's plan: a rectangle ===== -/
def AOk (t b l r : Nat) (a : Int × Int × Int) : Prop := a = (-1, 0, -1) ∨ (plGood t b l r a ∧ plLine t b l r a)
theorem aok_lx {t b l r : Nat} {a c : Int × Int × Int} (h : AOk t b l r a) (hc : plGood t b l r c ∧ plLine t b l r c) : AOk t b l r (lx a c) := by
  unfold lx
  split
  · exact Or.inr hc
  · exact h
theorem aok_xr {t b l r : Nat} {a : Int × Int × Int} (hb : b ≤ 6) (hr : r ≤ 6) (h : AOk t b l r a) : xR a.1 ∧ xR a.2.1 ∧ xR a.2.2 := by
  rcases h with rfl | h
  · exact ⟨(by decide : xR (-1 : Int)), (by decide : xR (0 : Int)), (by decide : xR (-1 : Int))⟩
  · have := good_lim hb hr h
    have h2 := h.2
    unfold plLine at h2
    omega
section MBOX
variable {N R C : Nat} {jr jb all : BitVec 64} {cnt : Nat} {cells : Int → BitVec 64} {now pane size : Int → Int} {cl kl : Int} {p : Nat}
def MSub (N : Nat) (P all jr jb : BitVec 64) (cl kl : Int) (t b l r : Nat) (pi le : Int → Int) : Prop := ∀ t' b' l' r' : Nat, t ≤ t' → t' ≤ b' → b' ≤ b → l ≤ l' → l' ≤ r' → r' ≤ r → (b' - t') + (r' - l') < (b - t) + (r - l) → pi ((bx t' b' l' r' : Nat) : Int) = (pln N P all jr jb cl kl t' b' l' r').1 ∧ le ((bx t' b' l' r' : Nat) : Int) = (pln N P all jr jb cl kl t' b' l' r').2.1
theorem lay_140 (hN : 4000 ≤ N) (h : PC R C jr jb all cnt cells now pane size) (hp : p < cnt) (ho : EmOk (emB N (cells p) all jr jb cl kl) (cbB (cells p) jb) (crB (cells p) jr)) {t b l r : Nat} (htb : t ≤ b) (hbR : b < R) (hlr : l ≤ r) (hrC : r < C) {pi0 le0 li0 : Int → Int} (hsub : MSub N (cells p) all jr jb cl kl t b l r pi0 le0) (q fr se : Int → Int) :
    ∀ (n k : Nat) (acc : Int × Int × Int) (pi le li : Int → Int), l ≤ k → k ≤ r → r < n + k → AOk t b l r acc → (pi ((bx t b l r : Nat) : Int) = acc.1 ∧ le ((bx t b l r : Nat) : Int) = acc.2.1 ∧ li ((bx t b l r : Nat) : Int) = acc.2.2) → (∀ j : Int, j ≠ ((bx t b l r : Nat) : Int) → pi j = pi0 j ∧ le j = le0 j ∧ li j = li0 j) →
      ∃ pi' le' li', f_mo_layBox_140 N (p : Int) (t : Int) (b : Int) (l : Int) (r : Int) ((bx t b l r : Nat) : Int) q fr se now pane n (k : Int) pi le li = some (q, fr, se, pi', le', li') ∧ (pi' ((bx t b l r : Nat) : Int) = (foldL (fun k => cand (pln N (cells p) all jr jb cl kl t b l k) (pln N (cells p) all jr jb cl kl t b (k + 1) r) (crB (cells p) jr k t b) (7 + (k : Int))) (r - k) k acc).1 ∧ le' ((bx t b l r : Nat) : Int) = (foldL (fun k => cand (pln N (cells p) all jr jb cl kl t b l k) (pln N (cells p) all jr jb cl kl t b (k + 1) r) (crB (cells p) jr k t b) (7 + (k : Int))) (r - k) k acc).2.1 ∧ li' ((bx t b l r : Nat) : Int) = (foldL (fun k => cand (pln N (cells p) all jr jb cl kl t b l k) (pln N (cells p) all jr jb cl kl t b (k + 1) r) (crB (cells p) jr k t b) (7 + (k : Int))) (r - k) k acc).2.2) ∧ ∀ j : Int, j ≠ ((bx t b l r : Nat) : Int) → pi' j = pi0 j ∧ le' j = le0 j ∧ li' j = li0 j := by
  have hb7 := h.2.1.2.2.1
  intro n
  induction n with
  | zero => intro k acc pi le li h1 h2 h3; omega
  | succ n ih =>
    intro k acc pi le li h1 h2 h3 hA hat hw
    rw [f_mo_layBox_140.eq_2, og_pos (by omega), og_pos (by omega)]
    by_cases hk : k = r
    · rw [if_pos (by omega), show r - k = 0 by omega]
      exact ⟨pi, le, li, rfl, hat, hw⟩
    · rw [if_neg (by omega), show (k : Int) + 1 = ((k + 1 : Nat) : Int) by omega, mo_box, bd_some, mo_box, bd_some, mo_apartRight hN h hp (by omega) htb hbR, bd_some]
      have q1 := bx_lt (t := t) (b := b) (l := l) (r := k) (by omega) (by omega) (by omega) (by omega)
      have q2 := bx_lt (t := t) (b := b) (l := k + 1) (r := r) (by omega) (by omega) (by omega) (by omega)
      have q3 := bx_lt (t := t) (b := b) (l := l) (r := r) (by omega) (by omega) (by omega) (by omega)
      have d1 : bx t b l k ≠ bx t b l r := fun hq => by have := bx_inj (by omega) (by omega) (by omega) (by omega) (by omega) (by omega) hq; omega
      have d2 : bx t b (k + 1) r ≠ bx t b l r := fun hq => by have := bx_inj (by omega) (by omega) (by omega) (by omega) (by omega) (by omega) hq; omega
      have v1 := hsub t b l k (by omega) (by omega) (by omega) (by omega) (by omega) (by omega) (by omega)
      have v2 := hsub t b (k + 1) r (by omega) (by omega) (by omega) (by omega) (by omega) (by omega) (by omega)
      have w1 := hw ((bx t b l k : Nat) : Int) (by omega)
      have w2 := hw ((bx t b (k + 1) r : Nat) : Int) (by omega)
      have gg1 := pl_bound ho _ t b l k (Nat.le_refl _) (by omega) (by omega) (by omega) (by omega)
      have gg2 := pl_bound ho _ t b (k + 1) r (Nat.le_refl _) (by omega) (by omega) (by omega) (by omega)
      have gc : plGood t b l r (cand (pln N (cells p) all jr jb cl kl t b l k) (pln N (cells p) all jr jb cl kl t b (k + 1) r) (crB (cells p) jr k t b) (7 + (k : Int))) ∧ plLine t b l r (cand (pln N (cells p) all jr jb cl kl t b l k) (pln N (cells p) all jr jb cl kl t b (k + 1) r) (crB (cells p) jr k t b) (7 + (k : Int))) := cand_v (t := t) (b := b) (l := l) (r := r) (k := k) h1 (by omega) htb gg1.1 gg2.1 (ho.2.2.2 k t b htb (by omega))
      have gl := good_lim (by omega) (by omega) gc
      obtain ⟨x1, x2, x3⟩ := aok_xr (by omega) (by omega) hA
      have m1 : (cand (pln N (cells p) all jr jb cl kl t b l k) (pln N (cells p) all jr jb cl kl t b (k + 1) r) (crB (cells p) jr k t b) (7 + (k : Int))).1 = (pln N (cells p) all jr jb cl kl t b l k).1 + (pln N (cells p) all jr jb cl kl t b (k + 1) r).1 := rfl
      have m2 : (cand (pln N (cells p) all jr jb cl kl t b l k) (pln N (cells p) all jr jb cl kl t b (k + 1) r) (crB (cells p) jr k t b) (7 + (k : Int))).2.1 = (pln N (cells p) all jr jb cl kl t b l k).2.1 + (pln N (cells p) all jr jb cl kl t b (k + 1) r).2.1 + crB (cells p) jr k t b := rfl
      have gl1 : xR ((pln N (cells p) all jr jb cl kl t b l k).1 + (pln N (cells p) all jr jb cl kl t b (k + 1) r).1) := by omega
      have gl2 : xR ((pln N (cells p) all jr jb cl kl t b l k).2.1 + (pln N (cells p) all jr jb cl kl t b (k + 1) r).2.1 + crB (cells p) jr k t b) := by omega
      obtain ⟨pi', le', li', z1, z2, z3⟩ := mo_tries (N := N) q3 q1 q2 (k := 7 + (k : Int)) (c := crB (cells p) jr k t b) (w1.1.trans v1.1) (w1.2.1.trans v1.2) (w2.1.trans v2.1) (w2.2.1.trans v2.2) hat.1 hat.2.1 hat.2.2 x1 x2 x3 gl1 gl2
      rw [z1, bd_some, bd_some]
      obtain ⟨pi2, le2, li2, y1, y2, y3⟩ := ih (k + 1) _ pi' le' li' (by omega) (by omega) (by omega) (aok_lx hA gc) z2 (fun j hj => ⟨(z3 j hj).1.trans (hw j hj).1, (z3 j hj).2.1.trans (hw j hj).2.1, (z3 j hj).2.2.trans (hw j hj).2.2⟩)
      refine ⟨pi2, le2, li2, y1, ?_, y3⟩
      rw [show r - k = (r - (k + 1)) + 1 by omega]
      exact y2
theorem lay_75 (hN : 4000 ≤ N) (h : PC R C jr jb all cnt cells now pane size) (hp : p < cnt) (ho : EmOk (emB N (cells p) all jr jb cl kl) (cbB (cells p) jb) (crB (cells p) jr)) {t b l r : Nat} (htb : t ≤ b) (hbR : b < R) (hlr : l ≤ r) (hrC : r < C) {pi0 le0 li0 : Int → Int} (hsub : MSub N (cells p) all jr jb cl kl t b l r pi0 le0) (q fr se : Int → Int) :
    ∀ (n k : Nat) (acc : Int × Int × Int) (pi le li : Int → Int), t ≤ k → k ≤ b → b < n + k → AOk t b l r acc → (pi ((bx t b l r : Nat) : Int) = acc.1 ∧ le ((bx t b l r : Nat) : Int) = acc.2.1 ∧ li ((bx t b l r : Nat) : Int) = acc.2.2) → (∀ j : Int, j ≠ ((bx t b l r : Nat) : Int) → pi j = pi0 j ∧ le j = le0 j ∧ li j = li0 j) →
      ∃ pi' le' li', f_mo_layBox_75 N (p : Int) (t : Int) (b : Int) (l : Int) (r : Int) ((bx t b l r : Nat) : Int) q fr se now pane n (k : Int) pi le li = some (q, fr, se, pi', le', li') ∧ (pi' ((bx t b l r : Nat) : Int) = (foldL (fun k => cand (pln N (cells p) all jr jb cl kl t b l k) (pln N (cells p) all jr jb cl kl t b (k + 1) r) (crB (cells p) jr k t b) (7 + (k : Int))) (r - l) l (foldL (fun k => cand (pln N (cells p) all jr jb cl kl t k l r) (pln N (cells p) all jr jb cl kl (k + 1) b l r) (cbB (cells p) jb k l r) (k : Int)) (b - k) k acc)).1 ∧ le' ((bx t b l r : Nat) : Int) = (foldL (fun k => cand (pln N (cells p) all jr jb cl kl t b l k) (pln N (cells p) all jr jb cl kl t b (k + 1) r) (crB (cells p) jr k t b) (7 + (k : Int))) (r - l) l (foldL (fun k => cand (pln N (cells p) all jr jb cl kl t k l r) (pln N (cells p) all jr jb cl kl (k + 1) b l r) (cbB (cells p) jb k l r) (k : Int)) (b - k) k acc)).2.1 ∧ li' ((bx t b l r : Nat) : Int) = (foldL (fun k => cand (pln N (cells p) all jr jb cl kl t b l k) (pln N (cells p) all jr jb cl kl t b (k + 1) r) (crB (cells p) jr k t b) (7 + (k : Int))) (r - l) l (foldL (fun k => cand (pln N (cells p) all jr jb cl kl t k l r) (pln N (cells p) all jr jb cl kl (k + 1) b l r) (cbB (cells p) jb k l r) (k : Int)) (b - k) k acc)).2.2) ∧ ∀ j : Int, j ≠ ((bx t b l r : Nat) : Int) → pi' j = pi0 j ∧ le' j = le0 j ∧ li' j = li0 j := by
  have hb7 := h.2.1.2.2.1
  intro n
  induction n with
  | zero => intro k acc pi le li h1 h2 h3; omega
  | succ n ih =>
    intro k acc pi le li h1 h2 h3 hA hat hw
    rw [f_mo_layBox_75.eq_2, og_pos (by omega), og_pos (by omega)]
    by_cases hk : k = b
    · rw [if_pos (by omega), show b - k = 0 by omega]
      exact lay_140 hN h hp ho htb hbR hlr hrC hsub q fr se N l acc pi le li (Nat.le_refl _) hlr (by omega) hA hat hw
    · rw [if_neg (by omega), show (k : Int) + 1 = ((k + 1 : Nat) : Int) by omega, mo_box, bd_some, mo_box, bd_some, mo_apartBelow hN h hp (by omega) hlr hrC, bd_some]
      have q1 := bx_lt (t := t) (b := k) (l := l) (r := r) (by omega) (by omega) (by omega) (by omega)
      have q2 := bx_lt (t := k + 1) (b := b) (l := l) (r := r) (by omega) (by omega) (by omega) (by omega)
      have q3 := bx_lt (t := t) (b := b) (l := l) (r := r) (by omega) (by omega) (by omega) (by omega)
      have d1 : bx t k l r ≠ bx t b l r := fun hq => by have := bx_inj (by omega) (by omega) (by omega) (by omega) (by omega) (by omega) hq; omega
      have d2 : bx (k + 1) b l r ≠ bx t b l r := fun hq => by have := bx_inj (by omega) (by omega) (by omega) (by omega) (by omega) (by omega) hq; omega
      have v1 := hsub t k l r (by omega) (by omega) (by omega) (by omega) (by omega) (by omega) (by omega)
      have v2 := hsub (k + 1) b l r (by omega) (by omega) (by omega) (by omega) (by omega) (by omega) (by omega)
      have w1 := hw ((bx t k l r : Nat) : Int) (by omega)
      have w2 := hw ((bx (k + 1) b l r : Nat) : Int) (by omega)
      have gg1 := pl_bound ho _ t k l r (Nat.le_refl _) (by omega) (by omega) (by omega) (by omega)
      have gg2 := pl_bound ho _ (k + 1) b l r (Nat.le_refl _) (by omega) (by omega) (by omega) (by omega)
      have gc : plGood t b l r (cand (pln N (cells p) all jr jb cl kl t k l r) (pln N (cells p) all jr jb cl kl (k + 1) b l r) (cbB (cells p) jb k l r) (k : Int)) ∧ plLine t b l r (cand (pln N (cells p) all jr jb cl kl t k l r) (pln N (cells p) all jr jb cl kl (k + 1) b l r) (cbB (cells p) jb k l r) (k : Int)) := cand_h (t := t) (b := b) (l := l) (r := r) (k := k) h1 (by omega) hlr gg1.1 gg2.1 (ho.2.2.1 k l r hlr (by omega))
      have gl := good_lim (by omega) (by omega) gc
      obtain ⟨x1, x2, x3⟩ := aok_xr (by omega) (by omega) hA
      have m1 : (cand (pln N (cells p) all jr jb cl kl t k l r) (pln N (cells p) all jr jb cl kl (k + 1) b l r) (cbB (cells p) jb k l r) (k : Int)).1 = (pln N (cells p) all jr jb cl kl t k l r).1 + (pln N (cells p) all jr jb cl kl (k + 1) b l r).1 := rfl
      have m2 : (cand (pln N (cells p) all jr jb cl kl t k l r) (pln N (cells p) all jr jb cl kl (k + 1) b l r) (cbB (cells p) jb k l r) (k : Int)).2.1 = (pln N (cells p) all jr jb cl kl t k l r).2.1 + (pln N (cells p) all jr jb cl kl (k + 1) b l r).2.1 + cbB (cells p) jb k l r := rfl
      have gl1 : xR ((pln N (cells p) all jr jb cl kl t k l r).1 + (pln N (cells p) all jr jb cl kl (k + 1) b l r).1) := by omega
      have gl2 : xR ((pln N (cells p) all jr jb cl kl t k l r).2.1 + (pln N (cells p) all jr jb cl kl (k + 1) b l r).2.1 + cbB (cells p) jb k l r) := by omega
      obtain ⟨pi', le', li', z1, z2, z3⟩ := mo_tries (N := N) q3 q1 q2 (k := (k : Int)) (c := cbB (cells p) jb k l r) (w1.1.trans v1.1) (w1.2.1.trans v1.2) (w2.1.trans v2.1) (w2.2.1.trans v2.2) hat.1 hat.2.1 hat.2.2 x1 x2 x3 gl1 gl2
      rw [z1, bd_some, bd_some]
      obtain ⟨pi2, le2, li2, y1, y2, y3⟩ := ih (k + 1) _ pi' le' li' (by omega) (by omega) (by omega) (aok_lx hA gc) z2 (fun j hj => ⟨(z3 j hj).1.trans (hw j hj).1, (z3 j hj).2.1.trans (hw j hj).2.1, (z3 j hj).2.2.trans (hw j hj).2.2⟩)
      refine ⟨pi2, le2, li2, y1, ?_, y3⟩
      rw [show b - k = (b - (k + 1)) + 1 by omega]
      exact y2
theorem mo_layBox (hN : 4000 ≤ N) (h : PC R C jr jb all cnt cells now pane size) (hp : p < cnt) (hcl : now 2 = cl) (hkl : now 3 = kl) (hcl1 : 1 ≤ cl) {t b l r : Nat} (htb : t ≤ b) (hbR : b < R) (hlr : l ≤ r) (hrC : r < C) (pi le li q fr se : Int → Int) (hsub : MSub N (cells p) all jr jb cl kl t b l r pi le) :
    ∃ q' fr' se' pi' le' li', f_mo_layBox N (p : Int) (t : Int) (b : Int) (l : Int) (r : Int) now q pane fr se pi le li = some (q', fr', se', pi', le', li') ∧ (pi' ((bx t b l r : Nat) : Int) = (pln N (cells p) all jr jb cl kl t b l r).1 ∧ le' ((bx t b l r : Nat) : Int) = (pln N (cells p) all jr jb cl kl t b l r).2.1 ∧ li' ((bx t b l r : Nat) : Int) = (pln N (cells p) all jr jb cl kl t b l r).2.2) ∧ ∀ j : Int, j ≠ ((bx t b l r : Nat) : Int) → pi' j = pi j ∧ le' j = le j ∧ li' j = li j := by
  have hb7 := h.2.1.2.2.1
  have hv2 := h.2.1.2.2.2.1 2 (by omega) (by omega)
  have hv3 := h.2.1.2.2.2.1 3 (by omega) (by omega)
  rw [hcl] at hv2
  rw [hkl] at hv3
  have hbb : R ≤ 7 ∧ C ≤ 7 := by omega
  have ho := emB_ok hN (jr := jr) (jb := jb) hbb h.2.2.1 (h.sub hp) (cl := cl) (kl := kl) (by omega) (by omega) hcl1 hv3.1
  obtain ⟨x, -, x2, -, x4, x5⟩ := emB_spec hN (jr := jr) (jb := jb) hbb h.2.2.1 (h.sub hp) (cl := cl) (kl := kl) (by omega) (by omega) htb (show b ≤ 6 by omega) hlr (show r ≤ 6 by omega)
  have hg : Grid (cells p &&& x) := fun i hi => h.grid hp i ((x2 i).mp hi).1
  have hPT : PT (cells p &&& x) pane p t b l r := fun u hu => by
    obtain ⟨e1, e2, -⟩ := eb_rc u
    rw [x2, h.2.2.2.2.1 p hp u hu, e1, e2]
    constructor
    · rintro ⟨a1, a2⟩; exact ⟨a2, a1⟩
    · rintro ⟨a1, a2⟩; exact ⟨a2, a1⟩
  obtain ⟨v, q', fr', se', v1, v2⟩ := mo_easyMany hN h hcl hkl hp htb hlr hbR hrC hg hPT (h.join hp) q fr se
  have hv := v2.uniq x4
  subst hv
  have q3 := bx_lt (t := t) (b := b) (l := l) (r := r) (by omega) (by omega) (by omega) (by omega)
  have har := area_le (t := t) (l := l) (show b ≤ 6 by omega) (show r ≤ 6 by omega)
  have hrun : f_mo_layBox N (p : Int) (t : Int) (b : Int) (l : Int) (r : Int) now q pane fr se pi le li = if emB N (cells p) all jr jb cl kl t b l r = -1 then f_mo_layBox_75 N (p : Int) (t : Int) (b : Int) (l : Int) (r : Int) ((bx t b l r : Nat) : Int) q' fr' se' now pane N (t : Int) (upi pi ((bx t b l r : Nat) : Int) (emB N (cells p) all jr jb cl kl t b l r)) (upi le ((bx t b l r : Nat) : Int) 0) (upi li ((bx t b l r : Nat) : Int) (-1)) else some (q', fr', se', upi pi ((bx t b l r : Nat) : Int) (emB N (cells p) all jr jb cl kl t b l r), upi le ((bx t b l r : Nat) : Int) 0, upi li ((bx t b l r : Nat) : Int) (-1)) := by
    unfold f_mo_layBox
    rw [mo_box, bd_some, v1, bd_some, og_pos (by omega), bd_some, bd_some, bd_some]
    exact og_pos (show xR (emB N (cells p) all jr jb cl kl t b l r) by omega)
  rw [hrun]
  by_cases c : emB N (cells p) all jr jb cl kl t b l r = -1
  · rw [if_pos c]
    have hsub' : MSub N (cells p) all jr jb cl kl t b l r (upi pi ((bx t b l r : Nat) : Int) (emB N (cells p) all jr jb cl kl t b l r)) (upi le ((bx t b l r : Nat) : Int) 0) := by
      intro t' b' l' r' h1 h2 h3 h4 h5 h6 h7
      have hne : ((bx t' b' l' r' : Nat) : Int) ≠ ((bx t b l r : Nat) : Int) := fun hq => by
        have := bx_inj (by omega) (by omega) (by omega) (by omega) (by omega) (by omega) (show bx t' b' l' r' = bx t b l r by omega)
        omega
      rw [upi_n _ _ hne, upi_n _ _ hne]
      exact hsub t' b' l' r' h1 h2 h3 h4 h5 h6 h7
    obtain ⟨pi', le', li', z1, z2, z3⟩ := lay_75 hN h hp ho htb hbR hlr hrC (li0 := upi li ((bx t b l r : Nat) : Int) (-1)) hsub' q' fr' se' N t (-1, 0, -1) _ _ _ (Nat.le_refl _) htb (by omega) (Or.inl rfl) ⟨by rw [upi_s, c], by rw [upi_s], by rw [upi_s]⟩ (fun j hj => ⟨rfl, rfl, rfl⟩)
    refine ⟨q', fr', se', pi', le', li', z1, ?_, fun j hj => ⟨(z3 j hj).1.trans (upi_n _ _ hj), (z3 j hj).2.1.trans (upi_n _ _ hj), (z3 j hj).2.2.trans (upi_n _ _ hj)⟩⟩
    have heq : pln N (cells p) all jr jb cl kl t b l r = foldL (fun k => cand (pln N (cells p) all jr jb cl kl t b l k) (pln N (cells p) all jr jb cl kl t b (k + 1) r) (crB (cells p) jr k t b) (7 + (k : Int))) (r - l) l (foldL (fun k => cand (pln N (cells p) all jr jb cl kl t k l r) (pln N (cells p) all jr jb cl kl (k + 1) b l r) (cbB (cells p) jb k l r) (k : Int)) (b - t) t (-1, 0, -1)) := by
      show pl (emB N (cells p) all jr jb cl kl) (cbB (cells p) jb) (crB (cells p) jr) t b l r = _
      rw [pl_eq (by omega)]
      unfold plF
      rw [if_pos c]
      rfl
    rw [heq]
    exact z2
  · rw [if_neg c]
    have heq : pln N (cells p) all jr jb cl kl t b l r = (emB N (cells p) all jr jb cl kl t b l r, 0, -1) := (pl_bound ho _ t b l r (Nat.le_refl _) htb (by omega) hlr (by omega)).2.2 c
    refine ⟨q', fr', se', _, _, _, rfl, ?_, fun j hj => ⟨upi_n _ _ hj, upi_n _ _ hj, upi_n _ _ hj⟩⟩
    rw [heq, upi_s, upi_s, upi_s]
    exact ⟨rfl, rfl, rfl⟩
end MBOX
