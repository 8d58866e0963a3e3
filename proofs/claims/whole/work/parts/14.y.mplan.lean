/-! ===== PURE: the plan, the reference's side ===== -/
def bx (t b l r : Nat) : Nat := ((t * 7 + b) * 7 + l) * 7 + r
theorem mo_box {N t b l r : Nat} : f_mo_box N (t : Int) (b : Int) (l : Int) (r : Int) = some ((bx t b l r : Nat) : Int) := by
  unfold f_mo_box bx
  congr 1
theorem bx_lt {t b l r : Nat} (ht : t ≤ 6) (hb : b ≤ 6) (hl : l ≤ 6) (hr : r ≤ 6) : bx t b l r < 2401 := by unfold bx; omega
theorem bx_inj {t b l r t' b' l' r' : Nat} (hb : b ≤ 6) (hl : l ≤ 6) (hr : r ≤ 6) (hb' : b' ≤ 6) (hl' : l' ≤ 6) (hr' : r' ≤ 6) (h : bx t b l r = bx t' b' l' r') : t = t' ∧ b = b' ∧ l = l' ∧ r = r' := by unfold bx at h; omega
/-- joined neighbours lie in one pane -/
theorem PC.join {R C : Nat} {jr jb all : BitVec 64} {cnt : Nat} {cells : Int → BitVec 64} {now pane size : Int → Int} (h : PC R C jr jb all cnt cells now pane size) {p : Nat} (hp : p < cnt) : ∀ u v : Nat, u < 49 → v < 49 → EJ jr jb (eb u) (eb v) → pane u = p → pane v = p := by
  intro u v hu hv hE hpu
  have hset := h.2.2.2.2.1 p hp
  have hall := h.2.2.1
  obtain ⟨-, -, hb, -, hjr, hjb⟩ := h.2.1
  have hcu := (hset u hu).mpr hpu
  have ha : all.getLsbD (eb v) = true := by
    rw [hall]
    have hau := (hall (eb u)).mp (h.sub hp _ hcu)
    rcases hE with ⟨e, hj⟩ | ⟨e, hj⟩ | ⟨e, hj⟩ | ⟨e, hj⟩
    · have := (hjr _).mp hj; omega
    · have := (hjr _).mp hj; omega
    · have := (hjb _).mp hj; omega
    · have := (hjb _).mp hj; omega
  refine (hset v hv).mp ((h.2.2.2.1.2.2.1 p hp (eb u) (eb v) hcu).mpr ?_)
  exact (Rch.start rfl : Rch (EP (EJ jr jb) all) (fun z => z = eb u) (eb u)).step ⟨hE, ha⟩
section MPLAN
variable {N R C : Nat} {jr jb all : BitVec 64} {cnt : Nat} {cells : Int → BitVec 64} {now pane size : Int → Int}
theorem mo_apartBelow (hN : 4000 ≤ N) (h : PC R C jr jb all cnt cells now pane size) {p : Nat} (hp : p < cnt) {k l r : Nat} (hk : k < R) (hlr : l ≤ r) (hr : r < C) : f_mo_apartBelow N (p : Int) (k : Int) (l : Int) (r : Int) now pane = some (cbB (cells p) jb k l r) := by
  have hb := h.2.1.2.2.1
  have hc := h.1
  have key : ∀ n c : Nat, l ≤ c → c ≤ r + 1 → r + 1 < n + c → f_mo_apartBelow_6 N (p : Int) (k : Int) (r : Int) now pane n (cntB (fun c => decide (l ≤ c ∧ c ≤ r) && ((cells p).getLsbD (8 * k + c) && jb.getLsbD (8 * k + c))) c) (c : Int) = some (cbB (cells p) jb k l r) := by
    intro n
    induction n with
    | zero => intro c h1 h2 h3; omega
    | succ n ih =>
      intro c h1 h2 h3
      rw [f_mo_apartBelow_6.eq_2, og_pos (by omega), og_pos (by omega)]
      by_cases hend : c = r + 1
      · rw [if_pos (by omega), hend]
        unfold cbB
        rw [cntB_tail (m := r + 1) 7 (by omega) (fun i i1 i2 => by rw [decide_eq_false (show ¬ (l ≤ i ∧ i ≤ r) by omega)]; rfl)]
      · rw [if_neg (by omega), show 7 * (k : Int) + (c : Int) = ((7 * k + c : Nat) : Int) by omega, og_pos (by omega), og_pos (h.marks _ (by omega) (by omega)), og_pos (by omega), show (c : Int) + 1 = ((c + 1 : Nat) : Int) by omega]
        rw [← ih (c + 1) (by omega) (by omega) (by omega), cntB_s]
        have hset := h.2.2.2.2.1 p hp (7 * k + c) (by omega)
        have heb : eb (7 * k + c) = 8 * k + c := by unfold eb; omega
        rw [heb] at hset
        by_cases c1 : pane ((7 * k + c : Nat) : Int) = p
        · rw [if_pos c1, mo_joins1 h.2.1 (by omega) (by omega), heb, bd_some]
          by_cases c2 : jb.getLsbD (8 * k + c) = true
          · rw [if_pos c2, og_pos (by decide), if_neg (by decide), bd_some, bd_some, bd_some, if_pos (by rw [hset.mpr c1, c2, decide_eq_true (show l ≤ c ∧ c ≤ r by omega)]; rfl)]
          · rw [if_neg c2, og_pos (by decide), if_pos rfl, bd_some, bd_some, bd_some, if_neg (by rw [Bool.and_eq_true, Bool.and_eq_true]; exact fun hq => c2 hq.2.2)]
        · rw [if_neg c1, bd_some, bd_some, bd_some, if_neg (by rw [Bool.and_eq_true, Bool.and_eq_true]; exact fun hq => c1 (hset.mp hq.2.1))]
  unfold f_mo_apartBelow
  have := key N l (Nat.le_refl _) (by omega) (by omega)
  rw [cntB_f (fun i hi => by rw [decide_eq_false (show ¬ (l ≤ i ∧ i ≤ r) by omega)]; rfl)] at this
  exact this
theorem mo_apartRight (hN : 4000 ≤ N) (h : PC R C jr jb all cnt cells now pane size) {p : Nat} (hp : p < cnt) {k t b : Nat} (hk : k < C) (htb : t ≤ b) (hbR : b < R) : f_mo_apartRight N (p : Int) (k : Int) (t : Int) (b : Int) now pane = some (crB (cells p) jr k t b) := by
  have hb := h.2.1.2.2.1
  have hc := h.1
  have key : ∀ n c : Nat, t ≤ c → c ≤ b + 1 → b + 1 < n + c → f_mo_apartRight_6 N (p : Int) (k : Int) (b : Int) now pane n (cntB (fun i => decide (t ≤ i ∧ i ≤ b) && ((cells p).getLsbD (8 * i + k) && jr.getLsbD (8 * i + k))) c) (c : Int) = some (crB (cells p) jr k t b) := by
    intro n
    induction n with
    | zero => intro c h1 h2 h3; omega
    | succ n ih =>
      intro c h1 h2 h3
      rw [f_mo_apartRight_6.eq_2, og_pos (by omega), og_pos (by omega)]
      by_cases hend : c = b + 1
      · rw [if_pos (by omega), hend]
        unfold crB
        rw [cntB_tail (m := b + 1) 7 (by omega) (fun i i1 i2 => by rw [decide_eq_false (show ¬ (t ≤ i ∧ i ≤ b) by omega)]; rfl)]
      · rw [if_neg (by omega), show 7 * (c : Int) + (k : Int) = ((7 * c + k : Nat) : Int) by omega, og_pos (by omega), og_pos (h.marks _ (by omega) (by omega)), og_pos (by omega), show (c : Int) + 1 = ((c + 1 : Nat) : Int) by omega]
        rw [← ih (c + 1) (by omega) (by omega) (by omega), cntB_s]
        have hset := h.2.2.2.2.1 p hp (7 * c + k) (by omega)
        have heb : eb (7 * c + k) = 8 * c + k := by unfold eb; omega
        rw [heb] at hset
        by_cases c1 : pane ((7 * c + k : Nat) : Int) = p
        · rw [if_pos c1, mo_joins0 h.2.1 (by omega) (by omega), heb, bd_some]
          by_cases c2 : jr.getLsbD (8 * c + k) = true
          · rw [if_pos c2, og_pos (by decide), if_neg (by decide), bd_some, bd_some, bd_some, if_pos (by rw [hset.mpr c1, c2, decide_eq_true (show t ≤ c ∧ c ≤ b by omega)]; rfl)]
          · rw [if_neg c2, og_pos (by decide), if_pos rfl, bd_some, bd_some, bd_some, if_neg (by rw [Bool.and_eq_true, Bool.and_eq_true]; exact fun hq => c2 hq.2.2)]
        · rw [if_neg c1, bd_some, bd_some, bd_some, if_neg (by rw [Bool.and_eq_true, Bool.and_eq_true]; exact fun hq => c1 (hset.mp hq.2.1))]
  unfold f_mo_apartRight
  have := key N t (Nat.le_refl _) (by omega) (by omega)
  rw [cntB_f (fun i hi => by rw [decide_eq_false (show ¬ (t ≤ i ∧ i ≤ b) by omega)]; rfl)] at this
  exact this
theorem mo_tries {p a b : Nat} (hp : p < 2401) (ha : a < 2401) (hb : b < 2401) {x y acc : Int × Int × Int} {c k : Int} {pi le li : Int → Int} (h1 : pi a = x.1) (h2 : le a = x.2.1) (h3 : pi b = y.1) (h4 : le b = y.2.1) (h5 : pi p = acc.1) (h6 : le p = acc.2.1) (h7 : li p = acc.2.2)
    (r1 : xR acc.1) (r2 : xR acc.2.1) (r3 : xR acc.2.2) (r4 : xR (x.1 + y.1)) (r5 : xR (x.2.1 + y.2.1 + c)) :
    ∃ pi' le' li', f_mo_tries N (p : Int) k (a : Int) (b : Int) c pi le li = some (pi', le', li') ∧ (pi' p = (lx acc (cand x y c k)).1 ∧ le' p = (lx acc (cand x y c k)).2.1 ∧ li' p = (lx acc (cand x y c k)).2.2) ∧ ∀ j : Int, j ≠ p → pi' j = pi j ∧ le' j = le j ∧ li' j = li j := by
  have hset : f_mo_tries_78 N (p : Int) k (x.1 + y.1) (x.2.1 + y.2.1 + c) pi le li = some (upi pi p (x.1 + y.1), upi le p (x.2.1 + y.2.1 + c), upi li p k) := by
    unfold f_mo_tries_78
    rw [og_pos (by omega), bd_some, bd_some, bd_some]
  have yes : (acc.2.2 = -1 ∨ (cand x y c k).1 < acc.1 ∨ ((cand x y c k).1 = acc.1 ∧ (cand x y c k).2.1 < acc.2.1)) → f_mo_tries N (p : Int) k (a : Int) (b : Int) c pi le li = some (upi pi p (x.1 + y.1), upi le p (x.2.1 + y.2.1 + c), upi li p k) → ∃ pi' le' li', f_mo_tries N (p : Int) k (a : Int) (b : Int) c pi le li = some (pi', le', li') ∧ (pi' p = (lx acc (cand x y c k)).1 ∧ le' p = (lx acc (cand x y c k)).2.1 ∧ li' p = (lx acc (cand x y c k)).2.2) ∧ ∀ j : Int, j ≠ p → pi' j = pi j ∧ le' j = le j ∧ li' j = li j := by
    intro hc he
    refine ⟨_, _, _, he, ?_, fun j hj => ⟨upi_n _ _ hj, upi_n _ _ hj, upi_n _ _ hj⟩⟩
    rw [upi_s, upi_s, upi_s]
    unfold lx
    rw [if_pos hc]
    exact ⟨rfl, rfl, rfl⟩
  have no : ¬ (acc.2.2 = -1 ∨ (cand x y c k).1 < acc.1 ∨ ((cand x y c k).1 = acc.1 ∧ (cand x y c k).2.1 < acc.2.1)) → f_mo_tries N (p : Int) k (a : Int) (b : Int) c pi le li = some (pi, le, li) → ∃ pi' le' li', f_mo_tries N (p : Int) k (a : Int) (b : Int) c pi le li = some (pi', le', li') ∧ (pi' p = (lx acc (cand x y c k)).1 ∧ le' p = (lx acc (cand x y c k)).2.1 ∧ li' p = (lx acc (cand x y c k)).2.2) ∧ ∀ j : Int, j ≠ p → pi' j = pi j ∧ le' j = le j ∧ li' j = li j := by
    intro hc he
    refine ⟨_, _, _, he, ?_, fun j hj => ⟨rfl, rfl, rfl⟩⟩
    unfold lx
    rw [if_neg hc]
    exact ⟨h5, h6, h7⟩
  have k1 : (cand x y c k).1 = x.1 + y.1 := rfl
  have k2 : (cand x y c k).2.1 = x.2.1 + y.2.1 + c := rfl
  by_cases c1 : acc.2.2 = -1
  · refine yes (Or.inl c1) ?_
    unfold f_mo_tries
    rw [og_pos (by omega), og_pos (by omega), bd_some, bd_some, og_pos (by omega), h7, og_pos r3, if_pos c1, h1, h2, h3, h4, hset]
  · by_cases c2 : x.1 + y.1 < acc.1
    · refine yes (Or.inr (Or.inl c2)) ?_
      unfold f_mo_tries
      rw [og_pos (by omega), og_pos (by omega), bd_some, bd_some, og_pos (by omega), h7, og_pos r3, if_neg c1, h1, h2, h3, h4, h5, og_pos r4, og_pos r1, if_pos c2, hset]
    · by_cases c3 : x.1 + y.1 = acc.1
      · by_cases c4 : acc.2.1 ≤ x.2.1 + y.2.1 + c
        · refine no (by rw [k1, k2]; omega) ?_
          unfold f_mo_tries
          rw [og_pos (by omega), og_pos (by omega), bd_some, bd_some, og_pos (by omega), h7, og_pos r3, if_neg c1, h1, h2, h3, h4, h5, og_pos r4, og_pos r1, if_neg c2, if_pos c3, og_pos r5, h6, og_pos r2, if_pos c4]
        · refine yes (by rw [k1, k2]; omega) ?_
          unfold f_mo_tries
          rw [og_pos (by omega), og_pos (by omega), bd_some, bd_some, og_pos (by omega), h7, og_pos r3, if_neg c1, h1, h2, h3, h4, h5, og_pos r4, og_pos r1, if_neg c2, if_pos c3, og_pos r5, h6, og_pos r2, if_neg c4, hset]
      · refine no (by rw [k1, k2]; omega) ?_
        unfold f_mo_tries
        rw [og_pos (by omega), og_pos (by omega), bd_some, bd_some, og_pos (by omega), h7, og_pos r3, if_neg c1, h1, h2, h3, h4, h5, og_pos r4, og_pos r1, if_neg c2, if_neg c3]
end MPLAN
