/-! ===== PURE: the best split, as a function ===== -/
theorem foldL_congr {f g : Nat → Int × Int × Int} : ∀ (n k : Nat) (a : Int × Int × Int), (∀ i, k ≤ i → i < k + n → f i = g i) → foldL f n k a = foldL g n k a
  | 0, _, _, _ => rfl
  | n + 1, k, a, h => by
    show foldL f n (k + 1) (lx a (f k)) = foldL g n (k + 1) (lx a (g k))
    rw [h k (by omega) (by omega)]
    exact foldL_congr n (k + 1) _ (fun i h1 h2 => h i (by omega) (by omega))
theorem plF_congr {em : Nat → Nat → Nat → Nat → Int} {cb cr : Nat → Nat → Nat → Int} {g g' : Nat → Nat → Nat → Nat → Int × Int × Int} {t b l r : Nat} (h : ∀ t' b' l' r', (b' - t') + (r' - l') < (b - t) + (r - l) → g t' b' l' r' = g' t' b' l' r') : plF em cb cr g t b l r = plF em cb cr g' t b l r := by
  unfold plF
  by_cases c : em t b l r = -1
  · rw [if_pos c, if_pos c]
    rw [foldL_congr (f := fun k => cand (g t k l r) (g (k + 1) b l r) (cb k l r) (k : Int)) (g := fun k => cand (g' t k l r) (g' (k + 1) b l r) (cb k l r) (k : Int)) (b - t) t (-1, 0, -1) (fun i h1 h2 => by rw [h t i l r (by omega), h (i + 1) b l r (by omega)])]
    exact foldL_congr (r - l) l _ (fun i h1 h2 => by rw [h t b l i (by omega), h t b (i + 1) r (by omega)])
  · rw [if_neg c, if_neg c]
theorem plN_fuel {em : Nat → Nat → Nat → Nat → Int} {cb cr : Nat → Nat → Nat → Int} : ∀ (n m t b l r : Nat), (b - t) + (r - l) ≤ n → (b - t) + (r - l) ≤ m → plN em cb cr n t b l r = plN em cb cr m t b l r
  | 0, 0, _, _, _, _, _, _ => rfl
  | 0, m + 1, t, b, l, r, h1, h2 => by
    show (em t b l r, 0, -1) = plF em cb cr (plN em cb cr m) t b l r
    unfold plF
    rw [show b - t = 0 by omega, show r - l = 0 by omega]
    by_cases c : em t b l r = -1
    · rw [if_pos c, c]; rfl
    · rw [if_neg c]
  | n + 1, 0, t, b, l, r, h1, h2 => by
    show plF em cb cr (plN em cb cr n) t b l r = (em t b l r, 0, -1)
    unfold plF
    rw [show b - t = 0 by omega, show r - l = 0 by omega]
    by_cases c : em t b l r = -1
    · rw [if_pos c, c]; rfl
    · rw [if_neg c]
  | n + 1, m + 1, t, b, l, r, h1, h2 => by
    show plF em cb cr (plN em cb cr n) t b l r = plF em cb cr (plN em cb cr m) t b l r
    exact plF_congr (fun t' b' l' r' h => plN_fuel n m t' b' l' r' (by omega) (by omega))
theorem pl_eq {em : Nat → Nat → Nat → Nat → Int} {cb cr : Nat → Nat → Nat → Int} {t b l r : Nat} (h : (b - t) + (r - l) ≤ 12) : pl em cb cr t b l r = plF em cb cr (pl em cb cr) t b l r := by
  show plF em cb cr (plN em cb cr 12) t b l r = plF em cb cr (pl em cb cr) t b l r
  exact plF_congr (fun t' b' l' r' h' => plN_fuel 12 13 t' b' l' r' (by omega) (by omega))
theorem foldL_good {Good : Int × Int × Int → Prop} {f : Nat → Int × Int × Int} : ∀ (n k : Nat) (a : Int × Int × Int), (∀ i, k ≤ i → i < k + n → Good (f i)) → (a.2.2 = -1 ∨ Good a) → (1 ≤ n ∨ Good a) → Good (foldL f n k a)
  | 0, _, _, _, _, h => h.elim (fun h => by omega) id
  | n + 1, k, a, hf, ha, _ => by
    show Good (foldL f n (k + 1) (lx a (f k)))
    have hk := hf k (by omega) (by omega)
    have hg : Good (lx a (f k)) := by
      unfold lx
      split
      · exact hk
      · rename_i hc
        rcases ha with ha | ha
        · exact absurd (Or.inl ha) hc
        · exact ha
    exact foldL_good n (k + 1) _ (fun i h1 h2 => hf i (by omega) (by omega)) (Or.inr hg) (Or.inr hg)
def plGood (t b l r : Nat) (x : Int × Int × Int) : Prop := 0 ≤ x.1 ∧ x.1 ≤ (((b - t + 1) * (r - l + 1) : Nat) : Int) ∧ 0 ≤ x.2.1 ∧ x.2.1 + ((b - t + 1 : Nat) : Int) + ((r - l + 1 : Nat) : Int) ≤ 2 * (((b - t + 1) * (r - l + 1) : Nat) : Int)
def plLine (t b l r : Nat) (x : Int × Int × Int) : Prop := ((t : Int) ≤ x.2.2 ∧ x.2.2 < b) ∨ (7 + (l : Int) ≤ x.2.2 ∧ x.2.2 < 7 + (r : Int))
def EmOk (em : Nat → Nat → Nat → Nat → Int) (cb cr : Nat → Nat → Nat → Int) : Prop :=
  (∀ t b l r, t ≤ b → b ≤ 6 → l ≤ r → r ≤ 6 → em t b l r = -1 ∨ (0 ≤ em t b l r ∧ em t b l r ≤ (((b - t + 1) * (r - l + 1) : Nat) : Int))) ∧ (∀ t l, t ≤ 6 → l ≤ 6 → em t t l l ≠ -1) ∧
  (∀ k l r, l ≤ r → r ≤ 6 → 0 ≤ cb k l r ∧ cb k l r ≤ ((r - l + 1 : Nat) : Int)) ∧ (∀ k t b, t ≤ b → b ≤ 6 → 0 ≤ cr k t b ∧ cr k t b ≤ ((b - t + 1 : Nat) : Int))
theorem cand_h {t b l r k : Nat} (htk : t ≤ k) (hkb : k < b) (hlr : l ≤ r) {x y : Int × Int × Int} {c : Int} (hx : plGood t k l r x) (hy : plGood (k + 1) b l r y) (hc : 0 ≤ c ∧ c ≤ ((r - l + 1 : Nat) : Int)) : plGood t b l r (cand x y c (k : Int)) ∧ plLine t b l r (cand x y c (k : Int)) := by
  obtain ⟨x1, x2, x3, x4⟩ := hx
  obtain ⟨y1, y2, y3, y4⟩ := hy
  have e : (k - t + 1) * (r - l + 1) + (b - (k + 1) + 1) * (r - l + 1) = (b - t + 1) * (r - l + 1) := by
    rw [← Nat.add_mul]; congr 1; omega
  refine ⟨⟨?_, ?_, ?_, ?_⟩, Or.inl ⟨?_, ?_⟩⟩
  · show 0 ≤ x.1 + y.1; omega
  · show x.1 + y.1 ≤ _; omega
  · show 0 ≤ x.2.1 + y.2.1 + c; omega
  · show x.2.1 + y.2.1 + c + _ + _ ≤ _; omega
  · show (t : Int) ≤ (k : Int); omega
  · show (k : Int) < b; omega
theorem cand_v {t b l r k : Nat} (hlk : l ≤ k) (hkr : k < r) (htb : t ≤ b) {x y : Int × Int × Int} {c : Int} (hx : plGood t b l k x) (hy : plGood t b (k + 1) r y) (hc : 0 ≤ c ∧ c ≤ ((b - t + 1 : Nat) : Int)) : plGood t b l r (cand x y c (7 + (k : Int))) ∧ plLine t b l r (cand x y c (7 + (k : Int))) := by
  obtain ⟨x1, x2, x3, x4⟩ := hx
  obtain ⟨y1, y2, y3, y4⟩ := hy
  have e : (b - t + 1) * (k - l + 1) + (b - t + 1) * (r - (k + 1) + 1) = (b - t + 1) * (r - l + 1) := by
    rw [← Nat.mul_add]; congr 1; omega
  refine ⟨⟨?_, ?_, ?_, ?_⟩, Or.inr ⟨?_, ?_⟩⟩
  · show 0 ≤ x.1 + y.1; omega
  · show x.1 + y.1 ≤ _; omega
  · show 0 ≤ x.2.1 + y.2.1 + c; omega
  · show x.2.1 + y.2.1 + c + _ + _ ≤ _; omega
  · show 7 + (l : Int) ≤ 7 + (k : Int); omega
  · show 7 + (k : Int) < 7 + (r : Int); omega
theorem area_ge {h w : Nat} (hh : 1 ≤ h) (hw : 1 ≤ w) : h ≤ h * w ∧ w ≤ h * w := ⟨Nat.le_mul_of_pos_right h hw, Nat.le_mul_of_pos_left w hh⟩
theorem pl_bound {em : Nat → Nat → Nat → Nat → Int} {cb cr : Nat → Nat → Nat → Int} (ho : EmOk em cb cr) : ∀ (n t b l r : Nat), (b - t) + (r - l) ≤ n → t ≤ b → b ≤ 6 → l ≤ r → r ≤ 6 →
    plGood t b l r (pl em cb cr t b l r) ∧ (em t b l r = -1 → plLine t b l r (pl em cb cr t b l r)) ∧ (em t b l r ≠ -1 → pl em cb cr t b l r = (em t b l r, 0, -1)) := by
  obtain ⟨o1, o2, o3, o4⟩ := ho
  intro n
  induction n with
  | zero =>
    intro t b l r hn htb hb hlr hr
    have e1 : b = t := by omega
    have e2 : r = l := by omega
    subst e1; subst e2
    have hne := o2 b r hb hr
    have hem := o1 b b r r (by omega) hb (by omega) hr
    have heq : pl em cb cr b b r r = (em b b r r, 0, -1) := by
      rw [pl_eq (by omega)]; unfold plF; rw [if_neg hne]
    have ha := area_ge (h := b - b + 1) (w := r - r + 1) (by omega) (by omega)
    refine ⟨?_, fun h => absurd h hne, fun _ => heq⟩
    rw [heq]
    refine ⟨?_, ?_, ?_, ?_⟩
    · show 0 ≤ em b b r r; omega
    · show em b b r r ≤ _; omega
    · show (0 : Int) ≤ 0; omega
    · show (0 : Int) + _ + _ ≤ _; omega
  | succ n ih =>
    intro t b l r hn htb hb hlr hr
    have ha := area_ge (h := b - t + 1) (w := r - l + 1) (by omega) (by omega)
    have hem := o1 t b l r htb hb hlr hr
    by_cases c : em t b l r = -1
    · have hsz : 1 ≤ (b - t) + (r - l) := by
        apply Classical.byContradiction
        intro hc
        have e1 : b = t := by omega
        have e2 : r = l := by omega
        subst e1; subst e2
        exact o2 b r hb hr c
      have hg : (fun x => plGood t b l r x ∧ plLine t b l r x) (pl em cb cr t b l r) := by
        rw [pl_eq (by omega)]
        unfold plF
        rw [if_pos c]
        have hB : ∀ i, t ≤ i → i < t + (b - t) → (fun x => plGood t b l r x ∧ plLine t b l r x) (cand (pl em cb cr t i l r) (pl em cb cr (i + 1) b l r) (cb i l r) (i : Int)) := fun i h1 h2 =>
          cand_h h1 (by omega) hlr (ih t i l r (by omega) h1 (by omega) hlr hr).1 (ih (i + 1) b l r (by omega) (by omega) hb hlr hr).1 (o3 i l r hlr hr)
        have hR : ∀ i, l ≤ i → i < l + (r - l) → (fun x => plGood t b l r x ∧ plLine t b l r x) (cand (pl em cb cr t b l i) (pl em cb cr t b (i + 1) r) (cr i t b) (7 + (i : Int))) := fun i h1 h2 =>
          cand_v h1 (by omega) htb (ih t b l i (by omega) htb hb h1 (by omega)).1 (ih t b (i + 1) r (by omega) htb hb (by omega) hr).1 (o4 i t b htb hb)
        by_cases h1 : 1 ≤ b - t
        · have := foldL_good (Good := fun x => plGood t b l r x ∧ plLine t b l r x) (b - t) t (-1, 0, -1) hB (Or.inl rfl) (Or.inl h1)
          exact foldL_good (r - l) l _ hR (Or.inr this) (Or.inr this)
        · rw [show b - t = 0 by omega]
          exact foldL_good (Good := fun x => plGood t b l r x ∧ plLine t b l r x) (r - l) l (-1, 0, -1) hR (Or.inl rfl) (Or.inl (by omega))
      exact ⟨hg.1, fun _ => hg.2, fun h => absurd c h⟩
    · have heq : pl em cb cr t b l r = (em t b l r, 0, -1) := by
        rw [pl_eq (by omega)]; unfold plF; rw [if_neg c]
      refine ⟨?_, fun h => absurd h c, fun _ => heq⟩
      rw [heq]
      refine ⟨?_, ?_, ?_, ?_⟩
      · show 0 ≤ em t b l r; omega
      · show em t b l r ≤ _; omega
      · show (0 : Int) ≤ 0; omega
      · show (0 : Int) + _ + _ ≤ _; omega
theorem area_le {t b l r : Nat} (hb : b ≤ 6) (hr : r ≤ 6) : (b - t + 1) * (r - l + 1) ≤ 49 := Nat.mul_le_mul (show b - t + 1 ≤ 7 by omega) (show r - l + 1 ≤ 7 by omega)
theorem pl_lim {em : Nat → Nat → Nat → Nat → Int} {cb cr : Nat → Nat → Nat → Int} (ho : EmOk em cb cr) {t b l r : Nat} (htb : t ≤ b) (hb : b ≤ 6) (hlr : l ≤ r) (hr : r ≤ 6) :
    0 ≤ (pl em cb cr t b l r).1 ∧ (pl em cb cr t b l r).1 ≤ 49 ∧ 0 ≤ (pl em cb cr t b l r).2.1 ∧ (pl em cb cr t b l r).2.1 ≤ 96 ∧ -1 ≤ (pl em cb cr t b l r).2.2 ∧ (pl em cb cr t b l r).2.2 ≤ 13 ∧ ((pl em cb cr t b l r).2.2 = -1 ↔ em t b l r ≠ -1) := by
  obtain ⟨⟨h1, h2, h3, h4⟩, h5, h6⟩ := pl_bound ho ((b - t) + (r - l)) t b l r (Nat.le_refl _) htb hb hlr hr
  have := area_le (t := t) (l := l) hb hr
  refine ⟨h1, by omega, h3, by omega, ?_⟩
  by_cases c : em t b l r = -1
  · have h7 := h5 c
    unfold plLine at h7
    exact ⟨by omega, by omega, fun h => by omega, fun h => absurd c h⟩
  · rw [h6 c]
    exact ⟨(by show (-1 : Int) ≤ -1; decide), (by show (-1 : Int) ≤ 13; decide), fun _ => c, fun _ => rfl⟩
