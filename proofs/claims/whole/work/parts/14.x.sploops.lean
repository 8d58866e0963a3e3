/-! ===== PURE: the plan's loops, the class's side (2) ===== -/
section SPLOOP
variable {N : Nat} {P all jr jb : BitVec 64} {cl kl : Int} {t0 b0 l0 r0 : Nat}
def Done (N : Nat) (P all jr jb : BitVec 64) (cl kl : Int) (t0 b0 l0 r0 : Nat) (lo h1 ea w1 : Nat) (w ln : Int → Int) : Prop :=
  ∀ t b l r : Nat, t0 ≤ t → t ≤ b → b ≤ b0 → l0 ≤ l → l ≤ r → r ≤ r0 → (b < lo ∨ (b = lo ∧ (h1 ≤ t ∨ (t + 1 = h1 ∧ (r < ea ∨ (r = ea ∧ w1 ≤ l)))))) →
    w ((plc t b l r : Nat) : Int) = 128 * (pln N P all jr jb cl kl t b l r).1 + (pln N P all jr jb cl kl t b l r).2.1 ∧ ln ((plc t b l r : Nat) : Int) = (pln N P all jr jb cl kl t b l r).2.2
theorem plan_73 {R C : Nat} (hN : 4000 ≤ N) (hbb : R ≤ 7 ∧ C ≤ 7) (hall : ∀ i, all.getLsbD i = true ↔ i / 8 < R ∧ i % 8 < C) (hP : ∀ i, P.getLsbD i = true → all.getLsbD i = true) (hcl : xR cl) (hkl : xR kl) (hcl1 : 1 ≤ cl) (hkl0 : 0 ≤ kl) (hb6 : b0 ≤ 6) (hr6 : r0 ≤ 6) (pl : Int) {lo h1 ea : Nat} (hlo : lo ≤ b0) (hh1 : t0 < h1) (hh2 : h1 ≤ lo + 1) (hea1 : l0 ≤ ea) (hea : ea ≤ r0)
    (k36 k46 k60 : Int → (Int → Int) → (Int → Int) → Option (Int × BitVec 64 × Int × Int × Int × Int × (Int → Int) × (Int → Int))) :
    ∀ (n w1 : Nat) (w ln : Int → Int), l0 ≤ w1 → w1 ≤ ea + 1 → w1 < n + l0 → Done N P all jr jb cl kl t0 b0 l0 r0 lo h1 ea w1 w ln →
      ∃ w' ln', f_sp_plan_73 N (lo : Int) ((h1 : Int) - 1) (ea : Int) pl P (t0 : Int) (b0 : Int) (l0 : Int) (r0 : Int) cl kl all jr jb k36 k46 k60 n ((w1 : Int) - 1) w ln = k60 ((ea + 1 : Nat) : Int) w' ln' ∧ Done N P all jr jb cl kl t0 b0 l0 r0 lo h1 (ea + 1) (ea + 2) w' ln' := by
  intro n
  induction n with
  | zero => intro w1 w ln a1 a2 a3; omega
  | succ n ih =>
    intro w1 w ln a1 a2 a3 hD
    rw [f_sp_plan_73.eq_2, og_pos (by omega), og_pos (by omega)]
    by_cases hw : w1 = l0
    · rw [if_pos (by omega), bd_some]
      refine ⟨w, ln, rfl, fun t b l r c1 c2 c3 c4 c5 c6 c7 => hD t b l r c1 c2 c3 c4 c5 c6 (by omega)⟩
    · rw [if_neg (by omega)]
      obtain ⟨w', ln', q1, q2, q3, q4⟩ := sp_planPart (N := N) (P := P) (all := all) (jr := jr) (jb := jb) (cl := cl) (kl := kl) hN hbb hall hP hcl hkl hcl1 hkl0 (t := h1 - 1) (b := lo) (l := w1 - 1) (r := ea) (by omega) (by omega) (by omega) (by omega) (w := w) (ln := ln) (fun t b l r c1 c2 c3 c4 c5 c6 c7 => (hD t b l r (by omega) c2 (by omega) (by omega) c5 (by omega) (by omega)).1)
      rw [show ((h1 - 1 : Nat) : Int) = (h1 : Int) - 1 by omega, show ((w1 - 1 : Nat) : Int) = (w1 : Int) - 1 by omega] at q1
      rw [q1, bd_some, bd_some, show (w1 : Int) - 1 + -1 = ((w1 - 1 : Nat) : Int) - 1 by omega]
      refine ih (w1 - 1) w' ln' (by omega) (by omega) (by omega) (fun t b l r c1 c2 c3 c4 c5 c6 c7 => ?_)
      by_cases c : t = h1 - 1 ∧ b = lo ∧ l = w1 - 1 ∧ r = ea
      · obtain ⟨rfl, rfl, rfl, rfl⟩ := c
        exact ⟨q2, q3⟩
      · have hne : ((plc t b l r : Nat) : Int) ≠ ((plc (h1 - 1) lo (w1 - 1) ea : Nat) : Int) := fun hq => by
          have := plc_inj c2 (by omega) c5 (by omega) (by omega) (by omega) (by omega) (by omega) (show plc t b l r = plc (h1 - 1) lo (w1 - 1) ea by omega)
          omega
        rw [(q4 _ hne).1, (q4 _ hne).2]
        exact hD t b l r c1 c2 c3 c4 c5 c6 (by omega)
theorem plan_60 {R C : Nat} (hN : 4000 ≤ N) (hbb : R ≤ 7 ∧ C ≤ 7) (hall : ∀ i, all.getLsbD i = true ↔ i / 8 < R ∧ i % 8 < C) (hP : ∀ i, P.getLsbD i = true → all.getLsbD i = true) (hcl : xR cl) (hkl : xR kl) (hcl1 : 1 ≤ cl) (hkl0 : 0 ≤ kl) (hb6 : b0 ≤ 6) (hr6 : r0 ≤ 6) (pl : Int) {lo h1 : Nat} (hlo : lo ≤ b0) (hh1 : t0 < h1) (hh2 : h1 ≤ lo + 1)
    (k36 k46 : Int → (Int → Int) → (Int → Int) → Option (Int × BitVec 64 × Int × Int × Int × Int × (Int → Int) × (Int → Int))) :
    ∀ (n ea : Nat) (w ln : Int → Int), l0 ≤ ea → ea ≤ r0 + 1 → r0 + 1 < n + ea → Done N P all jr jb cl kl t0 b0 l0 r0 lo h1 ea (ea + 1) w ln →
      ∃ w' ln', f_sp_plan_60 N (lo : Int) ((h1 : Int) - 1) pl P (t0 : Int) (b0 : Int) (l0 : Int) (r0 : Int) cl kl all jr jb k36 k46 n (ea : Int) w ln = k46 (((h1 - 1 : Nat) : Int) - 1) w' ln' ∧ Done N P all jr jb cl kl t0 b0 l0 r0 lo (h1 - 1) l0 (l0 + 1) w' ln' := by
  intro n
  induction n with
  | zero => intro ea w ln a1 a2 a3; omega
  | succ n ih =>
    intro ea w ln a1 a2 a3 hD
    rw [f_sp_plan_60.eq_2, og_pos (by omega), og_pos (by omega)]
    by_cases hw : ea = r0 + 1
    · rw [if_pos (by omega), bd_some, show (h1 : Int) - 1 + -1 = ((h1 - 1 : Nat) : Int) - 1 by omega]
      refine ⟨w, ln, rfl, fun t b l r c1 c2 c3 c4 c5 c6 c7 => hD t b l r c1 c2 c3 c4 c5 c6 (by omega)⟩
    · rw [if_neg (by omega)]
      obtain ⟨w', ln', q1, q2⟩ := plan_73 (N := N) (P := P) (all := all) (jr := jr) (jb := jb) (cl := cl) (kl := kl) (t0 := t0) (b0 := b0) (l0 := l0) (r0 := r0) hN hbb hall hP hcl hkl hcl1 hkl0 hb6 hr6 pl hlo hh1 hh2 a1 (show ea ≤ r0 by omega) k36 k46 (f_sp_plan_60 N (lo : Int) ((h1 : Int) - 1) pl P (t0 : Int) (b0 : Int) (l0 : Int) (r0 : Int) cl kl all jr jb k36 k46 n) N (ea + 1) w ln (by omega) (Nat.le_refl _) (by omega) hD
      rw [show ((ea + 1 : Nat) : Int) - 1 = (ea : Int) by omega] at q1
      rw [q1]
      exact ih (ea + 1) w' ln' (by omega) (by omega) (by omega) q2
theorem plan_46 {R C : Nat} (hN : 4000 ≤ N) (hbb : R ≤ 7 ∧ C ≤ 7) (hall : ∀ i, all.getLsbD i = true ↔ i / 8 < R ∧ i % 8 < C) (hP : ∀ i, P.getLsbD i = true → all.getLsbD i = true) (hcl : xR cl) (hkl : xR kl) (hcl1 : 1 ≤ cl) (hkl0 : 0 ≤ kl) (hb6 : b0 ≤ 6) (hlr0 : l0 ≤ r0) (hr6 : r0 ≤ 6) (pl : Int) {lo : Nat} (hlo : lo ≤ b0)
    (k36 : Int → (Int → Int) → (Int → Int) → Option (Int × BitVec 64 × Int × Int × Int × Int × (Int → Int) × (Int → Int))) :
    ∀ (n h1 : Nat) (w ln : Int → Int), t0 ≤ h1 → h1 ≤ lo + 1 → h1 < n + t0 → Done N P all jr jb cl kl t0 b0 l0 r0 lo h1 l0 (l0 + 1) w ln →
      ∃ w' ln', f_sp_plan_46 N (lo : Int) pl P (t0 : Int) (b0 : Int) (l0 : Int) (r0 : Int) cl kl all jr jb k36 n ((h1 : Int) - 1) w ln = k36 ((lo + 1 : Nat) : Int) w' ln' ∧ Done N P all jr jb cl kl t0 b0 l0 r0 (lo + 1) (lo + 2) l0 (l0 + 1) w' ln' := by
  intro n
  induction n with
  | zero => intro h1 w ln a1 a2 a3; omega
  | succ n ih =>
    intro h1 w ln a1 a2 a3 hD
    rw [f_sp_plan_46.eq_2, og_pos (by omega), og_pos (by omega)]
    by_cases hw : h1 = t0
    · rw [if_pos (by omega), bd_some]
      refine ⟨w, ln, rfl, fun t b l r c1 c2 c3 c4 c5 c6 c7 => hD t b l r c1 c2 c3 c4 c5 c6 (by omega)⟩
    · rw [if_neg (by omega)]
      obtain ⟨w', ln', q1, q2⟩ := plan_60 (N := N) (P := P) (all := all) (jr := jr) (jb := jb) (cl := cl) (kl := kl) (t0 := t0) (b0 := b0) (l0 := l0) (r0 := r0) hN hbb hall hP hcl hkl hcl1 hkl0 hb6 hr6 pl hlo (show t0 < h1 by omega) a2 k36 (f_sp_plan_46 N (lo : Int) pl P (t0 : Int) (b0 : Int) (l0 : Int) (r0 : Int) cl kl all jr jb k36 n) N l0 w ln (Nat.le_refl _) (by omega) (by omega) hD
      rw [q1]
      exact ih (h1 - 1) w' ln' (by omega) (by omega) (by omega) q2
theorem plan_36 {R C : Nat} (hN : 4000 ≤ N) (hbb : R ≤ 7 ∧ C ≤ 7) (hall : ∀ i, all.getLsbD i = true ↔ i / 8 < R ∧ i % 8 < C) (hP : ∀ i, P.getLsbD i = true → all.getLsbD i = true) (hcl : xR cl) (hkl : xR kl) (hcl1 : 1 ≤ cl) (hkl0 : 0 ≤ kl) (hb6 : b0 ≤ 6) (hlr0 : l0 ≤ r0) (hr6 : r0 ≤ 6) (pl : Int) :
    ∀ (n lo : Nat) (w ln : Int → Int), t0 ≤ lo → lo ≤ b0 + 1 → b0 + 1 < n + lo → Done N P all jr jb cl kl t0 b0 l0 r0 lo (lo + 1) l0 (l0 + 1) w ln →
      ∃ w' ln', f_sp_plan_36 N pl P (t0 : Int) (b0 : Int) (l0 : Int) (r0 : Int) cl kl all jr jb n (lo : Int) w ln = some (pl, P, (t0 : Int), (b0 : Int), (l0 : Int), (r0 : Int), w', ln') ∧ SPT N P all jr jb cl kl t0 b0 l0 r0 w' ln' := by
  intro n
  induction n with
  | zero => intro lo w ln a1 a2 a3; omega
  | succ n ih =>
    intro lo w ln a1 a2 a3 hD
    rw [f_sp_plan_36.eq_2, og_pos (by omega), og_pos (by omega)]
    by_cases hw : lo = b0 + 1
    · rw [if_pos (by omega)]
      exact ⟨w, ln, rfl, fun t b l r c1 c2 c3 c4 c5 c6 => hD t b l r c1 c2 c3 c4 c5 c6 (by omega)⟩
    · rw [if_neg (by omega)]
      obtain ⟨w', ln', q1, q2⟩ := plan_46 (N := N) (P := P) (all := all) (jr := jr) (jb := jb) (cl := cl) (kl := kl) (t0 := t0) (b0 := b0) (l0 := l0) (r0 := r0) hN hbb hall hP hcl hkl hcl1 hkl0 hb6 hlr0 hr6 pl (show lo ≤ b0 by omega) (f_sp_plan_36 N pl P (t0 : Int) (b0 : Int) (l0 : Int) (r0 : Int) cl kl all jr jb n) N (lo + 1) w ln (by omega) (Nat.le_refl _) (by omega) hD
      rw [show ((lo + 1 : Nat) : Int) - 1 = (lo : Int) by omega] at q1
      rw [q1]
      exact ih (lo + 1) w' ln' (by omega) (by omega) (by omega) q2
theorem sp_plan {R C cnt : Nat} {cells : Int → BitVec 64} {now pane size : Int → Int} (hN : 4000 ≤ N) (hPC : PC R C jr jb all cnt cells now pane size) (hcl : 1 ≤ cl ∧ cl ≤ 49) (hkl : 0 ≤ kl ∧ kl ≤ 8) {planned : Int} {scells : BitVec 64} {st sb sl sr : Int} {sw sln : Int → Int} (hS : SPL N cl kl all jr jb (cnt : Int) cells planned scells st sb sl sr sw sln) {p : Nat} (hp : p < cnt) :
    ∃ (t b l r : Nat) (w ln : Int → Int), f_sp_plan N (p : Int) cl kl all jr jb cells planned scells st sb sl sr sw sln = some ((p : Int), cells p, (t : Int), (b : Int), (l : Int), (r : Int), w, ln) ∧ Frm (cells p) t b l r ∧ SPT N (cells p) all jr jb cl kl t b l r w ln := by
  have hc := hPC.1
  have hb7 := hPC.2.1.2.2.1
  unfold f_sp_plan
  have hpl : xR planned := by
    rcases hS with h | ⟨h1, h2, -⟩ <;> omega
  rw [og_pos (by omega), og_pos hpl]
  by_cases c : (p : Int) = planned
  · rw [if_pos c]
    rcases hS with h | ⟨h1, h2, h3, t, b, l, r, h4, rfl, rfl, rfl, rfl, h5⟩
    · omega
    · rw [← c] at h3 h4 h5
      exact ⟨t, b, l, r, sw, sln, by rw [← c, h3], h4, h5⟩
  · rw [if_neg c, og_pos (by omega), bd_some]
    have hg := hPC.grid hp
    obtain ⟨f, hf, -⟩ := hPC.2.2.2.1.1 p hp
    obtain ⟨t, b, l, r, q1, q2⟩ := sp_frame (N := N) hN hg ⟨f, hf⟩ st sb sl sr
    rw [q1, bd_some]
    have q20 := q2
    obtain ⟨f1, f2, f3, f4, -⟩ := q20
    obtain ⟨w, ln, z1, z2⟩ := plan_36 (N := N) (P := cells p) (all := all) (jr := jr) (jb := jb) (cl := cl) (kl := kl) (t0 := t) (b0 := b) (l0 := l) (r0 := r) hN (show R ≤ 7 ∧ C ≤ 7 by omega) hPC.2.2.1 (hPC.sub hp) (by omega) (by omega) hcl.1 hkl.1 f2 f3 f4 (p : Int) N t sw sln (Nat.le_refl _) (by omega) (by omega) (fun t' b' l' r' c1 c2 c3 c4 c5 c6 c7 => by omega)
    exact ⟨t, b, l, r, w, ln, z1, q2, z2⟩
end SPLOOP
