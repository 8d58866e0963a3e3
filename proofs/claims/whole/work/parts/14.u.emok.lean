/-! ===== PURE: the numbers of the plan ===== -/
theorem sumN_one {f : Nat → Int} {k : Nat} : ∀ {n : Nat}, k < n → (∀ i, i < n → i ≠ k → f i = 0) → sumN f n = f k
  | 0, h, _ => by omega
  | n + 1, h, hf => by
    rw [sumN_s]
    by_cases c : k = n
    · subst c
      rw [sumN_0 (fun i hi => hf i (by omega) (by omega))]; omega
    · rw [sumN_one (n := n) (by omega) (fun i hi => hf i (by omega)), hf n (by omega) (by omega)]; omega
theorem sumN_ite {p : Nat → Bool} : ∀ n : Nat, sumN (fun i => if p i = true then 1 else 0) n = cntB p n
  | 0 => rfl
  | n + 1 => by rw [sumN_s, cntB_s, sumN_ite n]
theorem cntB_one {p : Nat → Bool} {k : Nat} : ∀ {n : Nat}, k < n → (∀ i, i < n → i ≠ k → p i = false) → cntB p n = if p k = true then 1 else 0
  | 0, h, _ => by omega
  | n + 1, h, hf => by
    rw [cntB_s]
    by_cases c : k = n
    · subst c
      rw [cntB_f (fun i hi => hf i (by omega) (by omega))]; omega
    · rw [cntB_one (n := n) (by omega) (fun i hi => hf i (by omega)), hf n (by omega) (by omega)]
      exact Int.add_zero _
theorem span_cnt : ∀ l r : Fin 7, l.val ≤ r.val → cntB (fun c => decide (l.val ≤ c ∧ c ≤ r.val)) 7 = ((r.val - l.val + 1 : Nat) : Int) := by decide +kernel
theorem span_le {l r : Nat} (hlr : l ≤ r) (hr : r ≤ 6) (q : Nat → Bool) : 0 ≤ cntB (fun c => decide (l ≤ c ∧ c ≤ r) && q c) 7 ∧ cntB (fun c => decide (l ≤ c ∧ c ≤ r) && q c) 7 ≤ ((r - l + 1 : Nat) : Int) := by
  refine ⟨(cntB_nn _ 7).1, ?_⟩
  rw [← span_cnt ⟨l, by omega⟩ ⟨r, by omega⟩ hlr]
  exact cntB_le (fun i _ h => by simp at h; simp; exact h.1)
theorem sumN_wle {f : Nat → Int} {g : Nat → Bool} {w : Int} : ∀ {n : Nat}, (∀ i, i < n → f i ≤ if g i = true then w else 0) → sumN f n ≤ cntB g n * w
  | 0, _ => by rw [cntB_0, Int.zero_mul]; exact Int.le_refl _
  | n + 1, h => by
    have h1 := sumN_wle (n := n) (fun i hi => h i (by omega))
    have h2 := h n (by omega)
    rw [sumN_s, cntB_s, Int.add_mul]
    by_cases c : g n = true
    · rw [if_pos c] at h2 ⊢
      rw [Int.one_mul]; omega
    · rw [if_neg c] at h2 ⊢
      rw [Int.zero_mul]; omega
theorem part_rows {x : BitVec 64} (hg : Grid x) : popc x = sumN (fun i => cntB (fun c => x.getLsbD (8 * i + c)) 7) 7 := by
  rw [popc_eb hg]
  have := cntB_rows (fun u => x.getLsbD (eb u)) 7 7
  rw [show 7 * 7 = 49 from rfl] at this
  rw [this]
  refine sumN_congr (fun i hi => cntB_congr (fun c hc => ?_))
  show x.getLsbD (eb (7 * i + c)) = _
  rw [show eb (7 * i + c) = 8 * i + c by unfold eb; omega]
theorem part_le {x : BitVec 64} {t b l r : Nat} (htb : t ≤ b) (hb : b ≤ 6) (hlr : l ≤ r) (hr : r ≤ 6) (hx : ∀ i, x.getLsbD i = true → t ≤ i / 8 ∧ i / 8 ≤ b ∧ l ≤ i % 8 ∧ i % 8 ≤ r) : popc x ≤ (((b - t + 1) * (r - l + 1) : Nat) : Int) := by
  have hg : Grid x := fun i hi => by
    have := hx i hi
    unfold gd; simp; omega
  rw [part_rows hg]
  refine Int.le_trans (sumN_wle (g := fun i => decide (t ≤ i ∧ i ≤ b)) (w := ((r - l + 1 : Nat) : Int)) (fun i hi => ?_)) ?_
  · by_cases c : t ≤ i ∧ i ≤ b
    · rw [if_pos (decide_eq_true c)]
      rw [← span_cnt ⟨l, by omega⟩ ⟨r, by omega⟩ hlr]
      refine cntB_le (fun k hk h => ?_)
      have := hx _ h
      exact decide_eq_true (show l ≤ k ∧ k ≤ r by omega)
    · rw [if_neg (by rw [decide_eq_true_eq]; exact c)]
      rw [cntB_f (fun k hk => ?_)]
      · exact Int.le_refl _
      · cases h : x.getLsbD (8 * i + k) with
        | false => rfl
        | true => have := hx _ h; omega
  · rw [span_cnt ⟨t, by omega⟩ ⟨b, by omega⟩ htb]
    exact Int.le_of_eq (by rw [Int.natCast_mul])
/-- the part of a pane in a rectangle -/
theorem emB_spec {N R C : Nat} (hN : 4000 ≤ N) {P all jr jb : BitVec 64} {cl kl : Int} (hb : R ≤ 7 ∧ C ≤ 7) (hall : ∀ i, all.getLsbD i = true ↔ i / 8 < R ∧ i % 8 < C) (hP : ∀ i, P.getLsbD i = true → all.getLsbD i = true) (hcl : xR cl) (hkl : xR kl) {t b l r : Nat} (htb : t ≤ b) (hb6 : b ≤ 6) (hlr : l ≤ r) (hr6 : r ≤ 6) :
    ∃ x, f_ce_block N (t : Int) (b : Int) (l : Int) (r : Int) = some x ∧ (∀ i, (P &&& x).getLsbD i = true ↔ P.getLsbD i = true ∧ t ≤ i / 8 ∧ i / 8 ≤ b ∧ l ≤ i % 8 ∧ i % 8 ≤ r) ∧ f_pa_countEasyFragments N (P &&& x) cl kl all jr jb = some (emB N P all jr jb cl kl t b l r) ∧ EMC jr jb (P &&& x) R C cl kl (emB N P all jr jb cl kl t b l r) ∧ (emB N P all jr jb cl kl t b l r = -1 ∨ (0 ≤ emB N P all jr jb cl kl t b l r ∧ emB N P all jr jb cl kl t b l r ≤ (((b - t + 1) * (r - l + 1) : Nat) : Int))) := by
  obtain ⟨x, x1, x2⟩ := ce_block (N := N) hN (t := t) (b := b) (l := l) (r := r) (by omega) htb (by omega) hlr
  have hbits : ∀ i, (P &&& x).getLsbD i = true ↔ P.getLsbD i = true ∧ t ≤ i / 8 ∧ i / 8 ≤ b ∧ l ≤ i % 8 ∧ i % 8 ≤ r := fun i => by
    rw [gl_and, Bool.and_eq_true, x2 i]
  obtain ⟨v, v1, v2, v3⟩ := pa_cef (N := N) hN (part := P &&& x) (jr := jr) (jb := jb) hb hall (fun i hi => hP i ((hbits i).mp hi).1) hcl hkl
  have hv : emB N P all jr jb cl kl t b l r = v := by
    unfold emB
    rw [x1, bd_some, v1]; rfl
  have hle := part_le htb hb6 hlr hr6 (fun i hi => ((hbits i).mp hi).2)
  refine ⟨x, x1, hbits, by rw [hv]; exact v1, by rw [hv]; exact v2, ?_⟩
  rw [hv]; omega
theorem emB_ok {N R C : Nat} (hN : 4000 ≤ N) {P all jr jb : BitVec 64} {cl kl : Int} (hb : R ≤ 7 ∧ C ≤ 7) (hall : ∀ i, all.getLsbD i = true ↔ i / 8 < R ∧ i % 8 < C) (hP : ∀ i, P.getLsbD i = true → all.getLsbD i = true) (hcl : xR cl) (hkl : xR kl) (hcl1 : 1 ≤ cl) (hkl0 : 0 ≤ kl) : EmOk (emB N P all jr jb cl kl) (cbB P jb) (crB P jr) := by
  refine ⟨fun t b l r h1 h2 h3 h4 => ?_, fun t l h1 h2 => ?_, fun k l r h1 h2 => span_le h1 h2 _, fun k t b h1 h2 => span_le h1 h2 _⟩
  · obtain ⟨x, -, -, -, -, h⟩ := emB_spec hN (jr := jr) (jb := jb) hb hall hP hcl hkl h1 h2 h3 h4
    exact h
  · obtain ⟨x, -, hbits, -, hE, -⟩ := emB_spec hN (jr := jr) (jb := jb) hb hall hP hcl hkl (Nat.le_refl t) h1 (Nat.le_refl l) h2
    intro hv
    rw [hv] at hE
    obtain ⟨cnt, S, g, h⟩ := hE
    rcases h with ⟨-, j, hj, he⟩ | ⟨hc, -⟩
    · have : ezS R C (S j) cl kl = true := by
        unfold ezS
        refine ez_one hb hcl1 hkl0 (x := 7 * t + l) (fun u hu hS => ?_)
        have hin := (hbits (eb u)).mp ((g.2.1 (eb u)).mpr ⟨j, hj, isT_p hS⟩)
        obtain ⟨e1, e2, -⟩ := eb_rc u
        rw [e1, e2] at hin
        omega
      rw [he] at this
      cases this
    · omega
theorem gl_row : ∀ k : Fin 7, ∀ i : Fin 64, (127#64 <<< (k.val * 8)).getLsbD i.val = (decide (i.val / 8 = k.val) && decide (i.val % 8 < 7)) := by decide +kernel
theorem gl_colm : ∀ k : Fin 7, ∀ i : Fin 64, (282578800148737#64 <<< k.val).getLsbD i.val = (decide (i.val % 8 = k.val) && decide (i.val / 8 < 7)) := by decide +kernel
theorem ce_inRow {N k : Nat} (hk : k < 7) : ∃ x, f_ce_inRow N (k : Int) = some x ∧ ∀ i, x.getLsbD i = true ↔ i / 8 = k ∧ i % 8 < 7 := by
  refine ⟨127#64 <<< (k * 8), ?_, fun i => ?_⟩
  · unfold f_ce_inRow
    rw [og_pos (by omega), show ((k : Int) * 8).toNat = k * 8 by omega]
  · by_cases h : i < 64
    · have := gl_row ⟨k, hk⟩ ⟨i, h⟩
      rw [this]; simp
    · rw [gl_big (by omega)]
      constructor
      · intro hq; cases hq
      · intro hq; omega
theorem ce_inColumn {N k : Nat} (hk : k < 7) : ∃ x, f_ce_inColumn N (k : Int) = some x ∧ ∀ i, x.getLsbD i = true ↔ i % 8 = k ∧ i / 8 < 7 := by
  refine ⟨282578800148737#64 <<< k, ?_, fun i => ?_⟩
  · unfold f_ce_inColumn
    rw [og_pos (by omega), show ((k : Int)).toNat = k by omega]
  · by_cases h : i < 64
    · have := gl_colm ⟨k, hk⟩ ⟨i, h⟩
      rw [this]; simp
    · rw [gl_big (by omega)]
      constructor
      · intro hq; cases hq
      · intro hq; omega
/-- what a line cuts through -/
theorem sp_below {N k : Nat} {part P jb : BitVec 64} {t b l r : Nat} (hb6 : b ≤ 6) (hr6 : r ≤ 6) (hbits : ∀ i, part.getLsbD i = true ↔ P.getLsbD i = true ∧ t ≤ i / 8 ∧ i / 8 ≤ b ∧ l ≤ i % 8 ∧ i % 8 ≤ r) (hk1 : t ≤ k) (hk2 : k ≤ b) :
    ∃ y, f_sp_crossedBelow N part (k : Int) jb = some y ∧ (∀ i, y.getLsbD i = true ↔ (P.getLsbD i = true ∧ jb.getLsbD i = true) ∧ i / 8 = k ∧ l ≤ i % 8 ∧ i % 8 ≤ r) ∧ popc y = cbB P jb k l r := by
  obtain ⟨x, x1, x2⟩ := ce_inRow (N := N) (k := k) (by omega)
  have hy : ∀ i, ((part &&& jb) &&& x).getLsbD i = true ↔ (P.getLsbD i = true ∧ jb.getLsbD i = true) ∧ i / 8 = k ∧ l ≤ i % 8 ∧ i % 8 ≤ r := fun i => by
    rw [gl_and, gl_and, Bool.and_eq_true, Bool.and_eq_true, x2, hbits]
    constructor
    · rintro ⟨⟨⟨p1, p2⟩, p3⟩, p4⟩; exact ⟨⟨p1, p3⟩, by omega⟩
    · rintro ⟨⟨p1, p3⟩, p4⟩; exact ⟨⟨⟨p1, by omega⟩, p3⟩, by omega⟩
  refine ⟨(part &&& jb) &&& x, ?_, hy, ?_⟩
  · unfold f_sp_crossedBelow
    rw [x1, bd_some]
  · have hg : Grid ((part &&& jb) &&& x) := fun i hi => by
      have := (hy i).mp hi
      unfold gd; simp; omega
    rw [part_rows hg, sumN_one (k := k) (by omega) (fun i hi hik => cntB_f (fun c hc => by
      cases h : ((part &&& jb) &&& x).getLsbD (8 * i + c) with
      | false => rfl
      | true => have := (hy _).mp h; omega))]
    unfold cbB
    refine cntB_congr (fun c hc => ?_)
    rw [Bool.eq_iff_iff, hy, Bool.and_eq_true, Bool.and_eq_true, decide_eq_true_eq, show (8 * k + c) / 8 = k by omega, show (8 * k + c) % 8 = c by omega]
    constructor
    · rintro ⟨p1, -, p3⟩; exact ⟨p3, p1⟩
    · rintro ⟨p3, p1⟩; exact ⟨p1, rfl, p3⟩
theorem sp_right {N k : Nat} {part P jr : BitVec 64} {t b l r : Nat} (hb6 : b ≤ 6) (hr6 : r ≤ 6) (hbits : ∀ i, part.getLsbD i = true ↔ P.getLsbD i = true ∧ t ≤ i / 8 ∧ i / 8 ≤ b ∧ l ≤ i % 8 ∧ i % 8 ≤ r) (hk1 : l ≤ k) (hk2 : k ≤ r) :
    ∃ y, f_sp_crossedRight N part (k : Int) jr = some y ∧ (∀ i, y.getLsbD i = true ↔ (P.getLsbD i = true ∧ jr.getLsbD i = true) ∧ i % 8 = k ∧ t ≤ i / 8 ∧ i / 8 ≤ b) ∧ popc y = crB P jr k t b := by
  obtain ⟨x, x1, x2⟩ := ce_inColumn (N := N) (k := k) (by omega)
  have hy : ∀ i, ((part &&& jr) &&& x).getLsbD i = true ↔ (P.getLsbD i = true ∧ jr.getLsbD i = true) ∧ i % 8 = k ∧ t ≤ i / 8 ∧ i / 8 ≤ b := fun i => by
    rw [gl_and, gl_and, Bool.and_eq_true, Bool.and_eq_true, x2, hbits]
    constructor
    · rintro ⟨⟨⟨p1, p2⟩, p3⟩, p4⟩; exact ⟨⟨p1, p3⟩, by omega⟩
    · rintro ⟨⟨p1, p3⟩, p4⟩; exact ⟨⟨⟨p1, by omega⟩, p3⟩, by omega⟩
  refine ⟨(part &&& jr) &&& x, ?_, hy, ?_⟩
  · unfold f_sp_crossedRight
    rw [x1, bd_some]
  · have hg : Grid ((part &&& jr) &&& x) := fun i hi => by
      have := (hy i).mp hi
      unfold gd; simp; omega
    rw [part_rows hg]
    unfold crB
    rw [← sumN_ite]
    refine sumN_congr (fun i hi => ?_)
    rw [cntB_one (k := k) (by omega) (fun c hc hck => by
      cases h : ((part &&& jr) &&& x).getLsbD (8 * i + c) with
      | false => rfl
      | true => have := (hy _).mp h; omega)]
    have : ((part &&& jr) &&& x).getLsbD (8 * i + k) = (decide (t ≤ i ∧ i ≤ b) && (P.getLsbD (8 * i + k) && jr.getLsbD (8 * i + k))) := by
      rw [Bool.eq_iff_iff, hy, Bool.and_eq_true, Bool.and_eq_true, decide_eq_true_eq, show (8 * i + k) / 8 = i by omega, show (8 * i + k) % 8 = k by omega]
      constructor
      · rintro ⟨p1, -, p3⟩; exact ⟨p3, p1⟩
      · rintro ⟨p3, p1⟩; exact ⟨p1, rfl, p3⟩
    rw [this]
