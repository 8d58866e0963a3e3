/-! ===== PURE: what holds between calls ===== -/
def lx (a c : Int × Int × Int) : Int × Int × Int := if a.2.2 = -1 ∨ c.1 < a.1 ∨ (c.1 = a.1 ∧ c.2.1 < a.2.1) then c else a
def foldL (f : Nat → Int × Int × Int) : Nat → Nat → Int × Int × Int → Int × Int × Int
  | 0, _, a => a
  | n + 1, k, a => foldL f n (k + 1) (lx a (f k))
def cand (x y : Int × Int × Int) (c ln : Int) : Int × Int × Int := (x.1 + y.1, x.2.1 + y.2.1 + c, ln)
def plF (em : Nat → Nat → Nat → Nat → Int) (cb cr : Nat → Nat → Nat → Int) (g : Nat → Nat → Nat → Nat → Int × Int × Int) (t b l r : Nat) : Int × Int × Int :=
  if em t b l r = -1 then foldL (fun k => cand (g t b l k) (g t b (k + 1) r) (cr k t b) (7 + (k : Int))) (r - l) l (foldL (fun k => cand (g t k l r) (g (k + 1) b l r) (cb k l r) (k : Int)) (b - t) t (-1, 0, -1)) else (em t b l r, 0, -1)
def plN (em : Nat → Nat → Nat → Nat → Int) (cb cr : Nat → Nat → Nat → Int) : Nat → Nat → Nat → Nat → Nat → Int × Int × Int
  | 0, t, b, l, r => (em t b l r, 0, -1)
  | n + 1, t, b, l, r => plF em cb cr (plN em cb cr n) t b l r
def pl (em : Nat → Nat → Nat → Nat → Int) (cb cr : Nat → Nat → Nat → Int) (t b l r : Nat) : Int × Int × Int := plN em cb cr 13 t b l r
def emB (N : Nat) (P all jr jb : BitVec 64) (cl kl : Int) (t b l r : Nat) : Int := ((f_ce_block N (t : Int) (b : Int) (l : Int) (r : Int)).bind fun x => f_pa_countEasyFragments N (P &&& x) cl kl all jr jb).getD 0
def cbB (P jb : BitVec 64) (k l r : Nat) : Int := cntB (fun c => decide (l ≤ c ∧ c ≤ r) && (P.getLsbD (8 * k + c) && jb.getLsbD (8 * k + c))) 7
def crB (P jr : BitVec 64) (k t b : Nat) : Int := cntB (fun i => decide (t ≤ i ∧ i ≤ b) && (P.getLsbD (8 * i + k) && jr.getLsbD (8 * i + k))) 7
def pln (N : Nat) (P all jr jb : BitVec 64) (cl kl : Int) : Nat → Nat → Nat → Nat → Int × Int × Int := pl (emB N P all jr jb cl kl) (cbB P jb) (crB P jr)
/-- the place of a part in the tables -/
def plc (t b l r : Nat) : Nat := (b * (b + 1) / 2 + t) * 28 + (r * (r + 1) / 2 + l)
/-- the smallest rectangle of a set of cells -/
def Frm (P : BitVec 64) (t b l r : Nat) : Prop := t ≤ b ∧ b ≤ 6 ∧ l ≤ r ∧ r ≤ 6 ∧ (∀ i, P.getLsbD i = true → t ≤ i / 8 ∧ i / 8 ≤ b ∧ l ≤ i % 8 ∧ i % 8 ≤ r) ∧ (∃ i, P.getLsbD i = true ∧ i / 8 = t) ∧ (∃ i, P.getLsbD i = true ∧ i / 8 = b) ∧ (∃ i, P.getLsbD i = true ∧ i % 8 = l) ∧ (∃ i, P.getLsbD i = true ∧ i % 8 = r)
def SPT (N : Nat) (P all jr jb : BitVec 64) (cl kl : Int) (t b l r : Nat) (w ln : Int → Int) : Prop :=
  ∀ t' b' l' r' : Nat, t ≤ t' → t' ≤ b' → b' ≤ b → l ≤ l' → l' ≤ r' → r' ≤ r → w ((plc t' b' l' r' : Nat) : Int) = 128 * (pln N P all jr jb cl kl t' b' l' r').1 + (pln N P all jr jb cl kl t' b' l' r').2.1 ∧ ln ((plc t' b' l' r' : Nat) : Int) = (pln N P all jr jb cl kl t' b' l' r').2.2
def SPL (N : Nat) (cl kl : Int) (all jr jb : BitVec 64) (count : Int) (cells : Int → BitVec 64) (planned : Int) (scells : BitVec 64) (st sb sl sr : Int) (sw sln : Int → Int) : Prop :=
  planned = -1 ∨ (0 ≤ planned ∧ planned < count ∧ scells = cells planned ∧ ∃ t b l r : Nat, Frm (cells planned) t b l r ∧ st = t ∧ sb = b ∧ sl = l ∧ sr = r ∧ SPT N (cells planned) all jr jb cl kl t b l r sw sln)
def CORE (N : Nat) (rows cols : Int) (cr cb : BitVec 64) (cl kl : Int) (col : Int → Int) (next count : Int) (kr kc : Int → Int) (kcr kcb : Int → BitVec 64) (kcl kkl : Int → Int) (kcol : Int → Int → Int) (all jr jb : BitVec 64) (pc : Int) (cells near : Int → BitVec 64) (planned : Int) (scells : BitVec 64) (st sb sl sr : Int) (sw sln : Int → Int) (edits : Int) (now past : Int → Int) : Prop :=
  HR next count kr kc kcr kcb kcl kkl kcol edits past ∧ (∃ R C : Nat, RD rows cols cr cb cl kl col now R C ∧ PO all jr jb pc cells near now R C) ∧ SPL N cl kl all jr jb pc cells planned scells st sb sl sr sw sln
theorem gp_refresh {N R C : Nat} (hN : 4000 ≤ N) {rows cols cl kl : Int} {cr cb : BitVec 64} {col now : Int → Int} (h : RD rows cols cr cb cl kl col now R C) (pall pjr pjb : BitVec 64) (pc : Int) (pcells pnear : Int → BitVec 64) (sp : Int) :
    ∃ all jr jb count cells near, f_gp_refresh N rows cols cr cb col pall pjr pjb pc pcells pnear sp = some (all, jr, jb, count, cells, near, -1) ∧ PO all jr jb count cells near now R C := by
  obtain ⟨all, jr, jb, count, cells, near, h1, h2⟩ := pa_find (N := N) hN h pall pjr pjb pc pcells pnear
  refine ⟨all, jr, jb, count, cells, near, ?_, h2⟩
  unfold f_gp_refresh f_sp_forget
  rw [h1]; rfl
/-- an edit: saved on both sides, found anew -/
theorem core_edit {N : Nat} (hN : 4000 ≤ N) {rows cols : Int} {cr cb : BitVec 64} {cl kl : Int} {col : Int → Int} {next count : Int} {kr kc : Int → Int} {kcr kcb : Int → BitVec 64} {kcl kkl : Int → Int} {kcol : Int → Int → Int} {edits : Int} {now past : Int → Int}
    (h : HR next count kr kc kcr kcb kcl kkl kcol edits past) {R C : Nat} (hd : RD rows cols cr cb cl kl col now R C) {rows' cols' : Int} {cr' cb' : BitVec 64} {cl' kl' : Int} {col' now' : Int → Int} {R' C' : Nat} (hd' : RD rows' cols' cr' cb' cl' kl' col' now' R' C') (pall pjr pjb : BitVec 64) (pc : Int) (pcells pnear : Int → BitVec 64) (sp : Int) :
    ∃ (next' count' : Int) (kr' kc' : Int → Int) (kcr' kcb' : Int → BitVec 64) (kcl' kkl' : Int → Int) (kcol' : Int → Int → Int) (edits' : Int) (past' : Int → Int) (all jr jb : BitVec 64) (pc' : Int) (cells near : Int → BitVec 64),
      f_hi_remember N rows cols cr cb cl kl col next count kr kc kcr kcb kcl kkl kcol = some (next', count', kr', kc', kcr', kcb', kcl', kkl', kcol') ∧ f_mo_save N edits now past = some (edits', past') ∧
      f_gp_refresh N rows' cols' cr' cb' col' pall pjr pjb pc pcells pnear sp = some (all, jr, jb, pc', cells, near, -1) ∧ PO all jr jb pc' cells near now' R' C' ∧
      ∀ scells st sb sl sr sw sln, CORE N rows' cols' cr' cb' cl' kl' col' next' count' kr' kc' kcr' kcb' kcl' kkl' kcol' all jr jb pc' cells near (-1) scells st sb sl sr sw sln edits' now' past' := by
  obtain ⟨n1, n2, n3, n4, n5, n6, n7, n8, n9, n10, n11, a1, a2, a3⟩ := hi_save hN h hd
  obtain ⟨all, jr, jb, pc', cells, near, b1, b2⟩ := gp_refresh hN hd' pall pjr pjb pc pcells pnear sp
  exact ⟨n1, n2, n3, n4, n5, n6, n7, n8, n9, n10, n11, all, jr, jb, pc', cells, near, a1, a2, b1, b2, fun _ _ _ _ _ _ _ => ⟨a3, ⟨R', C', hd', b2⟩, Or.inl rfl⟩⟩
theorem rd_col {rows cols : Int} {cr cb : BitVec 64} {cl kl : Int} {col now : Int → Int} {R C : Nat} (h : RD rows cols cr cb cl kl col now R C) {r c : Nat} (hr : r < R) (hc : c < C) {z : Int} (h0 : 0 ≤ z) (h5 : z ≤ 5) : RD rows cols cr cb cl kl (upi col ((8 * r + c : Nat) : Int) z) (upi now ((4 + 7 * r + c : Nat) : Int) z) R C := by
  obtain ⟨h1, h2, h3, h4, hb, h6, h7, h8, h9, h10, h11, h12, h13⟩ := h
  refine ⟨h1, h2, ?_, ?_, hb, ?_, ?_, ?_, ?_, ?_, ?_, ?_, ?_⟩
  · rw [upi_n _ _ (by omega)]; exact h3
  · rw [upi_n _ _ (by omega)]; exact h4
  · rw [upi_n _ _ (by omega)]; exact h6
  · rw [upi_n _ _ (by omega)]; exact h7
  · intro j j1 j2
    by_cases hj : j = ((4 + 7 * r + c : Nat) : Int)
    · rw [hj, upi_s]; omega
    · rw [upi_n _ _ hj]; exact h8 j j1 j2
  · intro r' c' hr' hc'
    by_cases hq : r' = r ∧ c' = c
    · obtain ⟨rfl, rfl⟩ := hq
      rw [upi_s, upi_s]; omega
    · rw [upi_n _ _ (by omega), upi_n _ _ (by omega)]; exact h9 r' c' hr' hc'
  · intro i
    rw [h10 i]
    constructor
    · rintro ⟨x, y, w⟩; exact ⟨x, y, by rw [upi_n _ _ (by omega)]; exact w⟩
    · rintro ⟨x, y, w⟩; exact ⟨x, y, by rw [upi_n _ _ (by omega)] at w; exact w⟩
  · intro i
    rw [h11 i]
    constructor
    · rintro ⟨x, y, w⟩; exact ⟨x, y, by rw [upi_n _ _ (by omega)]; exact w⟩
    · rintro ⟨x, y, w⟩; exact ⟨x, y, by rw [upi_n _ _ (by omega)] at w; exact w⟩
  · intro u hu
    rw [upi_n _ _ (by omega)]; exact h12 u hu
  · intro u hu
    rw [upi_n _ _ (by omega)]; exact h13 u hu
theorem rd_cl {rows cols : Int} {cr cb : BitVec 64} {cl kl : Int} {col now : Int → Int} {R C : Nat} (h : RD rows cols cr cb cl kl col now R C) {z : Int} (h0 : 1 ≤ z) (h5 : z ≤ 49) : RD rows cols cr cb z kl col (upi now 2 z) R C := by
  obtain ⟨h1, h2, h3, h4, hb, h6, h7, h8, h9, h10, h11, h12, h13⟩ := h
  refine ⟨h1, h2, ?_, ?_, hb, ?_, ?_, ?_, ?_, ?_, ?_, ?_, ?_⟩
  · rw [upi_n _ _ (by omega)]; exact h3
  · rw [upi_n _ _ (by omega)]; exact h4
  · rw [upi_s]; omega
  · rw [upi_n _ _ (by omega)]; exact h7
  · intro j j1 j2
    by_cases hj : j = 2
    · rw [hj, upi_s]; omega
    · rw [upi_n _ _ hj]; exact h8 j j1 j2
  · intro r' c' hr' hc'
    rw [upi_n _ _ (by omega)]; exact h9 r' c' hr' hc'
  · intro i
    rw [upi_n _ _ (by omega)]; exact h10 i
  · intro i
    rw [upi_n _ _ (by omega)]; exact h11 i
  · intro u hu
    rw [upi_n _ _ (by omega)]; exact h12 u hu
  · intro u hu
    rw [upi_n _ _ (by omega)]; exact h13 u hu
theorem rd_kl {rows cols : Int} {cr cb : BitVec 64} {cl kl : Int} {col now : Int → Int} {R C : Nat} (h : RD rows cols cr cb cl kl col now R C) {z : Int} (h0 : 0 ≤ z) (h5 : z ≤ 8) : RD rows cols cr cb cl z col (upi now 3 z) R C := by
  obtain ⟨h1, h2, h3, h4, hb, h6, h7, h8, h9, h10, h11, h12, h13⟩ := h
  refine ⟨h1, h2, ?_, ?_, hb, ?_, ?_, ?_, ?_, ?_, ?_, ?_, ?_⟩
  · rw [upi_n _ _ (by omega)]; exact h3
  · rw [upi_n _ _ (by omega)]; exact h4
  · rw [upi_n _ _ (by omega)]; exact h6
  · rw [upi_s]; omega
  · intro j j1 j2
    by_cases hj : j = 3
    · rw [hj, upi_s]; omega
    · rw [upi_n _ _ hj]; exact h8 j j1 j2
  · intro r' c' hr' hc'
    rw [upi_n _ _ (by omega)]; exact h9 r' c' hr' hc'
  · intro i
    rw [upi_n _ _ (by omega)]; exact h10 i
  · intro i
    rw [upi_n _ _ (by omega)]; exact h11 i
  · intro u hu
    rw [upi_n _ _ (by omega)]; exact h12 u hu
  · intro u hu
    rw [upi_n _ _ (by omega)]; exact h13 u hu
/-- other cuts: given on both sides -/
theorem rd_cuts {rows cols : Int} {cr cb cr' cb' : BitVec 64} {cl kl : Int} {col now now' : Int → Int} {R C : Nat} (h : RD rows cols cr cb cl kl col now R C) (hs : ∀ j : Int, 0 ≤ j → j < 53 → now' j = now j) (h01 : ∀ k : Nat, k < 98 → now' ((53 + k : Nat) : Int) = 0 ∨ now' ((53 + k : Nat) : Int) = 1)
    (gr : Grid cr') (gb : Grid cb') (k1 : ∀ u : Nat, u < 49 → (cr'.getLsbD (eb u) = true ↔ now' ((53 + u : Nat) : Int) = 1)) (k2 : ∀ u : Nat, u < 49 → (cb'.getLsbD (eb u) = true ↔ now' ((102 + u : Nat) : Int) = 1))
    (i1 : ∀ u : Nat, u < 49 → now' ((53 + u : Nat) : Int) = 1 → u / 7 < R ∧ u % 7 + 1 < C) (i2 : ∀ u : Nat, u < 49 → now' ((102 + u : Nat) : Int) = 1 → u / 7 + 1 < R ∧ u % 7 < C) : RD rows cols cr' cb' cl kl col now' R C := by
  obtain ⟨h1, h2, h3, h4, hb, h6, h7, h8, h9, h10, h11, h12, h13⟩ := h
  refine ⟨h1, h2, ?_, ?_, hb, ?_, ?_, ?_, ?_, ?_, ?_, ?_, ?_⟩
  · rw [hs 0 (by omega) (by omega)]; exact h3
  · rw [hs 1 (by omega) (by omega)]; exact h4
  · rw [hs 2 (by omega) (by omega)]; exact h6
  · rw [hs 3 (by omega) (by omega)]; exact h7
  · intro j j1 j2
    by_cases hj : j < 53
    · rw [hs j j1 hj]; exact h8 j j1 j2
    · have := h01 (j - 53).toNat (by omega)
      rw [show ((53 + (j - 53).toNat : Nat) : Int) = j by omega] at this
      omega
  · intro r' c' hr' hc'
    rw [hs _ (by omega) (by omega)]; exact h9 r' c' hr' hc'
  · intro i
    constructor
    · intro hi
      obtain ⟨u, hu, rfl⟩ := eb_of (gr i hi)
      obtain ⟨e1, e2, -⟩ := eb_rc u
      have hv := (k1 u hu).mp hi
      obtain ⟨q1, q2⟩ := i1 u hu hv
      rw [e1, e2]
      refine ⟨q1, q2, ?_⟩
      rw [show 53 + 7 * (u / 7) + u % 7 = 53 + u by omega]; exact hv
    · rintro ⟨q1, q2, q3⟩
      have hu : 7 * (i / 8) + i % 8 < 49 := by omega
      have := (k1 _ hu).mpr (by rw [← Nat.add_assoc]; exact q3)
      rw [show eb (7 * (i / 8) + i % 8) = i by unfold eb; omega] at this
      exact this
  · intro i
    constructor
    · intro hi
      obtain ⟨u, hu, rfl⟩ := eb_of (gb i hi)
      obtain ⟨e1, e2, -⟩ := eb_rc u
      have hv := (k2 u hu).mp hi
      obtain ⟨q1, q2⟩ := i2 u hu hv
      rw [e1, e2]
      refine ⟨q1, q2, ?_⟩
      rw [show 102 + 7 * (u / 7) + u % 7 = 102 + u by omega]; exact hv
    · rintro ⟨q1, q2, q3⟩
      have hu : 7 * (i / 8) + i % 8 < 49 := by omega
      have := (k2 _ hu).mpr (by rw [← Nat.add_assoc]; exact q3)
      rw [show eb (7 * (i / 8) + i % 8) = i by unfold eb; omega] at this
      exact this
  · intro u hu
    rcases h01 u (by omega) with h0 | h0
    · exact Or.inl h0
    · exact Or.inr ⟨h0, i1 u hu h0⟩
  · intro u hu
    have := h01 (49 + u) (by omega)
    rw [show 53 + (49 + u) = 102 + u by omega] at this
    rcases this with h0 | h0
    · exact Or.inl h0
    · exact Or.inr ⟨h0, i2 u hu h0⟩
theorem rd_grid {rows cols : Int} {cr cb : BitVec 64} {cl kl : Int} {col now : Int → Int} {R C : Nat} (h : RD rows cols cr cb cl kl col now R C) : Grid cr ∧ Grid cb := by
  obtain ⟨-, -, -, -, hb, -, -, -, -, h10, h11, -, -⟩ := h
  exact ⟨fun i hi => by have := (h10 i).mp hi; unfold gd; simp; omega, fun i hi => by have := (h11 i).mp hi; unfold gd; simp; omega⟩
theorem rd_bit {rows cols : Int} {cr cb : BitVec 64} {cl kl : Int} {col now : Int → Int} {R C : Nat} (h : RD rows cols cr cb cl kl col now R C) {u : Nat} (hu : u < 49) : (cr.getLsbD (eb u) = true ↔ now ((53 + u : Nat) : Int) = 1) ∧ (cb.getLsbD (eb u) = true ↔ now ((102 + u : Nat) : Int) = 1) := by
  obtain ⟨-, -, -, -, hb, -, -, -, -, h10, h11, h12, h13⟩ := h
  obtain ⟨e1, e2, -⟩ := eb_rc u
  rw [h10, h11, e1, e2, show 53 + 7 * (u / 7) + u % 7 = 53 + u by omega, show 102 + 7 * (u / 7) + u % 7 = 102 + u by omega]
  have a := h12 u hu
  have b := h13 u hu
  omega
theorem rd_01 {rows cols : Int} {cr cb : BitVec 64} {cl kl : Int} {col now : Int → Int} {R C : Nat} (h : RD rows cols cr cb cl kl col now R C) {k : Nat} (hk : k < 98) : now ((53 + k : Nat) : Int) = 0 ∨ now ((53 + k : Nat) : Int) = 1 := by
  obtain ⟨-, -, -, -, hb, -, -, -, -, h10, h11, h12, h13⟩ := h
  by_cases c : k < 49
  · have := h12 k c; omega
  · have := h13 (k - 49) (by omega)
    rw [show 102 + (k - 49) = 53 + k by omega] at this
    omega
theorem rd_count {rows cols : Int} {cr cb : BitVec 64} {cl kl : Int} {col now : Int → Int} {R C : Nat} (h : RD rows cols cr cb cl kl col now R C) : popc cr + popc cb = cntB (fun k => decide (now ((53 + k : Nat) : Int) = 1)) 98 := by
  obtain ⟨g1, g2⟩ := rd_grid h
  rw [popc_eb g1, popc_eb g2]
  have := cntB_rows (fun k => decide (now ((53 + k : Nat) : Int) = 1)) 49 2
  rw [show 49 * 2 = 98 from rfl] at this
  rw [this]
  show _ = (0 + cntB (fun c => decide (now ((53 + (49 * 0 + c) : Nat) : Int) = 1)) 49) + cntB (fun c => decide (now ((53 + (49 * 1 + c) : Nat) : Int) = 1)) 49
  rw [Int.zero_add]
  rw [cntB_congr (p := fun u => cr.getLsbD (eb u)) (q := fun c => decide (now ((53 + (49 * 0 + c) : Nat) : Int) = 1)) (fun u hu => by rw [Bool.eq_iff_iff, decide_eq_true_eq, (rd_bit h hu).1, show 53 + (49 * 0 + u) = 53 + u by omega]), cntB_congr (p := fun u => cb.getLsbD (eb u)) (q := fun c => decide (now ((53 + (49 * 1 + c) : Nat) : Int) = 1)) (fun u hu => by rw [Bool.eq_iff_iff, decide_eq_true_eq, (rd_bit h hu).2, show 53 + (49 * 1 + u) = 102 + u by omega])]
theorem mo_cuts {N : Nat} (hN : 4000 ≤ N) {now : Int → Int} (h : ∀ k : Nat, k < 98 → now ((53 + k : Nat) : Int) = 0 ∨ now ((53 + k : Nat) : Int) = 1) : f_mo_cuts N now = some (cntB (fun k => decide (now ((53 + k : Nat) : Int) = 1)) 98) := by
  have key : ∀ n k : Nat, k ≤ 98 → 98 < n + k → f_mo_cuts_4 N now n (cntB (fun k => decide (now ((53 + k : Nat) : Int) = 1)) k) (k : Int) = some (cntB (fun k => decide (now ((53 + k : Nat) : Int) = 1)) 98) := by
    intro n
    induction n with
    | zero => intro k h1 h2; omega
    | succ n ih =>
      intro k h1 h2
      rw [f_mo_cuts_4.eq_2, og_pos (by omega)]
      by_cases hk : k = 98
      · rw [if_pos (by omega), hk]
      · rw [if_neg (by omega), og_pos (by omega), bd_some, bd_some, show (k : Int) + 1 = ((k + 1 : Nat) : Int) by omega, ← ih (k + 1) (by omega) (by omega), cntB_s, show (53 : Int) + (k : Int) = ((53 + k : Nat) : Int) by omega]
        have := h k (by omega)
        by_cases c : now ((53 + k : Nat) : Int) = 1
        · rw [if_pos (decide_eq_true c), c]
        · rw [if_neg (by rw [decide_eq_true_eq]; exact c), show now ((53 + k : Nat) : Int) = 0 by omega]
  exact key N 0 (by omega) (by omega)
