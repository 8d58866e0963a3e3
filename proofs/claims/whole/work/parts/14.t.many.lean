/-! ===== PURE: the fragments of a part, the reference's side ===== -/
theorem eb_lt {u v : Nat} : eb u < eb v ↔ u < v := by unfold eb; omega
/-- a part of a pane in a rectangle, on both sides -/
def PT (part : BitVec 64) (pane : Int → Int) (p t b l r : Nat) : Prop := ∀ u : Nat, u < 49 → (part.getLsbD (eb u) = true ↔ (t ≤ u / 7 ∧ u / 7 ≤ b ∧ l ≤ u % 7 ∧ u % 7 ≤ r) ∧ pane u = p)
theorem emany_loop {N R C : Nat} (hN : 4000 ≤ N) {jr jb all part : BitVec 64} {cnt : Nat} {cells : Int → BitVec 64} {now pane size : Int → Int} (h : PC R C jr jb all cnt cells now pane size) {cl kl : Int} (hcl : now 2 = cl) (hkl : now 3 = kl) {p t b l r : Nat} (hp : p < cnt) (htb : t ≤ b) (hlr : l ≤ r) (hbR : b < R) (hrC : r < C) (hg : Grid part) (hPT : PT part pane p t b l r) (hcp : ∀ u v : Nat, u < 49 → v < 49 → EJ jr jb (eb u) (eb v) → pane u = p → pane v = p)
    {fc : Nat} {S : Nat → Nat → Prop} (hG : GoodLab (EJ jr jb) part fc S) (hfc : fc ≤ 49) :
    ∀ (n k m : Nat) (fl : Int) (q fr se : Int → Int), k ≤ 49 → 49 < n + k → (fl = 0 ∨ fl = 1) → (fl = 0 → ∃ j, j < fc ∧ ezS R C (S j) cl kl = false) → (fl = 1 → m ≤ fc ∧ (∀ u : Nat, u < 49 → -1 ≤ fr u ∧ ∀ j : Nat, (fr u = j ↔ j < m ∧ S j (eb u))) ∧ (∀ u : Nat, u < k → part.getLsbD (eb u) = true → ∃ j, j < m ∧ S j (eb u)) ∧ ∀ j, j < m → ezS R C (S j) cl kl = true) →
      ∃ v q' fr' se', f_mo_easyMany_28 N (p : Int) (t : Int) (b : Int) (l : Int) (r : Int) now pane n (m : Int) fl (k : Int) q fr se = some (v, q', fr', se') ∧ EMC jr jb part R C cl kl v := by
  have hM := h.2.1
  have hb7 := hM.2.2.1
  have hcnt := h.1
  obtain ⟨ga1, ga2, ga3, ga4, ga5⟩ := hG
  have hG0 : GoodLab (EJ jr jb) part fc S := ⟨ga1, ga2, ga3, ga4, ga5⟩
  intro n
  induction n with
  | zero => intro k m fl q fr se hk hn; omega
  | succ n ih =>
    intro k m fl q fr se hk hn hfl hf0 hf1
    rw [f_mo_easyMany_28.eq_2, og_pos (by omega)]
    by_cases hz : fl = 0
    · have hres : f_mo_easyMany_144 N (m : Int) fl q fr se = some (-1, q, fr, se) := by
        unfold f_mo_easyMany_144
        rw [og_pos (by omega), if_pos hz]
      obtain ⟨j, hj1, hj2⟩ := hf0 hz
      refine ⟨-1, q, fr, se, ?_, fc, S, hG0, Or.inl ⟨rfl, j, hj1, hj2⟩⟩
      by_cases hend : (49 : Int) ≤ (k : Int)
      · rw [if_pos hend, hres]
      · rw [if_neg hend, og_pos (by omega), if_pos hz, hres]
    · have h1 : fl = 1 := hfl.resolve_left hz
      obtain ⟨i1, i2, i3, i4⟩ := hf1 h1
      by_cases hend : k = 49
      · rw [if_pos (by omega)]
        have hres : f_mo_easyMany_144 N (m : Int) fl q fr se = some ((m : Int), q, fr, se) := by
          unfold f_mo_easyMany_144
          rw [og_pos (by omega), if_neg hz]
        have hmf : m = fc := by
          apply Classical.byContradiction
          intro hne
          obtain ⟨f, hf, -⟩ := ga1 m (by omega)
          have hfp := (ga2 f).mpr ⟨m, by omega, hf⟩
          obtain ⟨u, hu, rfl⟩ := eb_of (hg f hfp)
          obtain ⟨j, hj, hjS⟩ := i3 u (by omega) hfp
          have := ga4 j m (eb u) (by omega) (by omega) hjS hf
          omega
        refine ⟨(m : Int), q, fr, se, hres, fc, S, hG0, Or.inr ⟨by rw [hmf], fun j hj => i4 j (by omega)⟩⟩
      · rw [if_neg (by omega), og_pos (by omega), if_neg hz, og_pos (by omega), mo_in (by omega) (by omega) (by omega), bd_some]
        have e1 : (k : Int) + 1 = ((k + 1 : Nat) : Int) := by omega
        have hpk := h.marks (k : Int) (by omega) (by omega)
        have hfrk := (i2 k (by omega)).1
        -- whether a new fragment begins here
        have hskip : ∀ (hno : ¬ (part.getLsbD (eb k) = true ∧ fr k < 0)), ∃ v q' fr' se', f_mo_easyMany_28 N (p : Int) (t : Int) (b : Int) (l : Int) (r : Int) now pane n (m : Int) fl ((k : Int) + 1) q fr se = some (v, q', fr', se') ∧ EMC jr jb part R C cl kl v := by
          intro hno
          rw [e1]
          refine ih (k + 1) m fl q fr se (by omega) (by omega) hfl hf0 (fun _ => ⟨i1, i2, fun u hu hpu => ?_, i4⟩)
          by_cases c : u = k
          · subst c
            have hge : 0 ≤ fr u := by
              apply Classical.byContradiction
              intro hq
              exact hno ⟨hpu, by omega⟩
            have := ((i2 u (by omega)).2 (fr u).toNat).mp (by omega)
            exact ⟨_, this⟩
          · exact i3 u (by omega) hpu
        have hfrR : fr (k : Int) < 50 := by
          apply Classical.byContradiction
          intro hq
          have := ((i2 k (by omega)).2 (fr k).toNat).mp (by omega)
          omega
        by_cases c1 : t ≤ k / 7 ∧ k / 7 ≤ b
        · rw [if_pos (by omega), og_pos (by decide), if_neg (by decide), mo_in (by omega) (by omega) (by omega), bd_some]
          by_cases c2 : l ≤ k % 7 ∧ k % 7 ≤ r
          · rw [if_pos (by omega), og_pos (by decide), if_neg (by decide), og_pos (by omega), og_pos hpk, og_pos (by omega)]
            by_cases c3 : pane (k : Int) = p
            · rw [if_pos c3, og_pos (by omega)]
              have hkp : part.getLsbD (eb k) = true := (hPT k (by omega)).mpr ⟨⟨c1.1, c1.2, c2.1, c2.2⟩, c3⟩
              by_cases c4 : 0 ≤ fr (k : Int)
              · rw [if_pos c4, bd_some, og_pos (by decide), if_pos rfl, bd_some, bd_some]
                exact hskip (fun hq => by omega)
              · rw [if_neg c4, bd_some, og_pos (by decide), if_neg (by decide)]
                -- the fragment of k is the m-th
                obtain ⟨j, hj, hjk⟩ := (ga2 (eb k)).mp hkp
                have hjm : j = m := by
                  rcases Nat.lt_trichotomy j m with hlt | heq | hgt
                  · have := ((i2 k (by omega)).2 j).mpr ⟨hlt, hjk⟩
                    omega
                  · exact heq
                  · obtain ⟨f, hf1', hf2'⟩ := ga5 m j hgt hj
                    have hfp := (ga2 f).mpr ⟨m, by omega, hf1'⟩
                    obtain ⟨u, hu, rfl⟩ := eb_of (hg f hfp)
                    have hlt := eb_lt.mp (hf2' (eb k) hjk)
                    obtain ⟨j', hj', hj'S⟩ := i3 u hlt hfp
                    have := ga4 j' m (eb u) (by omega) (by omega) hj'S hf1'
                    omega
                subst hjm
                have hiso : ∀ v : Nat, Rch (EM jr jb t b l r) (fun a => a = k) v ↔ Rch (EP (EJ jr jb) part) (fun a => a = eb k) (eb v) := fun v => rch_iso (part := part) (fun i hi => by
                  obtain ⟨w, hw, rfl⟩ := eb_of (hg i hi)
                  have := (hPT w hw).mp hi
                  exact ⟨w, hw, rfl, this.1⟩) (fun u v hu hpu hE => (hPT v hE.2.1).mpr ⟨hE.2.2, hcp u v hu hE.2.1 hE.1 ((hPT u hu).mp hpu).2⟩) hkp v
                have hS : ∀ v : Nat, Rch (EM jr jb t b l r) (fun a => a = k) v ↔ S j (eb v) := fun v => (hiso v).trans (ga3 j hj (eb k) (eb v) hjk).symm
                obtain ⟨q1, m1, s1, s2, s3⟩ := mo_spread (N := N) hN hM (t := t) (b := b) (l := l) (r := r) hbR hrC (id := (j : Int)) (by omega) (by omega) (s := k) (by omega) ⟨c1.1, c1.2, c2.1, c2.2⟩ (m0 := fr) (q0 := q) (fun x x1 x2 => by
                    have a1 := i2 x.toNat (by omega)
                    rw [show ((x.toNat : Nat) : Int) = x by omega] at a1
                    have : fr x < 50 := by
                      apply Classical.byContradiction
                      intro hq
                      have := (a1.2 (fr x).toNat).mp (by omega)
                      omega
                    omega) (fun v hv hq => by have := ((i2 v hv).2 j).mp hq; omega) (fun v hv hr => by
                    apply Classical.byContradiction
                    intro hq
                    have a1 := ((i2 v hv).2 (fr v).toNat).mp (by omega)
                    have := ga4 _ j (eb v) (by omega) hj a1.2 ((hS v).mp hr)
                    omega)
                have hm1 : ∀ x : Int, 0 ≤ x → x < 49 → xR (m1 x) := by
                  intro x x1 x2
                  rcases s3 x with hh | ⟨v, -, -, -, hh⟩
                  · have a1 := i2 x.toNat (by omega)
                    rw [show ((x.toNat : Nat) : Int) = x by omega] at a1
                    have : fr x < 50 := by
                      apply Classical.byContradiction
                      intro hq
                      have := (a1.2 (fr x).toNat).mp (by omega)
                      omega
                    rw [hh]; omega
                  · rw [hh]; omega
                obtain ⟨q2, se2, w1⟩ := mo_isEasy (N := N) hN hM (id := (j : Int)) (by omega) hm1 (size := cntB (fun v => decide (m1 (v : Int) = j)) 49) rfl (q := q1) (s0 := se)
                have hez : ez R C (fun v => decide (m1 (v : Int) = j)) (now 2) (now 3) = ezS R C (S j) cl kl := by
                  rw [hcl, hkl]
                  unfold ezS
                  refine ez_congr (by omega) (fun u hu => ?_)
                  by_cases cc : m1 (u : Int) = j
                  · rw [decide_eq_true cc, isT_t ((hS u).mp ((s2 u hu).mp cc))]
                  · rw [decide_eq_false cc, isT_f (fun hq => cc ((s2 u hu).mpr ((hS u).mpr hq)))]
                rw [hez] at w1
                rw [s1, bd_some]
                show ∃ v q' fr' se', Option.bind (Option.bind (f_mo_isEasy N (j : Int) (cntB (fun v => decide (m1 (v : Int) = j)) 49) now q1 se m1) _) _ = some (v, q', fr', se') ∧ _
                rw [w1, bd_some, bd_some, bd_some, bd_some, e1, show (j : Int) + 1 = ((j + 1 : Nat) : Int) by omega]
                refine ih (k + 1) (j + 1) _ q2 m1 se2 (by omega) (by omega) ?_ ?_ ?_
                · show (if ezS R C (S j) cl kl = true then (1 : Int) else 0) = 0 ∨ (if ezS R C (S j) cl kl = true then (1 : Int) else 0) = 1
                  split
                  · exact Or.inr rfl
                  · exact Or.inl rfl
                · intro hz0
                  refine ⟨j, hj, ?_⟩
                  cases hx : ezS R C (S j) cl kl with
                  | false => rfl
                  | true => have hz2 : (if ezS R C (S j) cl kl = true then (1 : Int) else 0) = 0 := hz0
                            rw [hx] at hz2; exact absurd hz2 (by decide)
                · intro hz1
                  have hjz : ezS R C (S j) cl kl = true := by
                    cases hx : ezS R C (S j) cl kl with
                    | true => rfl
                    | false => have hz2 : (if ezS R C (S j) cl kl = true then (1 : Int) else 0) = 1 := hz1
                               rw [hx] at hz2; exact absurd hz2 (by decide)
                  refine ⟨by omega, fun u hu => ?_, fun u hu hpu => ?_, fun j' hj' => ?_⟩
                  · by_cases cm : m1 (u : Int) = j
                    · have hSu := (hS u).mp ((s2 u hu).mp cm)
                      refine ⟨by omega, fun j' => ?_⟩
                      constructor
                      · intro hq
                        have : j' = j := by omega
                        subst this
                        exact ⟨by omega, hSu⟩
                      · rintro ⟨hlt, hSj⟩
                        have := ga4 j' j (eb u) (by omega) hj hSj hSu
                        rw [cm, this]
                    · have hfr : m1 (u : Int) = fr u := by
                        rcases s3 (u : Int) with hh | ⟨v, -, -, -, hh⟩
                        · exact hh
                        · exact absurd hh cm
                      have hnS : ¬ S j (eb u) := fun hq => cm ((s2 u hu).mpr ((hS u).mpr hq))
                      rw [hfr]
                      refine ⟨(i2 u hu).1, fun j' => ?_⟩
                      rw [(i2 u hu).2 j']
                      constructor
                      · rintro ⟨x1, x2⟩; exact ⟨by omega, x2⟩
                      · rintro ⟨x1, x2⟩
                        by_cases cj : j' = j
                        · rw [cj] at x2; exact absurd x2 hnS
                        · exact ⟨by omega, x2⟩
                  · by_cases cu : u = k
                    · rw [cu]; exact ⟨j, by omega, hjk⟩
                    · obtain ⟨j', x1, x2⟩ := i3 u (by omega) hpu
                      exact ⟨j', by omega, x2⟩
                  · by_cases cj : j' = j
                    · rw [cj]; exact hjz
                    · exact i4 j' (by omega)
            · rw [if_neg c3, bd_some, og_pos (by decide), if_pos rfl, bd_some, bd_some]
              exact hskip (fun hq => c3 ((hPT k (by omega)).mp hq.1).2)
          · rw [if_neg (by omega), og_pos (by decide), if_pos rfl, bd_some, og_pos (by decide), if_pos rfl, bd_some, bd_some]
            exact hskip (fun hq => c2 ((hPT k (by omega)).mp hq.1).1.2.2)
        · rw [if_neg (by omega), og_pos (by decide), if_pos rfl, bd_some, og_pos (by decide), if_pos rfl, bd_some, bd_some]
          exact hskip (fun hq => by have := ((hPT k (by omega)).mp hq.1).1; omega)
theorem emany_clear {N : Nat} {p t b l r : Int} {q se now pane : Int → Int} : ∀ (n k : Nat) (fr : Int → Int), k ≤ 49 → 49 < n + k → (∀ u : Nat, u < k → fr u = -1) →
    ∃ fr' : Int → Int, (∀ u : Nat, u < 49 → fr' u = -1) ∧ f_mo_easyMany_2 N p q se t b l r now pane n (k : Int) fr = f_mo_easyMany_28 N p t b l r now pane N 0 1 0 q fr' se := by
  intro n
  induction n with
  | zero => intro k fr hk hn; omega
  | succ n ih =>
    intro k fr hk hn hf
    rw [f_mo_easyMany_2.eq_2, og_pos (by omega)]
    by_cases hend : k = 49
    · rw [if_pos (by omega)]
      exact ⟨fr, fun u hu => hf u (by omega), rfl⟩
    · rw [if_neg (by omega), og_pos (by omega), bd_some, bd_some, show (k : Int) + 1 = ((k + 1 : Nat) : Int) by omega]
      refine ih (k + 1) _ (by omega) (by omega) (fun u hu => ?_)
      by_cases c : u = k
      · subst c; rw [upi_s]
      · rw [upi_n _ _ (by omega)]; exact hf u (by omega)
theorem mo_easyMany {N R C : Nat} (hN : 4000 ≤ N) {jr jb all part : BitVec 64} {cnt : Nat} {cells : Int → BitVec 64} {now pane size : Int → Int} (h : PC R C jr jb all cnt cells now pane size) {cl kl : Int} (hcl : now 2 = cl) (hkl : now 3 = kl) {p t b l r : Nat} (hp : p < cnt) (htb : t ≤ b) (hlr : l ≤ r) (hbR : b < R) (hrC : r < C) (hg : Grid part) (hPT : PT part pane p t b l r) (hcp : ∀ u v : Nat, u < 49 → v < 49 → EJ jr jb (eb u) (eb v) → pane u = p → pane v = p) (q fr se : Int → Int) :
    ∃ v q' fr' se', f_mo_easyMany N (p : Int) (t : Int) (b : Int) (l : Int) (r : Int) now q pane fr se = some (v, q', fr', se') ∧ EMC jr jb part R C cl kl v := by
  obtain ⟨fc, S, hfc, hG⟩ := good_ex (jr := jr) (jb := jb) hg
  obtain ⟨fr1, a1, a2⟩ := emany_clear (N := N) (p := (p : Int)) (t := (t : Int)) (b := (b : Int)) (l := (l : Int)) (r := (r : Int)) (q := q) (se := se) (now := now) (pane := pane) N 0 fr (by omega) (by omega) (fun u hu => by omega)
  obtain ⟨v, q', fr', se', b1, b2⟩ := emany_loop hN h hcl hkl hp htb hlr hbR hrC hg hPT hcp hG hfc N 0 0 1 q fr1 se (by omega) (by omega) (Or.inr rfl) (fun hq => absurd hq (by decide)) (fun _ => ⟨by omega, fun u hu => ⟨by rw [a1 u hu]; decide, fun j => ⟨fun hq => by rw [a1 u hu] at hq; omega, fun hq => by omega⟩⟩, fun u hu => by omega, fun j hj => by omega⟩)
  refine ⟨v, q', fr', se', ?_, b2⟩
  unfold f_mo_easyMany
  exact a2.trans b1
