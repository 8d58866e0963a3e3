/-! ===== PURE: how many pieces, how much lead ===== -/
theorem PC.one {R C : Nat} {jr jb all : BitVec 64} {cnt : Nat} {cells : Int → BitVec 64} {now pane size : Int → Int} (h : PC R C jr jb all cnt cells now pane size) {p : Nat} (hp : p < cnt) : GoodLab (EJ jr jb) (cells p) 1 (fun _ b => (cells p).getLsbD b = true) := by
  obtain ⟨g1, g2, g3, g4, g5⟩ := h.2.2.2.1
  refine ⟨fun i _ => g1 p hp, fun b => ⟨fun hb => ⟨0, by omega, hb⟩, fun ⟨i, _, hb⟩ => hb⟩, fun i _ a b ha => ⟨fun hb => ?_, fun hb => ?_⟩, fun i j a hi hj _ _ => by omega, fun i j hi hj => by omega⟩
  · have hr := (g3 p hp a b ha).mp hb
    refine hr.mono (fun z hz => Rch.start hz) (fun x y hx hE => ⟨hE.1, ?_⟩)
    have hxp := (g3 p hp a x ha).mpr hx
    exact (g3 p hp x y hxp).mpr ((Rch.start rfl : Rch (EP (EJ jr jb) all) (fun z => z = x) x).step hE)
  · exact rch_in ha hb
theorem em_frame {N R C : Nat} (hN : 4000 ≤ N) {jr jb all : BitVec 64} {cnt : Nat} {cells : Int → BitVec 64} {now pane size : Int → Int} (h : PC R C jr jb all cnt cells now pane size) {p : Nat} (hp : p < cnt) {cl kl : Int} (hcl : xR cl) (hkl : xR kl) {t b l r : Nat} (hf : Frm (cells p) t b l r) : emB N (cells p) all jr jb cl kl t b l r = if ez R C (fun u => (cells p).getLsbD (eb u)) cl kl = true then 1 else -1 := by
  have hb7 := h.2.1.2.2.1
  have hf0 := hf
  obtain ⟨f1, f2, f3, f4, f5, -⟩ := hf0
  obtain ⟨x, -, x2, -, x4, -⟩ := emB_spec hN (jr := jr) (jb := jb) (show R ≤ 7 ∧ C ≤ 7 by omega) h.2.2.1 (h.sub hp) hcl hkl f1 f2 f3 f4
  have hx : cells p &&& x = cells p := by
    apply gl_ext
    intro i _
    rw [Bool.eq_iff_iff, x2 i]
    exact ⟨fun hq => hq.1, fun hq => ⟨hq, f5 i hq⟩⟩
  rw [hx] at x4
  refine x4.uniq ⟨1, _, h.one hp, ?_⟩
  rw [← ezS_bits]
  cases hz : ezS R C (fun b => (cells p).getLsbD b = true) cl kl with
  | true => exact Or.inr ⟨by rw [if_pos rfl]; rfl, fun j _ => rfl⟩
  | false => exact Or.inl ⟨by rw [if_neg (by decide)], 0, by omega, rfl⟩
theorem qu_splitPieces {N R C : Nat} (hN : 4000 ≤ N) {all jr jb : BitVec 64} {count cl kl : Int} {cells near : Int → BitVec 64} {now : Int → Int} (h : PO all jr jb count cells near now R C) (hcl : cl = now 2 ∧ 1 ≤ cl ∧ cl ≤ 49) (hkl : kl = now 3 ∧ 0 ≤ kl ∧ kl ≤ 8) {planned : Int} {scells : BitVec 64} {st sb sl sr : Int} {sw sln : Int → Int} (hS : SPL N cl kl all jr jb count cells planned scells st sb sl sr sw sln) {z1 : Int} (hz1 : xR z1) (t b l r p : Int) (queue pane fr size se pi le li : Int → Int) :
    ∃ Rg Rm, f_gp_splitPieces N z1 cl kl all jr jb count cells planned scells st sb sl sr sw sln = some Rg ∧ f_mo_splitPieces N z1 t b l r p now queue pane fr size se pi le li = some Rm ∧ Rg.1 = Rm.1 ∧ SPL N cl kl all jr jb count cells Rg.2.1 Rg.2.2.1 Rg.2.2.2.1 Rg.2.2.2.2.1 Rg.2.2.2.2.2.1 Rg.2.2.2.2.2.2.1 Rg.2.2.2.2.2.2.2.1 Rg.2.2.2.2.2.2.2.2 := by
  obtain ⟨cnt, q', p', s', e1, e2, e3⟩ := mo_isPane hN h hz1 t b l r p queue pane size
  have h49 := e3.1
  have hb7 := e3.2.1.2.2.1
  subst e1
  by_cases c : 0 ≤ z1 ∧ z1 < cnt
  · rw [if_pos c] at e2
    obtain ⟨j, rfl⟩ : ∃ j : Nat, z1 = j := ⟨z1.toNat, by omega⟩
    have hj : j < cnt := by omega
    obtain ⟨t1, b1, l1, r1, w, ln, a1, a2, a3⟩ := sp_plan hN e3 hcl.2 hkl.2 hS hj
    have ho := emB_ok hN (jr := jr) (jb := jb) (show R ≤ 7 ∧ C ≤ 7 by omega) e3.2.2.1 (e3.sub hj) (cl := cl) (kl := kl) (by omega) (by omega) hcl.2.1 hkl.2.1
    have a20 := a2
    obtain ⟨f1, f2, f3, f4, -⟩ := a20
    have hw := (a3 t1 b1 l1 r1 (Nat.le_refl _) f1 (Nat.le_refl _) (Nat.le_refl _) f3 (Nat.le_refl _)).1
    have hlim := pl_lim ho f1 f2 f3 f4
    have hpl := plc_lt f1 f2 f3 f4
    have hdm : w ((plc t1 b1 l1 r1 : Nat) : Int) / 128 = (pln N (cells j) all jr jb cl kl t1 b1 l1 r1).1 := by
      have g1 : 0 ≤ (pln N (cells j) all jr jb cl kl t1 b1 l1 r1).2.1 := hlim.2.2.1
      have g2 : (pln N (cells j) all jr jb cl kl t1 b1 l1 r1).2.1 ≤ 96 := hlim.2.2.2.1
      rw [hw]; omega
    have hw0 : 0 ≤ w ((plc t1 b1 l1 r1 : Nat) : Int) ∧ w ((plc t1 b1 l1 r1 : Nat) : Int) < 2147483648 := by
      have g1 : 0 ≤ (pln N (cells j) all jr jb cl kl t1 b1 l1 r1).2.1 := hlim.2.2.1
      have g2 : (pln N (cells j) all jr jb cl kl t1 b1 l1 r1).2.1 ≤ 96 := hlim.2.2.2.1
      have g3 : 0 ≤ (pln N (cells j) all jr jb cl kl t1 b1 l1 r1).1 := hlim.1
      have g4 : (pln N (cells j) all jr jb cl kl t1 b1 l1 r1).1 ≤ 49 := hlim.2.1
      rw [hw]; omega
    have hgp : f_sp_pieces N (t1 : Int) (b1 : Int) (l1 : Int) (r1 : Int) w = some ((pln N (cells j) all jr jb cl kl t1 b1 l1 r1).1) := by
      unfold f_sp_pieces
      rw [sp_place f2 f4, bd_some, og_pos (by omega), og_pos hw0, hdm]
    have g1 : f_gp_splitPieces N (j : Int) cl kl all jr jb (cnt : Int) cells planned scells st sb sl sr sw sln = some ((pln N (cells j) all jr jb cl kl t1 b1 l1 r1).1, (j : Int), cells j, (t1 : Int), (b1 : Int), (l1 : Int), (r1 : Int), w, ln) := by
      unfold f_gp_splitPieces
      rw [pa_hasPane h49.2 hz1, bd_some, if_pos c, og_pos (by decide), if_neg (by decide), a1, bd_some]
      show Option.bind (f_sp_pieces N (t1 : Int) (b1 : Int) (l1 : Int) (r1 : Int) w) _ = _
      rw [hgp, bd_some]
    have hspl : SPL N cl kl all jr jb (cnt : Int) cells (j : Int) (cells j) (t1 : Int) (b1 : Int) (l1 : Int) (r1 : Int) w ln := Or.inr ⟨by omega, by omega, rfl, t1, b1, l1, r1, a2, rfl, rfl, rfl, rfl, a3⟩
    obtain ⟨-, q2, s2, r2⟩ := e3.easy hN (j := j) hj q' se
    have hem := em_frame hN e3 hj (cl := cl) (kl := kl) (by omega) (by omega) a2
    have hez : ez R C (fun u => (cells j).getLsbD (eb u)) cl kl = ez R C (fun v => decide (p' (v : Int) = j)) (now 2) (now 3) := by
      rw [hcl.1, hkl.1]
      exact ez_congr (show R ≤ 7 ∧ C ≤ 7 by omega) (fun u hu => e3.set hj u hu)
    rw [hez] at hem
    by_cases cz : ez R C (fun v => decide (p' (v : Int) = j)) (now 2) (now 3) = true
    · rw [if_pos cz] at r2 hem
      have hpl1 : pln N (cells j) all jr jb cl kl t1 b1 l1 r1 = (1, 0, -1) := by
        have := (pl_bound ho _ t1 b1 l1 r1 (Nat.le_refl _) f1 f2 f3 f4).2.2 (by rw [hem]; decide)
        rw [hem] at this
        exact this
      have g2 : f_mo_splitPieces N (j : Int) t b l r p now queue pane fr size se pi le li = some (1, 0, (R : Int) - 1, 0, (C : Int) - 1, (cnt : Int), q2, p', fr, s', s2, pi, le, li) := by
        unfold f_mo_splitPieces
        rw [e2, bd_some, og_pos (show xR (1 : Int) by decide), if_neg (show ¬ (1 : Int) = 0 by decide)]
        show Option.bind (f_mo_canCut N (j : Int) now q' p' s' se) _ = _
        rw [r2, bd_some, og_pos (show xR (1 : Int) by decide), if_neg (show ¬ (1 : Int) = 0 by decide)]
      rw [hpl1] at g1
      exact ⟨_, _, g1, g2, rfl, hspl⟩
    · rw [if_neg cz] at r2 hem
      obtain ⟨t2, b2, l2, r3, T', B', L', Q', q3, fr', se', pi', le', li', m1, m2, m3, m4, m5⟩ := mo_layPlan (cl := cl) (kl := kl) hN e3 hj hcl.1.symm hkl.1.symm hcl.2.1 0 ((R : Int) - 1) 0 ((C : Int) - 1) q2 fr s2 pi le li
      obtain ⟨rfl, rfl, rfl, rfl⟩ := m2.uniq a2
      have hbx := bx_lt (t := t2) (b := b2) (l := l2) (r := r3) (by omega) (by omega) (by omega) (by omega)
      have htab := m5 t2 b2 l2 r3 (Nat.le_refl _) f1 (Nat.le_refl _) (Nat.le_refl _) f3 (Nat.le_refl _)
      have g2 : f_mo_splitPieces N (j : Int) t b l r p now queue pane fr size se pi le li = some ((pln N (cells j) all jr jb cl kl t2 b2 l2 r3).1, T', B', L', Q', (cnt : Int), q3, p', fr', s', se', pi', le', li') := by
        unfold f_mo_splitPieces
        rw [e2, bd_some, og_pos (show xR (1 : Int) by decide), if_neg (show ¬ (1 : Int) = 0 by decide)]
        show Option.bind (f_mo_canCut N (j : Int) now q' p' s' se) _ = _
        rw [r2, bd_some, og_pos (show xR (0 : Int) by decide), if_pos rfl]
        show Option.bind (f_mo_layPlan N (j : Int) 0 ((R : Int) - 1) 0 ((C : Int) - 1) now q2 p' fr s2 pi le li) _ = _
        rw [m1, bd_some, og_pos (by omega)]
        rw [← htab.1]
      exact ⟨_, _, g1, g2, rfl, hspl⟩
  · rw [if_neg c] at e2
    have g1 : f_gp_splitPieces N z1 cl kl all jr jb (cnt : Int) cells planned scells st sb sl sr sw sln = some (-1, planned, scells, st, sb, sl, sr, sw, sln) := by
      unfold f_gp_splitPieces
      rw [pa_hasPane h49.2 hz1, bd_some, if_neg c, og_pos (by decide), if_pos rfl]
    have g2 : f_mo_splitPieces N z1 t b l r p now queue pane fr size se pi le li = some (-1, 0, (R : Int) - 1, 0, (C : Int) - 1, (cnt : Int), q', p', fr, s', se, pi, le, li) := by
      unfold f_mo_splitPieces
      rw [e2, bd_some, og_pos (show xR (0 : Int) by decide), if_pos rfl]
    exact ⟨_, _, g1, g2, rfl, hS⟩
theorem qu_splitLead {N R C : Nat} (hN : 4000 ≤ N) {all jr jb : BitVec 64} {count cl kl : Int} {cells near : Int → BitVec 64} {now : Int → Int} (h : PO all jr jb count cells near now R C) (hcl : cl = now 2 ∧ 1 ≤ cl ∧ cl ≤ 49) (hkl : kl = now 3 ∧ 0 ≤ kl ∧ kl ≤ 8) {planned : Int} {scells : BitVec 64} {st sb sl sr : Int} {sw sln : Int → Int} (hS : SPL N cl kl all jr jb count cells planned scells st sb sl sr sw sln) {z1 : Int} (hz1 : xR z1) (t b l r p : Int) (queue pane fr size se pi le li : Int → Int) :
    ∃ Rg Rm, f_gp_splitLead N z1 cl kl all jr jb count cells planned scells st sb sl sr sw sln = some Rg ∧ f_mo_splitLead N z1 t b l r p now queue pane fr size se pi le li = some Rm ∧ Rg.1 = Rm.1 ∧ SPL N cl kl all jr jb count cells Rg.2.1 Rg.2.2.1 Rg.2.2.2.1 Rg.2.2.2.2.1 Rg.2.2.2.2.2.1 Rg.2.2.2.2.2.2.1 Rg.2.2.2.2.2.2.2.1 Rg.2.2.2.2.2.2.2.2 := by
  obtain ⟨cnt, q', p', s', e1, e2, e3⟩ := mo_isPane hN h hz1 t b l r p queue pane size
  have h49 := e3.1
  have hb7 := e3.2.1.2.2.1
  subst e1
  by_cases c : 0 ≤ z1 ∧ z1 < cnt
  · rw [if_pos c] at e2
    obtain ⟨j, rfl⟩ : ∃ j : Nat, z1 = j := ⟨z1.toNat, by omega⟩
    have hj : j < cnt := by omega
    obtain ⟨t1, b1, l1, r1, w, ln, a1, a2, a3⟩ := sp_plan hN e3 hcl.2 hkl.2 hS hj
    have ho := emB_ok hN (jr := jr) (jb := jb) (show R ≤ 7 ∧ C ≤ 7 by omega) e3.2.2.1 (e3.sub hj) (cl := cl) (kl := kl) (by omega) (by omega) hcl.2.1 hkl.2.1
    have a20 := a2
    obtain ⟨f1, f2, f3, f4, -⟩ := a20
    have hw := (a3 t1 b1 l1 r1 (Nat.le_refl _) f1 (Nat.le_refl _) (Nat.le_refl _) f3 (Nat.le_refl _)).1
    have hlim := pl_lim ho f1 f2 f3 f4
    have hpl := plc_lt f1 f2 f3 f4
    have hdm : w ((plc t1 b1 l1 r1 : Nat) : Int) % 128 = (pln N (cells j) all jr jb cl kl t1 b1 l1 r1).2.1 := by
      have g1 : 0 ≤ (pln N (cells j) all jr jb cl kl t1 b1 l1 r1).2.1 := hlim.2.2.1
      have g2 : (pln N (cells j) all jr jb cl kl t1 b1 l1 r1).2.1 ≤ 96 := hlim.2.2.2.1
      rw [hw]; omega
    have hw0 : 0 ≤ w ((plc t1 b1 l1 r1 : Nat) : Int) ∧ w ((plc t1 b1 l1 r1 : Nat) : Int) < 2147483648 := by
      have g1 : 0 ≤ (pln N (cells j) all jr jb cl kl t1 b1 l1 r1).2.1 := hlim.2.2.1
      have g2 : (pln N (cells j) all jr jb cl kl t1 b1 l1 r1).2.1 ≤ 96 := hlim.2.2.2.1
      have g3 : 0 ≤ (pln N (cells j) all jr jb cl kl t1 b1 l1 r1).1 := hlim.1
      have g4 : (pln N (cells j) all jr jb cl kl t1 b1 l1 r1).1 ≤ 49 := hlim.2.1
      rw [hw]; omega
    have hgp : f_sp_lead N (t1 : Int) (b1 : Int) (l1 : Int) (r1 : Int) w = some ((pln N (cells j) all jr jb cl kl t1 b1 l1 r1).2.1) := by
      unfold f_sp_lead
      rw [sp_place f2 f4, bd_some, og_pos (by omega), og_pos hw0, hdm]
    have g1 : f_gp_splitLead N (j : Int) cl kl all jr jb (cnt : Int) cells planned scells st sb sl sr sw sln = some ((pln N (cells j) all jr jb cl kl t1 b1 l1 r1).2.1, (j : Int), cells j, (t1 : Int), (b1 : Int), (l1 : Int), (r1 : Int), w, ln) := by
      unfold f_gp_splitLead
      rw [pa_hasPane h49.2 hz1, bd_some, if_pos c, og_pos (by decide), if_neg (by decide), a1, bd_some]
      show Option.bind (f_sp_lead N (t1 : Int) (b1 : Int) (l1 : Int) (r1 : Int) w) _ = _
      rw [hgp, bd_some]
    have hspl : SPL N cl kl all jr jb (cnt : Int) cells (j : Int) (cells j) (t1 : Int) (b1 : Int) (l1 : Int) (r1 : Int) w ln := Or.inr ⟨by omega, by omega, rfl, t1, b1, l1, r1, a2, rfl, rfl, rfl, rfl, a3⟩
    obtain ⟨-, q2, s2, r2⟩ := e3.easy hN (j := j) hj q' se
    have hem := em_frame hN e3 hj (cl := cl) (kl := kl) (by omega) (by omega) a2
    have hez : ez R C (fun u => (cells j).getLsbD (eb u)) cl kl = ez R C (fun v => decide (p' (v : Int) = j)) (now 2) (now 3) := by
      rw [hcl.1, hkl.1]
      exact ez_congr (show R ≤ 7 ∧ C ≤ 7 by omega) (fun u hu => e3.set hj u hu)
    rw [hez] at hem
    by_cases cz : ez R C (fun v => decide (p' (v : Int) = j)) (now 2) (now 3) = true
    · rw [if_pos cz] at r2 hem
      have hpl1 : pln N (cells j) all jr jb cl kl t1 b1 l1 r1 = (1, 0, -1) := by
        have := (pl_bound ho _ t1 b1 l1 r1 (Nat.le_refl _) f1 f2 f3 f4).2.2 (by rw [hem]; decide)
        rw [hem] at this
        exact this
      have g2 : f_mo_splitLead N (j : Int) t b l r p now queue pane fr size se pi le li = some (0, 0, (R : Int) - 1, 0, (C : Int) - 1, (cnt : Int), q2, p', fr, s', s2, pi, le, li) := by
        unfold f_mo_splitLead
        rw [e2, bd_some, og_pos (show xR (1 : Int) by decide), if_neg (show ¬ (1 : Int) = 0 by decide)]
        show Option.bind (f_mo_canCut N (j : Int) now q' p' s' se) _ = _
        rw [r2, bd_some, og_pos (show xR (1 : Int) by decide), if_neg (show ¬ (1 : Int) = 0 by decide)]
      rw [hpl1] at g1
      exact ⟨_, _, g1, g2, rfl, hspl⟩
    · rw [if_neg cz] at r2 hem
      obtain ⟨t2, b2, l2, r3, T', B', L', Q', q3, fr', se', pi', le', li', m1, m2, m3, m4, m5⟩ := mo_layPlan (cl := cl) (kl := kl) hN e3 hj hcl.1.symm hkl.1.symm hcl.2.1 0 ((R : Int) - 1) 0 ((C : Int) - 1) q2 fr s2 pi le li
      obtain ⟨rfl, rfl, rfl, rfl⟩ := m2.uniq a2
      have hbx := bx_lt (t := t2) (b := b2) (l := l2) (r := r3) (by omega) (by omega) (by omega) (by omega)
      have htab := m5 t2 b2 l2 r3 (Nat.le_refl _) f1 (Nat.le_refl _) (Nat.le_refl _) f3 (Nat.le_refl _)
      have g2 : f_mo_splitLead N (j : Int) t b l r p now queue pane fr size se pi le li = some ((pln N (cells j) all jr jb cl kl t2 b2 l2 r3).2.1, T', B', L', Q', (cnt : Int), q3, p', fr', s', se', pi', le', li') := by
        unfold f_mo_splitLead
        rw [e2, bd_some, og_pos (show xR (1 : Int) by decide), if_neg (show ¬ (1 : Int) = 0 by decide)]
        show Option.bind (f_mo_canCut N (j : Int) now q' p' s' se) _ = _
        rw [r2, bd_some, og_pos (show xR (0 : Int) by decide), if_pos rfl]
        show Option.bind (f_mo_layPlan N (j : Int) 0 ((R : Int) - 1) 0 ((C : Int) - 1) now q2 p' fr s2 pi le li) _ = _
        rw [m1, bd_some, og_pos (by omega)]
        rw [← htab.2.1]
      exact ⟨_, _, g1, g2, rfl, hspl⟩
  · rw [if_neg c] at e2
    have g1 : f_gp_splitLead N z1 cl kl all jr jb (cnt : Int) cells planned scells st sb sl sr sw sln = some (-1, planned, scells, st, sb, sl, sr, sw, sln) := by
      unfold f_gp_splitLead
      rw [pa_hasPane h49.2 hz1, bd_some, if_neg c, og_pos (by decide), if_pos rfl]
    have g2 : f_mo_splitLead N z1 t b l r p now queue pane fr size se pi le li = some (-1, 0, (R : Int) - 1, 0, (C : Int) - 1, (cnt : Int), q', p', fr, s', se, pi, le, li) := by
      unfold f_mo_splitLead
      rw [e2, bd_some, og_pos (show xR (0 : Int) by decide), if_pos rfl]
    exact ⟨_, _, g1, g2, rfl, hS⟩
