/-! ===== PURE: loose cuts away, and a drawing from the text ===== -/
theorem rloose_loop {N R C : Nat} {now pane : Int → Int} (hb : 1 ≤ R ∧ R ≤ 7 ∧ 1 ≤ C ∧ C ≤ 7) (h53 : ∀ u : Nat, u < 49 → now ((53 + u : Nat) : Int) = 0 ∨ (now ((53 + u : Nat) : Int) = 1 ∧ u / 7 < R ∧ u % 7 + 1 < C)) (h102 : ∀ u : Nat, u < 49 → now ((102 + u : Nat) : Int) = 0 ∨ (now ((102 + u : Nat) : Int) = 1 ∧ u / 7 + 1 < R ∧ u % 7 < C)) (hp : ∀ j : Int, 0 ≤ j → j < 49 → xR (pane j)) (a e t b l r p : Int) (past q size : Int → Int) :
    ∀ (n k : Nat) (nk : Int → Int), k ≤ 98 → 98 < n + k → (∀ j : Int, j < 53 → nk j = now j) → (∀ i : Nat, i < 98 → nk ((53 + i : Nat) : Int) = if i < k ∧ lsk now pane i = true then 0 else now ((53 + i : Nat) : Int)) →
      ∃ now', f_mo_removeLooseCuts_18 N a e t b l r p past q pane size n (k : Int) nk = some (a, e, t, b, l, r, p, now', past, q, pane, size) ∧ (∀ j : Int, j < 53 → now' j = now j) ∧ (∀ i : Nat, i < 98 → now' ((53 + i : Nat) : Int) = if lsk now pane i = true then 0 else now ((53 + i : Nat) : Int)) := by
  intro n
  induction n with
  | zero => intro k nk hk hn; omega
  | succ n ih =>
    intro k nk hk hn h1 h2
    rw [f_mo_removeLooseCuts_18.eq_2, og_pos (by omega)]
    by_cases hend : k = 98
    · rw [if_pos (by omega)]
      refine ⟨nk, rfl, h1, fun i hi => ?_⟩
      rw [h2 i hi]
      by_cases c : lsk now pane i = true
      · rw [if_pos ⟨by omega, c⟩, if_pos c]
      · rw [if_neg (fun hq => c hq.2), if_neg c]
    · have k53 : ∀ u : Nat, u < 49 → nk ((53 + u : Nat) : Int) = 0 ∨ (nk ((53 + u : Nat) : Int) = 1 ∧ u / 7 < R ∧ u % 7 + 1 < C) := by
        intro u hu
        rw [h2 u (by omega)]
        split
        · exact Or.inl rfl
        · exact h53 u hu
      have k102 : ∀ u : Nat, u < 49 → nk ((102 + u : Nat) : Int) = 0 ∨ (nk ((102 + u : Nat) : Int) = 1 ∧ u / 7 + 1 < R ∧ u % 7 < C) := by
        intro u hu
        have := h102 u hu
        rw [show 102 + u = 53 + (49 + u) by omega] at this ⊢
        rw [h2 (49 + u) (by omega)]
        split
        · exact Or.inl rfl
        · exact this
      have hl : lsk nk pane k = lsk now pane k := by
        unfold lsk
        rw [h2 k (by omega), if_neg (fun hq => by omega)]
      rw [if_neg (by omega), mo_isLoose hb k53 k102 hp (by omega), bd_some, hl]
      have e1 : (k : Int) + 1 = ((k + 1 : Nat) : Int) := by omega
      have e2 : (53 : Int) + (k : Int) = ((53 + k : Nat) : Int) := by omega
      have fin : ∀ z : Int, (z = if lsk now pane k = true then 0 else now ((53 + k : Nat) : Int)) → ∃ now', f_mo_removeLooseCuts_18 N a e t b l r p past q pane size n ((k + 1 : Nat) : Int) (upi nk ((53 + k : Nat) : Int) z) = some (a, e, t, b, l, r, p, now', past, q, pane, size) ∧ (∀ j : Int, j < 53 → now' j = now j) ∧ (∀ i : Nat, i < 98 → now' ((53 + i : Nat) : Int) = if lsk now pane i = true then 0 else now ((53 + i : Nat) : Int)) := by
        intro z hz
        refine ih (k + 1) _ (by omega) (by omega) (fun j hj => ?_) (fun i hi => ?_)
        · rw [upi_n _ _ (by omega)]; exact h1 j hj
        · by_cases c : i = k
          · subst c
            rw [upi_s, hz]
            by_cases c2 : lsk now pane i = true
            · rw [if_pos c2, if_pos ⟨by omega, c2⟩]
            · rw [if_neg c2, if_neg (fun hq => c2 hq.2)]
          · rw [upi_n _ _ (by omega), h2 i hi]
            by_cases c2 : i < k ∧ lsk now pane i = true
            · rw [if_pos c2, if_pos ⟨by omega, c2.2⟩]
            · rw [if_neg c2, if_neg (fun hq => c2 ⟨by omega, hq.2⟩)]
      by_cases c : lsk now pane k = true
      · rw [if_pos c, og_pos (by decide), if_neg (by decide), bd_some, og_pos (by omega), bd_some, bd_some, e1, e2]
        exact fin 0 (by rw [if_pos c])
      · rw [if_neg c, og_pos (by decide), if_pos rfl, og_pos (by omega), bd_some, og_pos (by omega), bd_some, bd_some, e1, e2]
        exact fin _ (by rw [if_neg c, h2 k (by omega), if_neg (fun hq => c hq.2)])
theorem gl_sub {x y : BitVec 64} {i : Nat} : (x &&& (y ^^^ 18446744073709551615#64)).getLsbD i = true ↔ x.getLsbD i = true ∧ y.getLsbD i = false := by
  rw [gl_and]
  by_cases c : i < 64
  · rw [gl_not y c]; simp
  · rw [gl_big (x := x) (by omega)]; simp
section LOOSE
variable {N : Nat} {rows cols : Int} {cr cb : BitVec 64} {cl kl : Int} {col : Int → Int} {next count : Int} {kr kc : Int → Int} {kcr kcb : Int → BitVec 64} {kcl kkl : Int → Int} {kcol : Int → Int → Int} {all jr jb : BitVec 64} {pc : Int} {cells near : Int → BitVec 64} {planned : Int} {scells : BitVec 64} {st sb sl sr : Int} {sw sln : Int → Int} {edits : Int} {now past : Int → Int}
theorem qu_removeLooseCuts (hN : 4000 ≤ N) (h : CORE N rows cols cr cb cl kl col next count kr kc kcr kcb kcl kkl kcol all jr jb pc cells near planned scells st sb sl sr sw sln edits now past) (t b l r p : Int) (queue pane size : Int → Int) :
    ∃ Rg Rm, f_gp_removeLooseCuts N rows cols cr cb cl kl col next count kr kc kcr kcb kcl kkl kcol all jr jb pc cells near planned = some Rg ∧ f_mo_removeLooseCuts N edits t b l r p now past queue pane size = some Rm ∧ Rg.1 = Rm.1 ∧ CORE N rows cols Rg.2.1 Rg.2.2.1 cl kl col Rg.2.2.2.1 Rg.2.2.2.2.1 Rg.2.2.2.2.2.1 Rg.2.2.2.2.2.2.1 Rg.2.2.2.2.2.2.2.1 Rg.2.2.2.2.2.2.2.2.1 Rg.2.2.2.2.2.2.2.2.2.1 Rg.2.2.2.2.2.2.2.2.2.2.1 Rg.2.2.2.2.2.2.2.2.2.2.2.1 Rg.2.2.2.2.2.2.2.2.2.2.2.2.1 Rg.2.2.2.2.2.2.2.2.2.2.2.2.2.1 Rg.2.2.2.2.2.2.2.2.2.2.2.2.2.2.1 Rg.2.2.2.2.2.2.2.2.2.2.2.2.2.2.2.1 Rg.2.2.2.2.2.2.2.2.2.2.2.2.2.2.2.2.1 Rg.2.2.2.2.2.2.2.2.2.2.2.2.2.2.2.2.2.1 Rg.2.2.2.2.2.2.2.2.2.2.2.2.2.2.2.2.2.2 scells st sb sl sr sw sln Rm.2.1 Rm.2.2.2.2.2.2.2.1 Rm.2.2.2.2.2.2.2.2.1 := by
  obtain ⟨hH, ⟨R, C, hd, hP⟩, hS⟩ := h
  obtain ⟨cnt, q', p', s', e1, e2, e3⟩ := po_mo hN hP t b l r p queue pane size
  obtain ⟨lr, lb, l1, l2, l3, l4, l5⟩ := pa_loose hN hd e3
  have hc := loose_count hN hd l3 l4 l5
  have hd0 := hd
  obtain ⟨-, -, -, -, hb, -, -, -, -, -, -, h53, h102⟩ := hd0
  have hlc : f_mo_looseCuts N t b l r p now queue pane size = some (cntB (lsk now p') 98, 0, (R : Int) - 1, 0, (C : Int) - 1, (cnt : Int), q', p', s') := by
    unfold f_mo_looseCuts
    rw [e2, bd_some]
    exact loose_loop hb h53 h102 e3.marks 0 ((R : Int) - 1) 0 ((C : Int) - 1) (cnt : Int) q' s' N 0 (by omega) (by omega)
  have hnn := cntB_nn (lsk now p') 98
  have hnr := popc_nn lr
  have hnb := popc_nn lb
  by_cases c : cntB (lsk now p') 98 = 0
  · have z1 : lr = 0#64 := popc_zero.mp (by omega)
    have z2 : lb = 0#64 := popc_zero.mp (by omega)
    have g1 : f_gp_removeLooseCuts N rows cols cr cb cl kl col next count kr kc kcr kcb kcl kkl kcol all jr jb pc cells near planned = some (-2, cr, cb, next, count, kr, kc, kcr, kcb, kcl, kkl, kcol, all, jr, jb, pc, cells, near, planned) := by
      unfold f_gp_removeLooseCuts
      rw [e1, l1, bd_some, l2, bd_some, if_pos z1, if_pos z2]
    have g2 : f_mo_removeLooseCuts N edits t b l r p now past queue pane size = some (-2, edits, 0, (R : Int) - 1, 0, (C : Int) - 1, (cnt : Int), now, past, q', p', s') := by
      unfold f_mo_removeLooseCuts
      rw [hlc, bd_some, og_pos (by omega), if_pos c]
    exact ⟨_, _, g1, g2, rfl, hH, ⟨R, C, hd, hP⟩, hS⟩
  · obtain ⟨gr, gb⟩ := rd_grid hd
    have main : ∀ now' : Int → Int, (∀ j : Int, j < 53 → now' j = now j) → (∀ i : Nat, i < 98 → now' ((53 + i : Nat) : Int) = if lsk now p' i = true then 0 else now ((53 + i : Nat) : Int)) → RD rows cols (cr &&& (lr ^^^ 18446744073709551615#64)) (cb &&& (lb ^^^ 18446744073709551615#64)) cl kl col now' R C := by
      intro now' n1 n2
      have n3 : ∀ i : Nat, i < 98 → now' ((53 + i : Nat) : Int) = 1 → now ((53 + i : Nat) : Int) = 1 ∧ lsk now p' i = false := by
        intro i hi h1
        rw [n2 i hi] at h1
        cases hx : lsk now p' i with
        | true => rw [if_pos hx] at h1; omega
        | false => rw [if_neg (by rw [hx]; decide)] at h1; exact ⟨h1, rfl⟩
      refine rd_cuts hd (fun j _ j2 => n1 j j2) ?_ ?_ ?_ ?_ ?_ ?_ ?_
      · intro k hk
        rw [n2 k hk]
        split
        · exact Or.inl rfl
        · exact rd_01 hd hk
      · exact fun i hi => gr i (gl_sub.mp hi).1
      · exact fun i hi => gb i (gl_sub.mp hi).1
      · intro u hu
        rw [gl_sub, (rd_bit hd hu).1, (l5 u hu).1]
        constructor
        · rintro ⟨a1, a2⟩
          rw [n2 u (by omega), if_neg (by rw [a2]; decide)]; exact a1
        · exact n3 u (by omega)
      · intro u hu
        rw [gl_sub, (rd_bit hd hu).2, (l5 u hu).2, show 102 + u = 53 + (49 + u) by omega]
        constructor
        · rintro ⟨a1, a2⟩
          rw [n2 (49 + u) (by omega), if_neg (by rw [a2]; decide)]; exact a1
        · exact n3 (49 + u) (by omega)
      · intro u hu h1
        have := (n3 u (by omega) h1).1
        have := h53 u hu
        omega
      · intro u hu h1
        rw [show 102 + u = 53 + (49 + u) by omega] at h1
        have := (n3 (49 + u) (by omega) h1).1
        rw [show 53 + (49 + u) = 102 + u by omega] at this
        have := h102 u hu
        omega
    have hsv := hi_save hN hH hd
    obtain ⟨-, -, -, -, -, -, -, -, -, ed, pa, -, sv, -⟩ := hsv
    obtain ⟨now', w1, w2, w3⟩ := rloose_loop (N := N) hb h53 h102 e3.marks (cntB (lsk now p') 98) ed 0 ((R : Int) - 1) 0 ((C : Int) - 1) (cnt : Int) pa q' s' N 0 now (by omega) (by omega) (fun _ _ => rfl) (fun i hi => by rw [if_neg (fun hq => by omega)])
    have hd' := main now' w2 w3
    obtain ⟨next', count', kr', kc', kcr', kcb', kcl', kkl', kcol', edits', past', all', jr', jb', pc', cells', near', s1, s2, s3, s4, s5⟩ := core_edit hN hH hd hd' all jr jb pc cells near planned
    have hcut : f_gp_removeLooseCuts_31 N rows cols cl kl col lr lb cr cb next count kr kc kcr kcb kcl kkl kcol all jr jb pc cells near planned = some (popc lr + popc lb, cr &&& (lr ^^^ 18446744073709551615#64), cb &&& (lb ^^^ 18446744073709551615#64), next', count', kr', kc', kcr', kcb', kcl', kkl', kcol', all', jr', jb', pc', cells', near', -1) := by
      unfold f_gp_removeLooseCuts_31
      rw [s1, bd_some, bd_some, bd_some, s3, bd_some]
    have g1 : f_gp_removeLooseCuts N rows cols cr cb cl kl col next count kr kc kcr kcb kcl kkl kcol all jr jb pc cells near planned = some (popc lr + popc lb, cr &&& (lr ^^^ 18446744073709551615#64), cb &&& (lb ^^^ 18446744073709551615#64), next', count', kr', kc', kcr', kcb', kcl', kkl', kcol', all', jr', jb', pc', cells', near', -1) := by
      unfold f_gp_removeLooseCuts
      rw [e1, l1, bd_some, l2, bd_some, ← e1, hcut]
      by_cases d1 : lr = 0#64
      · rw [if_pos d1, if_neg (fun hq => c (by rw [← hc, popc_zero.mpr d1, popc_zero.mpr hq]; rfl))]
      · rw [if_neg d1]
    have g2 : f_mo_removeLooseCuts N edits t b l r p now past queue pane size = some (cntB (lsk now p') 98, edits', 0, (R : Int) - 1, 0, (C : Int) - 1, (cnt : Int), now', past', q', p', s') := by
      unfold f_mo_removeLooseCuts
      rw [hlc, bd_some, og_pos (by omega), if_neg c, sv, bd_some]
      rw [sv] at s2
      have := Option.some.inj s2
      have x1 : ed = edits' := congrArg Prod.fst this
      have x2 : pa = past' := congrArg Prod.snd this
      rw [← x1, ← x2]
      exact w1
    exact ⟨_, _, g1, g2, hc, s5 _ _ _ _ _ _ _⟩
end LOOSE
/-- the reference's new drawing -/
theorem load_loop {N RR CC : Nat} (hN : 4000 ≤ N) (hb : RR ≤ 7 ∧ CC ≤ 7) (e ty t b l r p : Int) (past rd q pn sz : Int → Int) : ∀ (n k : Nat) (now : Int → Int), k ≤ 49 → 49 < n + k →
    ∃ now' : Int → Int, f_mo_loadDrawing_41 N e ty (RR : Int) (CC : Int) t b l r p past rd q pn sz n (k : Int) now = (Option.bind (f_mo_findPanes N t b l r p now' q pn sz) fun q_30 => some (q_30.2.2.2.2.1, e, 0, (RR : Int), (CC : Int), q_30.1, q_30.2.1, q_30.2.2.1, q_30.2.2.2.1, q_30.2.2.2.2.1, now', past, rd, q_30.2.2.2.2.2.1, q_30.2.2.2.2.2.2.1, q_30.2.2.2.2.2.2.2)) ∧
      (∀ j : Int, j < 4 → now' j = now j) ∧ (∀ u : Nat, u < 49 → k ≤ u → now' ((4 + u : Nat) : Int) = (if u / 7 < RR ∧ u % 7 < CC then rd (u : Int) else 0) ∧ now' ((53 + u : Nat) : Int) = 0 ∧ now' ((102 + u : Nat) : Int) = 0) ∧ (∀ u : Nat, u < k → now' ((4 + u : Nat) : Int) = now ((4 + u : Nat) : Int) ∧ now' ((53 + u : Nat) : Int) = now ((53 + u : Nat) : Int) ∧ now' ((102 + u : Nat) : Int) = now ((102 + u : Nat) : Int)) := by
  intro n
  induction n with
  | zero => intro k now hk hn; omega
  | succ n ih =>
    intro k now hk hn
    rw [f_mo_loadDrawing_41.eq_2, og_pos (by omega)]
    by_cases hend : k = 49
    · rw [if_pos (by omega)]
      exact ⟨now, rfl, fun _ _ => rfl, fun u h1 h2 => by omega, fun u _ => ⟨rfl, rfl, rfl⟩⟩
    · rw [if_neg (by omega), og_pos (by omega), og_pos (by omega), og_pos (by omega)]
      have v1 : (if (RR : Int) ≤ (k : Int) / 7 then some (0 : Int) else og (xR ((k : Int) % 7)) <| og (xR (CC : Int)) <| if (CC : Int) ≤ (k : Int) % 7 then some 0 else some 1) = some (if k / 7 < RR ∧ k % 7 < CC then 1 else 0) := by
        by_cases c1 : (RR : Int) ≤ (k : Int) / 7
        · rw [if_pos c1, if_neg (by omega)]
        · rw [if_neg c1, og_pos (by omega), og_pos (by omega)]
          by_cases c2 : (CC : Int) ≤ (k : Int) % 7
          · rw [if_pos c2, if_neg (by omega)]
          · rw [if_neg c2, if_pos (by omega)]
      rw [v1, bd_some]
      have v2 : (if (if k / 7 < RR ∧ k % 7 < CC then (1 : Int) else 0) = 0 then some (0 : Int) else og (0 ≤ (k : Int) ∧ (k : Int) < 49) <| some (rd (k : Int))) = some (if k / 7 < RR ∧ k % 7 < CC then rd (k : Int) else 0) := by
        by_cases c1 : k / 7 < RR ∧ k % 7 < CC
        · rw [if_pos c1, if_neg (by decide), if_pos c1, og_pos (by omega)]
        · rw [if_neg c1, if_pos rfl, if_neg c1]
      rw [og_pos (by split <;> decide), v2, bd_some, og_pos (by omega), bd_some, og_pos (by omega), bd_some, og_pos (by omega), bd_some, bd_some, show (k : Int) + 1 = ((k + 1 : Nat) : Int) by omega, show (4 : Int) + (k : Int) = ((4 + k : Nat) : Int) by omega, show (53 : Int) + (k : Int) = ((53 + k : Nat) : Int) by omega, show (102 : Int) + (k : Int) = ((102 + k : Nat) : Int) by omega]
      obtain ⟨now', w1, w2, w3, w4⟩ := ih (k + 1) (upi (upi (upi now ((4 + k : Nat) : Int) (if k / 7 < RR ∧ k % 7 < CC then rd (k : Int) else 0)) ((53 + k : Nat) : Int) 0) ((102 + k : Nat) : Int) 0) (by omega) (by omega)
      refine ⟨now', w1, fun j hj => ?_, fun u h1 h2 => ?_, fun u h1 => ?_⟩
      · rw [w2 j hj, upi_n _ _ (by omega), upi_n _ _ (by omega), upi_n _ _ (by omega)]
      · by_cases c : u = k
        · subst c
          obtain ⟨x1, x2, x3⟩ := w4 u (by omega)
          rw [x1, x2, x3, upi_n _ _ (by omega), upi_n _ _ (by omega), upi_s, upi_n _ _ (by omega), upi_s, upi_s]
          exact ⟨rfl, rfl, rfl⟩
        · exact w3 u h1 (by omega)
      · obtain ⟨x1, x2, x3⟩ := w4 u (by omega)
        rw [x1, x2, x3]
        refine ⟨?_, ?_, ?_⟩ <;> rw [upi_n _ _ (by omega), upi_n _ _ (by omega), upi_n _ _ (by omega)]
section LOAD
variable {N : Nat} {rows cols : Int} {cr cb : BitVec 64} {cl kl : Int} {col : Int → Int} {next count : Int} {kr kc : Int → Int} {kcr kcb : Int → BitVec 64} {kcl kkl : Int → Int} {kcol : Int → Int → Int} {all jr jb : BitVec 64} {pc : Int} {cells near : Int → BitVec 64} {planned : Int} {scells : BitVec 64} {st sb sl sr : Int} {sw sln : Int → Int} {edits : Int} {now past : Int → Int}
theorem qu_loadDrawing (hN : 4000 ≤ N) (h : CORE N rows cols cr cb cl kl col next count kr kc kcr kcb kcl kkl kcol all jr jb pc cells near planned scells st sb sl sr sw sln edits now past) {len typed : Int} {ch tx : Int → Int} (hT : TX len ch typed tx) (rr rc t b l r p : Int) (rd queue pane size : Int → Int) :
    ∃ Rg Rm, f_gp_loadDrawing N len ch rows cols cr cb cl kl col next count kr kc kcr kcb kcl kkl kcol all jr jb pc cells near planned = some Rg ∧ f_mo_loadDrawing N edits typed rr rc t b l r p now past tx rd queue pane size = some Rm ∧ Rg.1 = Rm.1 ∧ TX Rg.2.1 ch Rm.2.2.1 tx ∧ CORE N Rg.2.2.1 Rg.2.2.2.1 Rg.2.2.2.2.1 Rg.2.2.2.2.2.1 cl kl Rg.2.2.2.2.2.2.1 Rg.2.2.2.2.2.2.2.1 Rg.2.2.2.2.2.2.2.2.1 Rg.2.2.2.2.2.2.2.2.2.1 Rg.2.2.2.2.2.2.2.2.2.2.1 Rg.2.2.2.2.2.2.2.2.2.2.2.1 Rg.2.2.2.2.2.2.2.2.2.2.2.2.1 Rg.2.2.2.2.2.2.2.2.2.2.2.2.2.1 Rg.2.2.2.2.2.2.2.2.2.2.2.2.2.2.1 Rg.2.2.2.2.2.2.2.2.2.2.2.2.2.2.2.1 Rg.2.2.2.2.2.2.2.2.2.2.2.2.2.2.2.2.1 Rg.2.2.2.2.2.2.2.2.2.2.2.2.2.2.2.2.2.1 Rg.2.2.2.2.2.2.2.2.2.2.2.2.2.2.2.2.2.2.1 Rg.2.2.2.2.2.2.2.2.2.2.2.2.2.2.2.2.2.2.2.1 Rg.2.2.2.2.2.2.2.2.2.2.2.2.2.2.2.2.2.2.2.2.1 Rg.2.2.2.2.2.2.2.2.2.2.2.2.2.2.2.2.2.2.2.2.2.1 Rg.2.2.2.2.2.2.2.2.2.2.2.2.2.2.2.2.2.2.2.2.2.2 scells st sb sl sr sw sln Rm.2.1 Rm.2.2.2.2.2.2.2.2.2.2.1 Rm.2.2.2.2.2.2.2.2.2.2.2.1 := by
  obtain ⟨hH, ⟨R, C, hd, hP⟩, hS⟩ := h
  have hT0 := hT
  obtain ⟨rfl, t1, t2, t3⟩ := hT0
  obtain ⟨L, rfl⟩ : ∃ L : Nat, len = L := ⟨len.toNat, by omega⟩
  obtain ⟨res, rows', cols', rd', a1, a2, a3⟩ := tx_lock (N := N) (L := L) (ch := ch) (tx := tx) (by omega) t3 rows N 0 0 0 0 rd col cols (by omega) (by omega) ⟨by omega, fun hh => by omega, fun _ => by omega, fun hh => by omega, fun r k hh => by omega⟩ (fun hh => by omega)
  have b1 : f_te_errorOffset N (L : Int) ch = some res := a1
  have b2 : f_mo_reads N (L : Int) rr rc tx rd = some (res, rows', cols', rd') := a2
  rcases a3 with ⟨rfl, col', c1, R', C', rfl, rfl, hb', hcol⟩ | hbad
  · have b3 : f_te_copyTo N (L : Int) ch rows cols col = some ((R' : Int), (C' : Int), col') := c1
    obtain ⟨-, -, -, -, -, -, -, -, -, ed, pa, -, sv, -⟩ := hi_save hN hH hd
    obtain ⟨now', w1, w2, w3, -⟩ := load_loop (N := N) (RR := R') (CC := C') hN (by omega) ed (L : Int) t b l r p pa rd' queue pane size N 0 (upi (upi now 0 (R' : Int)) 1 (C' : Int)) (by omega) (by omega)
    have hd0 := hd
    obtain ⟨-, -, -, -, -, h6, h7, h8, -⟩ := hd0
    have hd' : RD (R' : Int) (C' : Int) 0#64 0#64 cl kl col' now' R' C' := by
      have k0 : now' 0 = R' := by rw [w2 0 (by omega), upi_n _ _ (by omega), upi_s]
      have k1 : now' 1 = C' := by rw [w2 1 (by omega), upi_s]
      have k2 : now' 2 = now 2 := by rw [w2 2 (by omega), upi_n _ _ (by omega), upi_n _ _ (by omega)]
      have k3 : now' 3 = now 3 := by rw [w2 3 (by omega), upi_n _ _ (by omega), upi_n _ _ (by omega)]
      have k4 : ∀ u : Nat, u < 49 → 0 ≤ now' ((4 + u : Nat) : Int) ∧ now' ((4 + u : Nat) : Int) ≤ 5 := by
        intro u hu
        rw [(w3 u hu (by omega)).1]
        by_cases cc : u / 7 < R' ∧ u % 7 < C'
        · rw [if_pos cc]
          have := hcol (u / 7) (u % 7) cc.1 cc.2
          rw [show 7 * (u / 7) + u % 7 = u by omega] at this
          exact this.2
        · rw [if_neg cc]; omega
      refine ⟨rfl, rfl, k0, k1, hb', by rw [k2]; exact h6, by rw [k3]; exact h7, ?_, ?_, ?_, ?_, ?_, ?_⟩
      · intro j j1 j2
        by_cases d1 : j < 4
        · have hj : j = 0 ∨ j = 1 ∨ j = 2 ∨ j = 3 := by omega
          rcases hj with rfl | rfl | rfl | rfl
          · omega
          · omega
          · rw [k2]; exact h8 2 (by omega) (by omega)
          · rw [k3]; exact h8 3 (by omega) (by omega)
        · by_cases d2 : j < 53
          · have := k4 (j - 4).toNat (by omega)
            rw [show ((4 + (j - 4).toNat : Nat) : Int) = j by omega] at this
            omega
          · by_cases d3 : j < 102
            · have := (w3 (j - 53).toNat (by omega) (by omega)).2.1
              rw [show ((53 + (j - 53).toNat : Nat) : Int) = j by omega] at this
              omega
            · have := (w3 (j - 102).toNat (by omega) (by omega)).2.2
              rw [show ((102 + (j - 102).toNat : Nat) : Int) = j by omega] at this
              omega
      · intro r c hr hc
        obtain ⟨x1, x2, x3⟩ := hcol r c hr hc
        have := (w3 (7 * r + c) (by omega) (by omega)).1
        rw [if_pos (by omega), ← Nat.add_assoc] at this
        rw [this]
        exact ⟨x1, x2, x3⟩
      · intro i
        rw [gl_zero]
        refine ⟨fun hq => (by cases hq), fun ⟨y1, y2, y3⟩ => ?_⟩
        have := (w3 (7 * (i / 8) + i % 8) (by omega) (by omega)).2.1
        rw [← Nat.add_assoc] at this
        omega
      · intro i
        rw [gl_zero]
        refine ⟨fun hq => (by cases hq), fun ⟨y1, y2, y3⟩ => ?_⟩
        have := (w3 (7 * (i / 8) + i % 8) (by omega) (by omega)).2.2
        rw [← Nat.add_assoc] at this
        omega
      · intro u hu
        exact Or.inl (w3 u hu (by omega)).2.1
      · intro u hu
        exact Or.inl (w3 u hu (by omega)).2.2
    obtain ⟨next', count', kr', kc', kcr', kcb', kcl', kkl', kcol', edits', past', all', jr', jb', pc', cells', near', s1, s2, s3, s4, s5⟩ := core_edit hN hH hd hd' all jr jb pc cells near planned
    have g1 : f_gp_loadDrawing N (L : Int) ch rows cols cr cb cl kl col next count kr kc kcr kcb kcl kkl kcol all jr jb pc cells near planned = some (pc', 0, (R' : Int), (C' : Int), 0#64, 0#64, col', next', count', kr', kc', kcr', kcb', kcl', kkl', kcol', all', jr', jb', pc', cells', near', -1) := by
      unfold f_gp_loadDrawing
      rw [b1, bd_some, og_pos (by decide), if_pos rfl, s1, bd_some, b3, bd_some, s3, bd_some]
    obtain ⟨cnt, q', p', z', e1, e2, e3⟩ := po_mo hN s4 t b l r p queue pane size
    have g2 : f_mo_loadDrawing N edits (L : Int) rr rc t b l r p now past tx rd queue pane size = some (pc', edits', 0, (R' : Int), (C' : Int), 0, (R' : Int) - 1, 0, (C' : Int) - 1, pc', now', past', rd', q', p', z') := by
      unfold f_mo_loadDrawing
      rw [b2, bd_some, og_pos (show xR (-1 : Int) by decide), if_pos rfl, sv, bd_some, bd_some, bd_some]
      rw [sv] at s2
      have := Option.some.inj s2
      have x1 : ed = edits' := congrArg Prod.fst this
      have x2 : pa = past' := congrArg Prod.snd this
      rw [← x1, ← x2]
      refine w1.trans ?_
      rw [e2, bd_some, e1]
    exact ⟨_, _, g1, g2, rfl, ⟨rfl, Int.le_refl _, (by show (0 : Int) ≤ 80; decide), fun i i1 i2 => by have i2' : i < 0 := i2; omega⟩, s5 _ _ _ _ _ _ _⟩
  · have g1 : f_gp_loadDrawing N (L : Int) ch rows cols cr cb cl kl col next count kr kc kcr kcb kcl kkl kcol all jr jb pc cells near planned = some (-10 - res, (L : Int), rows, cols, cr, cb, col, next, count, kr, kc, kcr, kcb, kcl, kkl, kcol, all, jr, jb, pc, cells, near, planned) := by
      unfold f_gp_loadDrawing
      rw [b1, bd_some, og_pos (by omega), if_neg (by omega)]
    have g2 : f_mo_loadDrawing N edits (L : Int) rr rc t b l r p now past tx rd queue pane size = some (-10 - res, edits, (L : Int), rows', cols', t, b, l, r, p, now, past, rd', queue, pane, size) := by
      unfold f_mo_loadDrawing
      rw [b2, bd_some]
      show (og (xR res) <| if res = -1 then _ else _) = _
      rw [og_pos (by omega), if_neg (by omega)]
    exact ⟨_, _, g1, g2, rfl, hT, hH, ⟨R, C, hd, hP⟩, hS⟩
end LOAD
