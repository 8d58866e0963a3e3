/-! ===== calls behind which cells have been made ===== -/
def sel (l : List Nat) : Nat → Nat := fun n => l.getD n 0
section GCALLS
variable {p : Program} {l : Launch} {e : Env} {R : Room} {s : State} {m : MethodId} {args : Array Value} {below : List Frame} {meth : Method} {c : Code} {H : Heap} {locs : List Loc} {Q : State → Prop} {cells slots : Nat}
variable {cc : ByteArray} {nL : Nat} {own : String} {w0 : Cond} {D : va_G} {tys : List (ClassId × FieldType)} {pc : Nat} {ls : Array Slot} {rest st : List Value} {A : Nat → Prop} {H0 : Heap} {ws ws' wc wc' : va_W}
variable {y : MethodName} {bytes : ByteArray} {maxL n idx : Nat} {ret : Option FieldType} {rm : Room} {As : List Value} {b : Nat}
theorem g_callVi (C : XC p s m args c cc nL own w0 D tys) (h : XH D A H0 ws H locs) {lw : List (Nat × Value)} (hl : lv_has ls nL lw) {r : Int} (hM : CoI l D tys y bytes maxL ret rm (.ref b :: As) wc r wc') (hy : XV y bytes maxL ret n) (hlk : Cond.methodLink own idx y ∈ TT) (hR : rm.frames + 1 ≤ R.frames ∧ 8 + (maxL + 11) + rm.locals ≤ R.locals) (hcs : cells ≤ R.cells ∧ slots ≤ R.slots) (hn : As.length = n)
    (isC isR : List Nat) {nw : Nat} {wr : va_W} {as : List Nat} (hC : isC.map (fun i => ws[i]?) = wc.map some) (hnd : va_nd isC = true) (hB : isC.map (fun i => ws'[i]?) = wc'.map some) (ha1 : ws'.map Prod.fst = as) (ha2 : ws.map Prod.fst = as) (hR1 : isR.map (fun i => ws'[i]?) = wr.map some) (hR2 : isR.map (fun i => ws[i]?) = wr.map some) (hnw : ws.length = nw) (hcov : (List.range nw).all (fun k => isC.contains k || isR.contains k) = true) (qb : Nat) {ci : Nat} {fs : List Value} {q : vw_C} (he : ws[qb]? = some (b, .inr (ci, fs))) (hq : vwCl[ci]? = some q) (hqc : q.1 = y.cls) (hst : st = As.reverse ++ .ref b :: rest) (hW : (rest.map fun v => v.category).sum ≤ 8) (hd : decode cc pc = .ok (.invokevirtual idx, 3))
    (kk : ∀ (H1 : Heap) (locs1 : List Loc), XH D A H0 ws' H1 locs1 → W p l e R s m args below meth c H1 locs1 cells slots Q (F0 m (pc + 3) ls (iv r :: rest))) : W p l e R s m args below meth c H locs cells slots Q (F0 m pc ls st) := by
  subst hst
  obtain ⟨hc1, hc2, hM⟩ := hM
  obtain ⟨hPc, hDc, hFc⟩ := h.cut isC hC hnd
  have hrv := va_recv C.2 h.1 hq he
  rw [hqc] at hrv
  refine va_calli (va_runV C.1 (hM H.size) (x_cw C.1.2.2.2.2 hy hlk ⟨hc1, hc2⟩ hR) ⟨x_blind _ _ _ _ _, hrv, fun U hU hW => ⟨rfl, by rw [hU], by rw [hU]; exact hPc, va_K.moved hW.alike C.2, hDc⟩⟩ rfl hn hl.1 rfl (lv_room hW) hd hcs) h.2.2.1 (fun q _ h => hFc q h) hFc (fun r1 u t H1 locs1 ht hvm hw hB1 hz1 hk1 hS1 => ?_)
  obtain ⟨hP1, -⟩ := hB1
  rw [ht] at hP1
  subst hw
  exact kk H1 locs1 (h.after hC hB ha1 ha2 hR1 hR2 hnw hcov hk1 hP1 hS1)
theorem g_callVv (C : XC p s m args c cc nL own w0 D tys) (h : XH D A H0 ws H locs) {lw : List (Nat × Value)} (hl : lv_has ls nL lw) (hM : CoV l D tys y bytes maxL ret rm (.ref b :: As) wc wc') (hy : XV y bytes maxL ret n) (hlk : Cond.methodLink own idx y ∈ TT) (hR : rm.frames + 1 ≤ R.frames ∧ 8 + (maxL + 11) + rm.locals ≤ R.locals) (hcs : cells ≤ R.cells ∧ slots ≤ R.slots) (hn : As.length = n)
    (isC isR : List Nat) {nw : Nat} {wr : va_W} {as : List Nat} (hC : isC.map (fun i => ws[i]?) = wc.map some) (hnd : va_nd isC = true) (hB : isC.map (fun i => ws'[i]?) = wc'.map some) (ha1 : ws'.map Prod.fst = as) (ha2 : ws.map Prod.fst = as) (hR1 : isR.map (fun i => ws'[i]?) = wr.map some) (hR2 : isR.map (fun i => ws[i]?) = wr.map some) (hnw : ws.length = nw) (hcov : (List.range nw).all (fun k => isC.contains k || isR.contains k) = true) (qb : Nat) {ci : Nat} {fs : List Value} {q : vw_C} (he : ws[qb]? = some (b, .inr (ci, fs))) (hq : vwCl[ci]? = some q) (hqc : q.1 = y.cls) (hst : st = As.reverse ++ .ref b :: rest) (hW : (rest.map fun v => v.category).sum ≤ 8) (hd : decode cc pc = .ok (.invokevirtual idx, 3))
    (kk : ∀ (H1 : Heap) (locs1 : List Loc), XH D A H0 ws' H1 locs1 → W p l e R s m args below meth c H1 locs1 cells slots Q (F0 m (pc + 3) ls rest)) : W p l e R s m args below meth c H locs cells slots Q (F0 m pc ls st) := by
  subst hst
  obtain ⟨hc1, hc2, hM⟩ := hM
  obtain ⟨hPc, hDc, hFc⟩ := h.cut isC hC hnd
  have hrv := va_recv C.2 h.1 hq he
  rw [hqc] at hrv
  refine va_callv (va_runV C.1 (hM H.size) (x_cw C.1.2.2.2.2 hy hlk ⟨hc1, hc2⟩ hR) ⟨x_blind _ _ _ _ _, hrv, fun U hU hW => ⟨rfl, by rw [hU], by rw [hU]; exact hPc, va_K.moved hW.alike C.2, hDc⟩⟩ rfl hn hl.1 rfl (lv_room hW) hd hcs) h.2.2.1 (fun q _ h => hFc q h) hFc (fun u t H1 locs1 ht hvm hw hB1 hz1 hk1 hS1 => ?_)
  obtain ⟨hP1, -⟩ := hB1
  rw [ht] at hP1
  exact kk H1 locs1 (h.after hC hB ha1 ha2 hR1 hR2 hnw hcov hk1 hP1 hS1)
end GCALLS
theorem aK_eq {cO : ClassId} {b u : Nat → Nat} (h : ∀ j, j < 8 → u (16 + j) = b (16 + j)) : aK cO u = aK cO b := by
  have : (fun j : Nat => if j < 8 then some (u (16 + j)) else none) = fun j : Nat => if j < 8 then some (b (16 + j)) else none := by
    funext j
    by_cases hj : j < 8
    · rw [if_pos hj, if_pos hj, h j hj]
    · rw [if_neg hj, if_neg hj]
  show (Sum.inl (cO, 8, .inr (.inr (.inr (.inr (fun j : Nat => if j < 8 then some (u (16 + j)) else none))))) : va_E) = _
  rw [this]
