/-! ===== contracts out of walks; calls ===== -/
theorem co_i {l : Launch} {D : va_G} {tys : List (ClassId × FieldType)} {y : MethodName} {bytes : ByteArray} {maxL : Nat} {rm : Room} {As : List Value} {wc : va_W} {r : Int} {wc' : va_W} (hy : plainName y.cls = true) (hrc : rm.cells = 0 ∧ rm.slots = 0) (hn : (lg_sl As).length ≤ maxL)
    (body : ∀ (p : Program) (e : Env) (s : State) (m : MethodId) (args : Array Value) (below : List Frame) (meth : Method) (c : Code) (A : Nat → Prop) (Q : State → Prop) (ls : Array Slot), XC p s m args c bytes maxL y.cls (.code y bytes maxL (some .int)) D tys → XRI p l e rm s m args below meth c bytes D A s.heap Q r wc' → lv_has ls maxL (lv_args 0 As) → XH D A s.heap wc s.heap [] → W p l e rm s m args below meth c s.heap [] 0 0 Q (F0 m 0 ls [])) :
    CoI l D tys y bytes maxL (some .int) rm As wc r wc' := by
  refine ⟨hrc.1, hrc.2, fun sz => Met.ofW (cc := bytes) (maxL := maxL) (ret := some .int) hy rfl ?_⟩
  intro p e s m args below meth c s₁ B hml hv
  obtain ⟨rfl, hsz, hP, hK, hD0⟩ := hv
  have hts := atoms_spec (ws := Cond.code y bytes maxL (some .int) :: TT) B.pre
  have hown : s.vm.findClass y.cls = some m.cls := findClass_of_methodNamed B.named
  subst hsz
  have hD := hD0.self (sz := s.heap.size)
  rw [lg_entry_eq]
  refine body p e s m _ below meth c (va_A wc s.heap.size) _ _ ⟨⟨B.exec, B.bytes, hml, hown, hts⟩, hK⟩ (fun pc ls H locs hd h => ?_) (lv_entry As hn) ⟨hP, hD, va_S.rf, fun q h => Or.inr h⟩
  exact W.iret B.exec B.bytes B.returns (fun t ht hW => ⟨⟨_, (), rfl, rfl, by rw [ht]; exact h.1, va_K.moved hW.alike hK⟩, h.2.2.1.F ht⟩) h.2.2.1.2.2 hd B.notSynchronized
theorem co_z {l : Launch} {D : va_G} {tys : List (ClassId × FieldType)} {y : MethodName} {bytes : ByteArray} {maxL : Nat} {rm : Room} {As : List Value} {wc : va_W} {r : Int} {wc' : va_W} (hy : plainName y.cls = true) (hrc : rm.cells = 0 ∧ rm.slots = 0) (hn : (lg_sl As).length ≤ maxL)
    (body : ∀ (p : Program) (e : Env) (s : State) (m : MethodId) (args : Array Value) (below : List Frame) (meth : Method) (c : Code) (A : Nat → Prop) (Q : State → Prop) (ls : Array Slot), XC p s m args c bytes maxL y.cls (.code y bytes maxL (some .boolean)) D tys → XRZ p l e rm s m args below meth c bytes D A s.heap Q r wc' → lv_has ls maxL (lv_args 0 As) → XH D A s.heap wc s.heap [] → W p l e rm s m args below meth c s.heap [] 0 0 Q (F0 m 0 ls [])) :
    CoI l D tys y bytes maxL (some .boolean) rm As wc r wc' := by
  refine ⟨hrc.1, hrc.2, fun sz => Met.ofW (cc := bytes) (maxL := maxL) (ret := some .boolean) hy rfl ?_⟩
  intro p e s m args below meth c s₁ B hml hv
  obtain ⟨rfl, hsz, hP, hK, hD0⟩ := hv
  have hts := atoms_spec (ws := Cond.code y bytes maxL (some .boolean) :: TT) B.pre
  have hown : s.vm.findClass y.cls = some m.cls := findClass_of_methodNamed B.named
  subst hsz
  have hD := hD0.self (sz := s.heap.size)
  rw [lg_entry_eq]
  refine body p e s m _ below meth c (va_A wc s.heap.size) _ _ ⟨⟨B.exec, B.bytes, hml, hown, hts⟩, hK⟩ (fun pc ls H locs hz hd h => ?_) (lv_entry As hn) ⟨hP, hD, va_S.rf, fun q h => Or.inr h⟩
  have hz2 : narrow .boolean (.int (Int32.ofInt r)) = .int (Int32.ofInt r) := by rcases hz with hz | hz <;> rw [hz] <;> decide
  exact W.zret B.exec B.bytes B.returns hz2 (fun t ht hW => ⟨⟨_, (), rfl, rfl, by rw [ht]; exact h.1, va_K.moved hW.alike hK⟩, h.2.2.1.F ht⟩) h.2.2.1.2.2 hd B.notSynchronized
theorem co_l {l : Launch} {D : va_G} {tys : List (ClassId × FieldType)} {y : MethodName} {bytes : ByteArray} {maxL : Nat} {rm : Room} {As : List Value} {wc : va_W} {r : BitVec 64} {wc' : va_W} (hy : plainName y.cls = true) (hrc : rm.cells = 0 ∧ rm.slots = 0) (hn : (lg_sl As).length ≤ maxL)
    (body : ∀ (p : Program) (e : Env) (s : State) (m : MethodId) (args : Array Value) (below : List Frame) (meth : Method) (c : Code) (A : Nat → Prop) (Q : State → Prop) (ls : Array Slot), XC p s m args c bytes maxL y.cls (.code y bytes maxL (some .long)) D tys → XRL p l e rm s m args below meth c bytes D A s.heap Q r wc' → lv_has ls maxL (lv_args 0 As) → XH D A s.heap wc s.heap [] → W p l e rm s m args below meth c s.heap [] 0 0 Q (F0 m 0 ls [])) :
    CoL l D tys y bytes maxL (some .long) rm As wc r wc' := by
  refine ⟨hrc.1, hrc.2, fun sz => Met.ofW (cc := bytes) (maxL := maxL) (ret := some .long) hy rfl ?_⟩
  intro p e s m args below meth c s₁ B hml hv
  obtain ⟨rfl, hsz, hP, hK, hD0⟩ := hv
  have hts := atoms_spec (ws := Cond.code y bytes maxL (some .long) :: TT) B.pre
  have hown : s.vm.findClass y.cls = some m.cls := findClass_of_methodNamed B.named
  subst hsz
  have hD := hD0.self (sz := s.heap.size)
  rw [lg_entry_eq]
  refine body p e s m _ below meth c (va_A wc s.heap.size) _ _ ⟨⟨B.exec, B.bytes, hml, hown, hts⟩, hK⟩ (fun pc ls H locs hd h => ?_) (lv_entry As hn) ⟨hP, hD, va_S.rf, fun q h => Or.inr h⟩
  exact W.lret B.exec B.bytes B.returns (fun t ht hW => ⟨⟨_, (), rfl, rfl, by rw [ht]; exact h.1, va_K.moved hW.alike hK⟩, h.2.2.1.F ht⟩) h.2.2.1.2.2 hd B.notSynchronized
theorem co_v {l : Launch} {D : va_G} {tys : List (ClassId × FieldType)} {y : MethodName} {bytes : ByteArray} {maxL : Nat} {rm : Room} {As : List Value} {wc : va_W} {wc' : va_W} (hy : plainName y.cls = true) (hrc : rm.cells = 0 ∧ rm.slots = 0) (hn : (lg_sl As).length ≤ maxL)
    (body : ∀ (p : Program) (e : Env) (s : State) (m : MethodId) (args : Array Value) (below : List Frame) (meth : Method) (c : Code) (A : Nat → Prop) (Q : State → Prop) (ls : Array Slot), XC p s m args c bytes maxL y.cls (.code y bytes maxL none) D tys → XRV p l e rm s m args below meth c bytes D A s.heap Q wc' → lv_has ls maxL (lv_args 0 As) → XH D A s.heap wc s.heap [] → W p l e rm s m args below meth c s.heap [] 0 0 Q (F0 m 0 ls [])) :
    CoV l D tys y bytes maxL none rm As wc wc' := by
  refine ⟨hrc.1, hrc.2, fun sz => Met.ofW (cc := bytes) (maxL := maxL) (ret := none) hy rfl ?_⟩
  intro p e s m args below meth c s₁ B hml hv
  obtain ⟨rfl, hsz, hP, hK, hD0⟩ := hv
  have hts := atoms_spec (ws := Cond.code y bytes maxL none :: TT) B.pre
  have hown : s.vm.findClass y.cls = some m.cls := findClass_of_methodNamed B.named
  subst hsz
  have hD := hD0.self (sz := s.heap.size)
  rw [lg_entry_eq]
  refine body p e s m _ below meth c (va_A wc s.heap.size) _ _ ⟨⟨B.exec, B.bytes, hml, hown, hts⟩, hK⟩ (fun pc ls H locs hd h => ?_) (lv_entry As hn) ⟨hP, hD, va_S.rf, fun q h => Or.inr h⟩
  exact W.vret B.exec B.bytes B.returns (fun t ht hW => ⟨⟨(), rfl, trivial, by rw [ht]; exact h.1, va_K.moved hW.alike hK⟩, h.2.2.1.F ht⟩) h.2.2.1.2.2 hd B.notSynchronized
section XCALLS
variable {p : Program} {l : Launch} {e : Env} {R : Room} {s : State} {m : MethodId} {args : Array Value} {below : List Frame} {meth : Method} {c : Code} {H : Heap} {locs : List Loc} {Q : State → Prop}
variable {cc : ByteArray} {nL : Nat} {own : String} {w0 : Cond} {D : va_G} {tys : List (ClassId × FieldType)} {pc : Nat} {ls : Array Slot} {rest st : List Value} {A : Nat → Prop} {H0 : Heap} {ws ws' wc wc' : va_W}
variable {y : MethodName} {bytes : ByteArray} {maxL n idx : Nat} {ret : Option FieldType} {rm : Room} {As : List Value} {b : Nat}
theorem x_gd (w0 : Cond) {cw : Cond} (h : cw ∈ TT) : GoodIn (w0 :: TT) (cw :: TT) := fun w hw => by
  have h1 : w ∈ TT := (List.mem_cons.mp hw).elim (fun e => e ▸ h) id
  exact ⟨List.mem_cons_of_mem _ h1, tt_gd h1⟩
theorem x_cw (hts : ∀ w ∈ w0 :: TT, w.before args s = true) (hy : XV y bytes maxL ret n) (hlk : Cond.methodLink own idx y ∈ TT) (hrm : rm.cells = 0 ∧ rm.slots = 0) (hR : rm.frames + 1 ≤ R.frames ∧ 8 + (maxL + 11) + rm.locals ≤ R.locals) : CallW R s args own y.cls idx y bytes maxL ret (.code y bytes maxL ret :: TT) rm 0 0 n :=
  ⟨callB_of n hts (x_gd w0 hy.2.2.2.1) rfl hrm.1 hrm.2 (hts _ (List.mem_cons_of_mem _ hy.2.2.1)) (hts _ (List.mem_cons_of_mem _ hlk)) hy.2.2.2.2 hR, hts _ (List.mem_cons_of_mem _ hy.1), hts _ (List.mem_cons_of_mem _ hy.2.1)⟩
theorem x_cs (hts : ∀ w ∈ w0 :: TT, w.before args s = true) (hy : XS y bytes maxL ret n) (hlk : Cond.methodLink own idx y ∈ TT) (hrm : rm.cells = 0 ∧ rm.slots = 0) (hR : rm.frames + 1 ≤ R.frames ∧ 8 + (maxL + 11) + rm.locals ≤ R.locals) : CallB R s args own idx y bytes maxL ret (.code y bytes maxL ret :: TT) rm 0 0 n ∧ (Cond.static y).before args s = true :=
  ⟨callB_of n hts (x_gd w0 hy.2.2.1) rfl hrm.1 hrm.2 (hts _ (List.mem_cons_of_mem _ hy.2.1)) (hts _ (List.mem_cons_of_mem _ hlk)) hy.2.2.2 hR, hts _ (List.mem_cons_of_mem _ hy.1)⟩
theorem x_blind (D : va_G) (tys : List (ClassId × FieldType)) (As : List Value) (wc : va_W) (sz : Nat) : FrameBlind (xPc D tys As wc sz) := fun a U g mk q => by
  obtain ⟨q0, q1, qP, qK, qD⟩ := q
  exact ⟨q0, q1, qP, va_K.moved (u := U) (U := U.calling g mk a) (Vm.Alike.refl U.vm) qK, qD⟩
theorem x_callVi (C : XC p s m args c cc nL own w0 D tys) (h : XH D A H0 ws H locs) {lw : List (Nat × Value)} (hl : lv_has ls nL lw) {r : Int} (hM : CoI l D tys y bytes maxL ret rm (.ref b :: As) wc r wc') (hy : XV y bytes maxL ret n) (hlk : Cond.methodLink own idx y ∈ TT) (hR : rm.frames + 1 ≤ R.frames ∧ 8 + (maxL + 11) + rm.locals ≤ R.locals) (hn : As.length = n)
    (isC isR : List Nat) {nw : Nat} {wr : va_W} {as : List Nat} (hC : isC.map (fun i => ws[i]?) = wc.map some) (hnd : va_nd isC = true) (hB : isC.map (fun i => ws'[i]?) = wc'.map some) (ha1 : ws'.map Prod.fst = as) (ha2 : ws.map Prod.fst = as) (hR1 : isR.map (fun i => ws'[i]?) = wr.map some) (hR2 : isR.map (fun i => ws[i]?) = wr.map some) (hnw : ws.length = nw) (hcov : (List.range nw).all (fun k => isC.contains k || isR.contains k) = true) (qb : Nat) {ci : Nat} {fs : List Value} {q : vw_C} (he : ws[qb]? = some (b, .inr (ci, fs))) (hq : vwCl[ci]? = some q) (hqc : q.1 = y.cls) (hst : st = As.reverse ++ .ref b :: rest) (hW : (rest.map fun v => v.category).sum ≤ 8) (hd : decode cc pc = .ok (.invokevirtual idx, 3))
    (kk : ∀ (H1 : Heap) (locs1 : List Loc), XH D A H0 ws' H1 locs1 → W p l e R s m args below meth c H1 locs1 0 0 Q (F0 m (pc + 3) ls (iv r :: rest))) : W p l e R s m args below meth c H locs 0 0 Q (F0 m pc ls st) := by
  subst hst
  obtain ⟨hc1, hc2, hM⟩ := hM
  obtain ⟨hPc, hDc, hFc⟩ := h.cut isC hC hnd
  have hrv := va_recv C.2 h.1 hq he
  rw [hqc] at hrv
  refine va_calli (va_runV C.1 (hM H.size) (x_cw C.1.2.2.2.2 hy hlk ⟨hc1, hc2⟩ hR) ⟨x_blind _ _ _ _ _, hrv, fun U hU hW => ⟨rfl, by rw [hU], by rw [hU]; exact hPc, va_K.moved hW.alike C.2, hDc⟩⟩ rfl hn hl.1 rfl (lv_room hW) hd ⟨Nat.zero_le _, Nat.zero_le _⟩) h.2.2.1 (fun q _ h => hFc q h) hFc (fun r1 u t H1 locs1 ht hvm hw hB hz1 hk1 hS1 => ?_)
  obtain ⟨hP1, -⟩ := hB
  rw [ht] at hP1
  subst hw
  exact kk H1 locs1 (h.after hC hB ha1 ha2 hR1 hR2 hnw hcov hk1 hP1 hS1)
theorem x_callVl (C : XC p s m args c cc nL own w0 D tys) (h : XH D A H0 ws H locs) {lw : List (Nat × Value)} (hl : lv_has ls nL lw) {r : BitVec 64} (hM : CoL l D tys y bytes maxL ret rm (.ref b :: As) wc r wc') (hy : XV y bytes maxL ret n) (hlk : Cond.methodLink own idx y ∈ TT) (hR : rm.frames + 1 ≤ R.frames ∧ 8 + (maxL + 11) + rm.locals ≤ R.locals) (hn : As.length = n)
    (isC isR : List Nat) {nw : Nat} {wr : va_W} {as : List Nat} (hC : isC.map (fun i => ws[i]?) = wc.map some) (hnd : va_nd isC = true) (hB : isC.map (fun i => ws'[i]?) = wc'.map some) (ha1 : ws'.map Prod.fst = as) (ha2 : ws.map Prod.fst = as) (hR1 : isR.map (fun i => ws'[i]?) = wr.map some) (hR2 : isR.map (fun i => ws[i]?) = wr.map some) (hnw : ws.length = nw) (hcov : (List.range nw).all (fun k => isC.contains k || isR.contains k) = true) (qb : Nat) {ci : Nat} {fs : List Value} {q : vw_C} (he : ws[qb]? = some (b, .inr (ci, fs))) (hq : vwCl[ci]? = some q) (hqc : q.1 = y.cls) (hst : st = As.reverse ++ .ref b :: rest) (hW : (rest.map fun v => v.category).sum ≤ 8) (hd : decode cc pc = .ok (.invokevirtual idx, 3))
    (kk : ∀ (H1 : Heap) (locs1 : List Loc), XH D A H0 ws' H1 locs1 → W p l e R s m args below meth c H1 locs1 0 0 Q (F0 m (pc + 3) ls (lv r :: rest))) : W p l e R s m args below meth c H locs 0 0 Q (F0 m pc ls st) := by
  subst hst
  obtain ⟨hc1, hc2, hM⟩ := hM
  obtain ⟨hPc, hDc, hFc⟩ := h.cut isC hC hnd
  have hrv := va_recv C.2 h.1 hq he
  rw [hqc] at hrv
  refine va_calll (va_runV C.1 (hM H.size) (x_cw C.1.2.2.2.2 hy hlk ⟨hc1, hc2⟩ hR) ⟨x_blind _ _ _ _ _, hrv, fun U hU hW => ⟨rfl, by rw [hU], by rw [hU]; exact hPc, va_K.moved hW.alike C.2, hDc⟩⟩ rfl hn hl.1 rfl (lv_room hW) hd ⟨Nat.zero_le _, Nat.zero_le _⟩) h.2.2.1 (fun q _ h => hFc q h) hFc (fun r1 u t H1 locs1 ht hvm hw hB hz1 hk1 hS1 => ?_)
  obtain ⟨hP1, -⟩ := hB
  rw [ht] at hP1
  subst hw
  exact kk H1 locs1 (h.after hC hB ha1 ha2 hR1 hR2 hnw hcov hk1 hP1 hS1)
theorem x_callVv (C : XC p s m args c cc nL own w0 D tys) (h : XH D A H0 ws H locs) {lw : List (Nat × Value)} (hl : lv_has ls nL lw) (hM : CoV l D tys y bytes maxL ret rm (.ref b :: As) wc wc') (hy : XV y bytes maxL ret n) (hlk : Cond.methodLink own idx y ∈ TT) (hR : rm.frames + 1 ≤ R.frames ∧ 8 + (maxL + 11) + rm.locals ≤ R.locals) (hn : As.length = n)
    (isC isR : List Nat) {nw : Nat} {wr : va_W} {as : List Nat} (hC : isC.map (fun i => ws[i]?) = wc.map some) (hnd : va_nd isC = true) (hB : isC.map (fun i => ws'[i]?) = wc'.map some) (ha1 : ws'.map Prod.fst = as) (ha2 : ws.map Prod.fst = as) (hR1 : isR.map (fun i => ws'[i]?) = wr.map some) (hR2 : isR.map (fun i => ws[i]?) = wr.map some) (hnw : ws.length = nw) (hcov : (List.range nw).all (fun k => isC.contains k || isR.contains k) = true) (qb : Nat) {ci : Nat} {fs : List Value} {q : vw_C} (he : ws[qb]? = some (b, .inr (ci, fs))) (hq : vwCl[ci]? = some q) (hqc : q.1 = y.cls) (hst : st = As.reverse ++ .ref b :: rest) (hW : (rest.map fun v => v.category).sum ≤ 8) (hd : decode cc pc = .ok (.invokevirtual idx, 3))
    (kk : ∀ (H1 : Heap) (locs1 : List Loc), XH D A H0 ws' H1 locs1 → W p l e R s m args below meth c H1 locs1 0 0 Q (F0 m (pc + 3) ls rest)) : W p l e R s m args below meth c H locs 0 0 Q (F0 m pc ls st) := by
  subst hst
  obtain ⟨hc1, hc2, hM⟩ := hM
  obtain ⟨hPc, hDc, hFc⟩ := h.cut isC hC hnd
  have hrv := va_recv C.2 h.1 hq he
  rw [hqc] at hrv
  refine va_callv (va_runV C.1 (hM H.size) (x_cw C.1.2.2.2.2 hy hlk ⟨hc1, hc2⟩ hR) ⟨x_blind _ _ _ _ _, hrv, fun U hU hW => ⟨rfl, by rw [hU], by rw [hU]; exact hPc, va_K.moved hW.alike C.2, hDc⟩⟩ rfl hn hl.1 rfl (lv_room hW) hd ⟨Nat.zero_le _, Nat.zero_le _⟩) h.2.2.1 (fun q _ h => hFc q h) hFc (fun u t H1 locs1 ht hvm hw hB hz1 hk1 hS1 => ?_)
  obtain ⟨hP1, -⟩ := hB
  rw [ht] at hP1
  exact kk H1 locs1 (h.after hC hB ha1 ha2 hR1 hR2 hnw hcov hk1 hP1 hS1)
theorem x_callSi (C : XC p s m args c cc nL own w0 D tys) (h : XH D A H0 ws H locs) {lw : List (Nat × Value)} (hl : lv_has ls nL lw) {r : Int} (hM : CoI l D tys y bytes maxL ret rm As wc r wc') (hy : XS y bytes maxL ret n) (hlk : Cond.methodLink own idx y ∈ TT) (hR : rm.frames + 1 ≤ R.frames ∧ 8 + (maxL + 11) + rm.locals ≤ R.locals) (hn : As.length = n)
    (isC isR : List Nat) {nw : Nat} {wr : va_W} {as : List Nat} (hC : isC.map (fun i => ws[i]?) = wc.map some) (hnd : va_nd isC = true) (hB : isC.map (fun i => ws'[i]?) = wc'.map some) (ha1 : ws'.map Prod.fst = as) (ha2 : ws.map Prod.fst = as) (hR1 : isR.map (fun i => ws'[i]?) = wr.map some) (hR2 : isR.map (fun i => ws[i]?) = wr.map some) (hnw : ws.length = nw) (hcov : (List.range nw).all (fun k => isC.contains k || isR.contains k) = true) (hst : st = As.reverse ++ rest) (hW : (rest.map fun v => v.category).sum ≤ 8) (hd : decode cc pc = .ok (.invokestatic idx, 3))
    (kk : ∀ (H1 : Heap) (locs1 : List Loc), XH D A H0 ws' H1 locs1 → W p l e R s m args below meth c H1 locs1 0 0 Q (F0 m (pc + 3) ls (iv r :: rest))) : W p l e R s m args below meth c H locs 0 0 Q (F0 m pc ls st) := by
  subst hst
  obtain ⟨hc1, hc2, hM⟩ := hM
  obtain ⟨hPc, hDc, hFc⟩ := h.cut isC hC hnd
  refine va_calli (va_runS C.1 (hM H.size) (x_cs C.1.2.2.2.2 hy hlk ⟨hc1, hc2⟩ hR) ⟨x_blind _ _ _ _ _, fun U hU hW => ⟨rfl, by rw [hU], by rw [hU]; exact hPc, va_K.moved hW.alike C.2, hDc⟩⟩ rfl hn hl.1 rfl (lv_room hW) hd ⟨Nat.zero_le _, Nat.zero_le _⟩) h.2.2.1 (fun q _ h => hFc q h) hFc (fun r1 u t H1 locs1 ht hvm hw hB hz1 hk1 hS1 => ?_)
  obtain ⟨hP1, -⟩ := hB
  rw [ht] at hP1
  subst hw
  exact kk H1 locs1 (h.after hC hB ha1 ha2 hR1 hR2 hnw hcov hk1 hP1 hS1)
theorem x_callSl (C : XC p s m args c cc nL own w0 D tys) (h : XH D A H0 ws H locs) {lw : List (Nat × Value)} (hl : lv_has ls nL lw) {r : BitVec 64} (hM : CoL l D tys y bytes maxL ret rm As wc r wc') (hy : XS y bytes maxL ret n) (hlk : Cond.methodLink own idx y ∈ TT) (hR : rm.frames + 1 ≤ R.frames ∧ 8 + (maxL + 11) + rm.locals ≤ R.locals) (hn : As.length = n)
    (isC isR : List Nat) {nw : Nat} {wr : va_W} {as : List Nat} (hC : isC.map (fun i => ws[i]?) = wc.map some) (hnd : va_nd isC = true) (hB : isC.map (fun i => ws'[i]?) = wc'.map some) (ha1 : ws'.map Prod.fst = as) (ha2 : ws.map Prod.fst = as) (hR1 : isR.map (fun i => ws'[i]?) = wr.map some) (hR2 : isR.map (fun i => ws[i]?) = wr.map some) (hnw : ws.length = nw) (hcov : (List.range nw).all (fun k => isC.contains k || isR.contains k) = true) (hst : st = As.reverse ++ rest) (hW : (rest.map fun v => v.category).sum ≤ 8) (hd : decode cc pc = .ok (.invokestatic idx, 3))
    (kk : ∀ (H1 : Heap) (locs1 : List Loc), XH D A H0 ws' H1 locs1 → W p l e R s m args below meth c H1 locs1 0 0 Q (F0 m (pc + 3) ls (lv r :: rest))) : W p l e R s m args below meth c H locs 0 0 Q (F0 m pc ls st) := by
  subst hst
  obtain ⟨hc1, hc2, hM⟩ := hM
  obtain ⟨hPc, hDc, hFc⟩ := h.cut isC hC hnd
  refine va_calll (va_runS C.1 (hM H.size) (x_cs C.1.2.2.2.2 hy hlk ⟨hc1, hc2⟩ hR) ⟨x_blind _ _ _ _ _, fun U hU hW => ⟨rfl, by rw [hU], by rw [hU]; exact hPc, va_K.moved hW.alike C.2, hDc⟩⟩ rfl hn hl.1 rfl (lv_room hW) hd ⟨Nat.zero_le _, Nat.zero_le _⟩) h.2.2.1 (fun q _ h => hFc q h) hFc (fun r1 u t H1 locs1 ht hvm hw hB hz1 hk1 hS1 => ?_)
  obtain ⟨hP1, -⟩ := hB
  rw [ht] at hP1
  subst hw
  exact kk H1 locs1 (h.after hC hB ha1 ha2 hR1 hR2 hnw hcov hk1 hP1 hS1)
end XCALLS
