/-! ===== making cells ===== -/
/-- the three links between nest mates that the constructors use -/
def EX (U : State) : Prop := va_Nw (.methodLinkNest RX7 9 yX6_init RX7) U ∧ va_Nw (.methodLinkNest RX7 18 yX2_init RX7) U ∧ va_Nw (.methodLinkNest RX3 22 yX2_init RX7) U ∧ va_AO RX2 U
theorem EX.warm {s U : State} (hW : s.WarmedH U.vm) (h : EX s) : EX U := ⟨va_Nw.warmM hW h.1, va_Nw.warmM hW h.2.1, va_Nw.warmM hW h.2.2.1, va_AO.moved hW.alike h.2.2.2⟩
theorem EX.call {U : State} {g : JFrame} {mk : MethodId} {a : Array Value} (h : EX U) : EX (U.calling g mk a) := ⟨va_Nw.same rfl rfl h.1, va_Nw.same rfl rfl h.2.1, va_Nw.same rfl rfl h.2.2.1, va_AO.moved (Vm.Alike.refl U.vm) h.2.2.2⟩
def nPc (D : va_G) (tys : List (ClassId × FieldType)) (As : List Value) (wc : va_W) (sz : Nat) : Array Value → State → Prop := va_Pc As (fun U => (U.heap.size = sz ∧ va_P D vwCl wc U.heap ∧ va_K D vwCl tys U ∧ va_D (fun _ => True) wc) ∧ EX U)
def CoN {S : Type} (l : Launch) (D : va_G) (tys : List (ClassId × FieldType)) (y : MethodName) (bytes : ByteArray) (maxL : Nat) (rm : Room) (As : List Value) (wc : va_W) (mc ms : Nat) (Pp : S → Prop) (wn : S → va_W) : Prop := rm.cells = mc ∧ rm.slots = ms ∧ ∀ sz, Met l y (.code y bytes maxL none :: TT) rm (nPc D tys As wc sz) (va_Qv Pp (fun u t => va_P D vwCl (wn u) t.heap ∧ va_K D vwCl tys t ∧ va_D (va_A wc sz) (wn u)) (va_A wc sz)) mc ms (va_A wc sz)
theorem co_n {S : Type} {l : Launch} {D : va_G} {tys : List (ClassId × FieldType)} {y : MethodName} {bytes : ByteArray} {maxL : Nat} {rm : Room} {As : List Value} {wc : va_W} {mc ms : Nat} {Pp : S → Prop} {wn : S → va_W} (hy : plainName y.cls = true) (hnm : y.name = "<init>") (hrc : rm.cells = mc ∧ rm.slots = ms) (hn : (lg_sl As).length ≤ maxL)
    (body : ∀ (p : Program) (e : Env) (s : State) (m : MethodId) (args : Array Value) (below : List Frame) (meth : Method) (c : Code) (A : Nat → Prop) (Q : State → Prop) (ls : Array Slot), XC p s m args c bytes maxL y.cls (.code y bytes maxL none) D tys → EX s → meth.name = "<init>" → (∀ (u : S) (pc : Nat) (ls : Array Slot) (H : Heap) (locs : List Loc), decode bytes pc = .ok (.return_, 1) → Pp u → XH D A s.heap (wn u) H locs → W p l e rm s m args below meth c H locs mc ms Q (F0 m pc ls [])) → lv_has ls maxL (lv_args 0 As) → XH D A s.heap wc s.heap [] → W p l e rm s m args below meth c s.heap [] 0 0 Q (F0 m 0 ls [])) :
    CoN l D tys y bytes maxL rm As wc mc ms Pp wn := by
  refine ⟨hrc.1, hrc.2, fun sz => Met.ofW (cc := bytes) (maxL := maxL) (ret := none) hy rfl ?_⟩
  intro p e s m args below meth c s₁ B hml hv
  obtain ⟨rfl, ⟨hsz, hP, hK, hD0⟩, hE⟩ := hv
  have hts := atoms_spec (ws := Cond.code y bytes maxL none :: TT) B.pre
  have hown : s.vm.findClass y.cls = some m.cls := findClass_of_methodNamed B.named
  have hin : meth.name = "<init>" := ((name_of_methodNamed B.named B.method).1).trans hnm
  subst hsz
  have hD := hD0.self (sz := s.heap.size)
  rw [lg_entry_eq]
  refine body p e s m _ below meth c (va_A wc s.heap.size) _ _ ⟨⟨B.exec, B.bytes, hml, hown, hts⟩, hK⟩ hE hin (fun u pc ls H locs hd hu h => ?_) (lv_entry As hn) ⟨hP, hD, va_S.rf, fun q h => Or.inr h⟩
  exact W.vret B.exec B.bytes B.returns (fun t ht hW => ⟨⟨u, rfl, hu, by rw [ht]; exact h.1, va_K.moved hW.alike hK, h.2.1⟩, h.2.2.1.F ht⟩) h.2.2.1.2.2 hd B.notSynchronized
section XNEW
variable {p : Program} {l : Launch} {e : Env} {R : Room} {s : State} {m : MethodId} {args : Array Value} {below : List Frame} {meth : Method} {c : Code} {H : Heap} {locs : List Loc} {cells slots : Nat} {Q : State → Prop}
variable {cc : ByteArray} {nL : Nat} {own : String} {w0 : Cond} {D : va_G} {cI cJ cZ cO : ClassId} {pc : Nat} {ls : Array Slot} {rest st : List Value} {A : Nat → Prop} {H0 : Heap} {ws ws' wc wr : va_W}
theorem x_objInit {tys : List (ClassId × FieldType)} (C : XC p s m args c cc nL own w0 D tys) {lw : List (Nat × Value)} (hl : lv_has ls nL lw) {idx : Nat} (hlk : Cond.methodLink own idx objectInit ∈ TT) {a : Nat} (hR : 1 ≤ R.frames ∧ 12 ≤ R.locals) (hd : decode cc pc = .ok (.invokespecial idx, 3)) (kk : W p l e R s m args below meth c H locs cells slots Q (F0 m (pc + 3) ls [])) : W p l e R s m args below meth c H locs cells slots Q (F0 m pc ls [.ref a]) := by
  refine W.objInit C.1.1 C.1.2.1 C.1.2.2.2.1 (C.1.2.2.2.2 _ (List.mem_cons_of_mem _ hlk)) (C.1.2.2.2.2 _ (List.mem_cons_of_mem _ wob_i)) (C.1.2.2.2.2 _ (List.mem_cons_of_mem _ wob_c)) rfl (by rw [C.1.2.2.1]; exact hl.1) rfl hd hR.1 ?_ kk
  show 2 * 0 + _ + 12 ≤ _
  simpa using hR.2
theorem x_newq1 {tys : List (ClassId × FieldType)} (C : XC p s m args c cc nL own w0 D tys) (h : XH D A H0 ws H locs) {atype : ArrayType} {ty : FieldType} {cA : ClassId} (t0 : Nat) (ht : tys[t0]? = some (cA, ty)) (hra : ∀ c1 : ClassId, va_RA s c1 ty → va_RA s cA ty → c1 = cA) (harr : Cond.arrayClass (newarray.typeOf atype) ∈ TT) (hty : newarray.typeOf atype = ty) {n : Int} {N' : Nat} {a0 : vp_A} (ha : ∀ cA : ClassId, vp_cell cA a0 = arrV cA N' (fun _ => defaultValue ty)) (hn : n = (N' : Int)) (hs : N' < 2147483648) (hbytes : N' * componentBytes ty ≤ 536870912) (hcells : cells + 1 ≤ R.cells) (hslots : slots + N' ≤ R.slots) (hd : decode cc pc = .ok (.newarray atype, 2))
    (kk : ∀ (q : Nat) (H1 : Heap), XH D A H0 (ws ++ [(q, .inl (cA, a0))]) H1 locs → W p l e R s m args below meth c H1 locs (cells + 1) (slots + N') Q (F0 m (pc + 2) ls (.ref q :: rest))) : W p l e R s m args below meth c H locs cells slots Q (F0 m pc ls (iv n :: rest)) := by
  subst hn
  refine va_newa C.1.1 C.1.2.1 (C.1.2.2.2.2 _ (List.mem_cons_of_mem _ harr)) hty C.2 h.1 h.2.1 h.2.2.1 h.2.2.2 ha ?_ ?_ hbytes hcells hslots hd (fun q c1 H1 hK1 a1 a2 a3 => ?_)
  · intro h1
    have h2 := (x_lt (a := (N' : Int)) (b := 0) ⟨by omega, by omega⟩ x_R0).mp h1
    omega
  · rw [x_clamp (by omega) (by omega)]; omega
  · have h1 := (hK1.2 tys.length (c1, ty) (by rw [List.getElem?_append_right (Nat.le_refl _)]; simp)).2
    have h2 := hra c1 h1 (C.2.2 t0 _ ht).2
    subst h2
    exact kk q H1 ⟨a1, a2, a3, h.2.2.2⟩
theorem x_newI (C : XC p s m args c cc nL own w0 D (xT cI cJ cZ cO)) (h : XH D A H0 ws H locs) {N' : Nat} {n : Int} (hn : n = (N' : Int)) (hs : N' < 2147483648) (hbytes : N' * componentBytes .int ≤ 536870912) (hcells : cells + 1 ≤ R.cells) (hslots : slots + N' ≤ R.slots) (hd : decode cc pc = .ok (.newarray .int, 2))
    (kk : ∀ (q : Nat) (H1 : Heap), XH D A H0 (ws ++ [(q, aI cI N' (fun _ => 0))]) H1 locs → W p l e R s m args below meth c H1 locs (cells + 1) (slots + N') Q (F0 m (pc + 2) ls (.ref q :: rest))) : W p l e R s m args below meth c H locs cells slots Q (F0 m pc ls (iv n :: rest)) :=
  x_newq1 (atype := .int) (ty := .int) C h 0 rfl (fun c1 h1 h2 => Option.some.inj ((show s.vm.findClass _ = some c1 from h1).symm.trans (show s.vm.findClass _ = some cI from h2))) wa_int rfl (fun cA => rfl) hn hs hbytes hcells hslots hd kk
theorem x_newZ (C : XC p s m args c cc nL own w0 D (xT cI cJ cZ cO)) (h : XH D A H0 ws H locs) {N' : Nat} {n : Int} (hn : n = (N' : Int)) (hs : N' < 2147483648) (hbytes : N' * componentBytes .boolean ≤ 536870912) (hcells : cells + 1 ≤ R.cells) (hslots : slots + N' ≤ R.slots) (hd : decode cc pc = .ok (.newarray .boolean, 2))
    (kk : ∀ (q : Nat) (H1 : Heap), XH D A H0 (ws ++ [(q, aI cZ N' (fun _ => 0))]) H1 locs → W p l e R s m args below meth c H1 locs (cells + 1) (slots + N') Q (F0 m (pc + 2) ls (.ref q :: rest))) : W p l e R s m args below meth c H locs cells slots Q (F0 m pc ls (iv n :: rest)) :=
  x_newq1 (atype := .boolean) (ty := .boolean) C h 2 rfl (fun c1 h1 h2 => Option.some.inj ((show s.vm.findClass _ = some c1 from h1).symm.trans (show s.vm.findClass _ = some cZ from h2))) wa_boolean rfl (fun cA => rfl) hn hs hbytes hcells hslots hd kk
theorem x_newJ (C : XC p s m args c cc nL own w0 D (xT cI cJ cZ cO)) (h : XH D A H0 ws H locs) {N' : Nat} {n : Int} (hn : n = (N' : Int)) (hs : N' < 2147483648) (hbytes : N' * componentBytes .long ≤ 536870912) (hcells : cells + 1 ≤ R.cells) (hslots : slots + N' ≤ R.slots) (hd : decode cc pc = .ok (.newarray .long, 2))
    (kk : ∀ (q : Nat) (H1 : Heap), XH D A H0 (ws ++ [(q, aJ cJ N' (fun _ => 0#64))]) H1 locs → W p l e R s m args below meth c H1 locs (cells + 1) (slots + N') Q (F0 m (pc + 2) ls (.ref q :: rest))) : W p l e R s m args below meth c H locs cells slots Q (F0 m pc ls (iv n :: rest)) :=
  x_newq1 (atype := .long) (ty := .long) C h 1 rfl (fun c1 h1 h2 => Option.some.inj ((show s.vm.findClass _ = some c1 from h1).symm.trans (show s.vm.findClass _ = some cJ from h2))) wa_long rfl (fun cA => rfl) hn hs hbytes hcells hslots hd kk
theorem x_newO (C : XC p s m args c cc nL own w0 D (xT cI cJ cZ cO)) (h : XH D A H0 ws H locs) (hE : EX s) {idx : Nat} (hlk : Cond.classLink own idx RX2 ∈ TT) {N' : Nat} {n : Int} (hn : n = (N' : Int)) (hs : N' < 2147483648) (hbytes : N' * 4 ≤ 536870912) (hcells : cells + 1 ≤ R.cells) (hslots : slots + N' ≤ R.slots) (hd : decode cc pc = .ok (.anewarray idx, 3))
    (kk : ∀ (q : Nat) (H1 : Heap), XH D A H0 (ws ++ [(q, .inl (cO, N', .inr (.inr (.inr (.inr (fun _ => none))))))]) H1 locs → W p l e R s m args below meth c H1 locs (cells + 1) (slots + N') Q (F0 m (pc + 3) ls (.ref q :: rest))) : W p l e R s m args below meth c H locs cells slots Q (F0 m pc ls (iv n :: rest)) := by
  subst hn
  refine va_newq C.1.1 C.1.2.1 C.1.2.2.2.1 (C.1.2.2.2.2 _ (List.mem_cons_of_mem _ hlk)) hE.2.2.2 C.2 h.1 h.2.1 h.2.2.1 h.2.2.2 ?_ ?_ hbytes hcells hslots hd (fun q c1 H1 hK1 a1 a2 a3 => ?_)
  · intro h1
    have h2 := (x_lt (a := (N' : Int)) (b := 0) ⟨by omega, by omega⟩ x_R0).mp h1
    omega
  · rw [x_clamp (by omega) (by omega)]; omega
  · obtain ⟨_, _, _, _, _, h1⟩ := (hK1.2 4 (c1, .object RX2) rfl).2
    obtain ⟨_, _, _, _, _, h2⟩ := (C.2.2 3 (cO, .object RX2) rfl).2
    have h3 : c1 = cO := Option.some.inj (h1.symm.trans h2)
    subst h3
    exact kk q H1 ⟨a1, a2, a3, h.2.2.2⟩
theorem x_aast (C : XC p s m args c cc nL own w0 D (xT cI cJ cZ cO)) (h : XH D A H0 ws H locs) (q0 qk : Nat) {a v : Nat} {n : Nat} {vs : List Value} {f : Nat → Option Nat} (ha : ws[q0]? = some (a, .inl (cO, n, .inr (.inr (.inr (.inr f)))))) (hv : ws[qk]? = some (v, .inr (1, vs))) {i : Int} (j : Nat) (hi : i = (j : Int)) (hj : j < n) (hs : n < 2147483648) (hw : ws.set q0 (a, .inl (cO, n, .inr (.inr (.inr (.inr (va_up f j (some v))))))) = ws') (hd : decode cc pc = .ok (.aastore, 1))
    (kk : ∀ (H1 : Heap) (locs1 : List Loc), XH D A H0 ws' H1 locs1 → W p l e R s m args below meth c H1 locs1 cells slots Q (F0 m (pc + 1) ls rest)) : W p l e R s m args below meth c H locs cells slots Q (F0 m pc ls (.ref v :: iv i :: .ref a :: rest)) := by
  subst hw; subst hi
  have hc : (Int32.ofInt (j : Int)).toNatClampNeg = j := by rw [x_clamp (by omega) (by omega)]; omega
  refine va_astq C.1.1 C.1.2.1 C.2 h.1 h.2.1 h.2.2.1 q0 3 qk 1 (r := (RX2, TX2, 7)) ha rfl hv rfl (x_in ⟨by omega, by omega⟩ hs) hd (fun H1 locs1 a1 a2 a3 => kk H1 locs1 ⟨?_, ?_, a3, h.2.2.2⟩)
  · rw [hc] at a1; exact a1
  · rw [hc] at a2; exact a2
theorem x_putF {tys : List (ClassId × FieldType)} (C : XC p s m args c cc nL own w0 D tys) (h : XH D A H0 ws H locs) (hin : meth.name = "<init>") {idx ci k : Nat} {q : vw_C} (f : XF own idx ci k q) {tf : Nat → FieldType} (g : XP q tf) (hfin : (q.2.1 k).2.2.2 = true) (hdc : (q.2.1 k).1 = own) (q0 : Nat) {a : Nat} {fs : List Value} (he : ws[q0]? = some (a, .inr (ci, fs))) {v : Value} (hn : narrow (tf k) v = v) (hfit : fits (tf k) v = true) (hl : k < fs.length) (hw : ws.set q0 (a, .inr (ci, fs.set k v)) = ws') (hd : decode cc pc = .ok (.putfield idx, 3))
    (kk : ∀ (H1 : Heap) (locs1 : List Loc), XH D A H0 ws' H1 locs1 → W p l e R s m args below meth c H1 locs1 cells slots Q (F0 m (pc + 3) ls rest)) : W p l e R s m args below meth c H locs cells slots Q (F0 m pc ls (v :: .ref a :: rest)) := by
  subst hw
  exact va_putF (D := D) (C := q.1) (T := q.2.1) (N := q.2.2) C.1.1 C.1.2.1 C.1.2.2.2.2 (fun w hw => List.mem_cons_of_mem _ (f.2.2.2 w hw)) tf g.1 g.2 C.1.2.2.2.1 C.2 h.1 h.2.1 h.2.2.1 q0 he f.1 k f.2.1 (C.1.2.2.2.2 _ (List.mem_cons_of_mem _ f.2.2.1)) (fun _ h9 => h9) hfin hin hdc (g.1 k f.2.1) hn hfit hl hd (fun H1 locs1 a1 a2 a3 => kk H1 locs1 ⟨a1, a2, a3, h.2.2.2⟩)
theorem x_new {tys : List (ClassId × FieldType)} (C : XC p s m args c cc nL own w0 D tys) (h : XH D A H0 ws H locs) {idx ci N' : Nat} {Cn : String} {T : u_T} {tf : Nat → FieldType} (g : XP (Cn, T, N') tf) (hin : ∀ w ∈ u_ws Cn T N', w ∈ TT) (hlk : Cond.classLink own idx Cn ∈ TT) (hinst : Cond.instantiable Cn N' ∈ TT) (hini : Cond.initialized Cn ∈ TT) (hc : vwCl[ci]? = some (Cn, T, N')) {fs : List Value} (hfs : ∀ j, j < N' → defaultValue (tf j) = vp_V fs j) (hcells : cells + 1 ≤ R.cells) (hslots : slots + N' ≤ R.slots) (hd : decode cc pc = .ok (.new idx, 3))
    (kk : ∀ (q : Nat) (H1 : Heap), XH D A H0 (ws ++ [(q, .inr (ci, fs))]) H1 locs → W p l e R s m args below meth c H1 locs (cells + 1) (slots + N') Q (F0 m (pc + 3) ls (.ref q :: rest))) : W p l e R s m args below meth c H locs cells slots Q (F0 m pc ls rest) :=
  va_new C.1.1 C.1.2.1 C.1.2.2.2.2 (fun w hw => List.mem_cons_of_mem _ (hin w hw)) tf g.1 C.1.2.2.2.1 (C.1.2.2.2.2 _ (List.mem_cons_of_mem _ hlk)) (C.1.2.2.2.2 _ (List.mem_cons_of_mem _ hinst)) (C.1.2.2.2.2 _ (List.mem_cons_of_mem _ hini)) C.2 h.1 h.2.1 h.2.2.1 h.2.2.2 hc hfs hcells hslots hd (fun q H1 a1 a2 a3 => kk q H1 ⟨a1, a2, a3, h.2.2.2⟩)
variable {tys : List (ClassId × FieldType)} {y : MethodName} {bytes : ByteArray} {maxL n idx : Nat} {rm : Room} {As : List Value} {b mc ms : Nat} {S : Type} {Pp : S → Prop} {wn : S → va_W}
theorem x_nblind (D : va_G) (tys : List (ClassId × FieldType)) (As : List Value) (wc : va_W) (sz : Nat) : FrameBlind (nPc D tys As wc sz) := fun a U g mk q => by
  obtain ⟨q0, ⟨q1, qP, qK, qD⟩, hE⟩ := q
  exact ⟨q0, ⟨q1, qP, va_K.moved (u := U) (U := U.calling g mk a) (Vm.Alike.refl U.vm) qK, qD⟩, hE.call⟩
theorem x_callN (C : XC p s m args c cc nL own w0 D tys) (h : XH D A H0 ws H locs) (hE : EX s) {lw : List (Nat × Value)} (hl : lv_has ls nL lw) (hM : CoN l D tys y bytes maxL rm (.ref b :: As) wc mc ms Pp wn) (hy : XI y bytes maxL n) (hlk : Cond.methodLink own idx y ∈ TT) (hR : rm.frames + 1 ≤ R.frames ∧ 8 + (maxL + 11) + rm.locals ≤ R.locals) (hn : As.length = n) (hcs : cells + mc ≤ R.cells ∧ slots + ms ≤ R.slots)
    (isC isR : List Nat) (hC : isC.map (fun i => ws[i]?) = wc.map some) (hRr : isR.map (fun i => ws[i]?) = wr.map some) (hnc : va_nd isC = true) (hnr : va_nd isR = true) (hdis : ∀ i ∈ isR, i ∉ isC) (hst : st = As.reverse ++ .ref b :: rest) (hW : (rest.map fun v => v.category).sum ≤ 8) (hd : decode cc pc = .ok (.invokespecial idx, 3))
    (kk : ∀ (u : S) (H1 : Heap) (locs1 : List Loc), Pp u → XH D A H0 (wr ++ wn u) H1 locs1 → W p l e R s m args below meth c H1 locs1 (cells + mc) (slots + ms) Q (F0 m (pc + 3) ls rest)) : W p l e R s m args below meth c H locs cells slots Q (F0 m pc ls st) := by
  subst hst
  obtain ⟨hc1, hc2, hM⟩ := hM
  obtain ⟨hPc, hDc, hFc⟩ := h.cut isC hC hnc
  have hts := C.1.2.2.2.2
  refine va_callv (va_runI C.1 (hM H.size) ⟨callB_of n hts (x_gd w0 hy.2.2.2.1) rfl hc1 hc2 (hts _ (List.mem_cons_of_mem _ hy.2.2.1)) (hts _ (List.mem_cons_of_mem _ hlk)) hy.2.2.2.2 hR, hy.1, hts _ (List.mem_cons_of_mem _ hy.2.1)⟩ ⟨x_nblind _ _ _ _ _, fun U hU hW => ⟨rfl, ⟨by rw [hU], by rw [hU]; exact hPc, va_K.moved hW.alike C.2, hDc⟩, hE.warm hW⟩⟩ rfl hn hl.1 rfl (lv_room hW) hd hcs) h.2.2.1 (fun q _ h => hFc q h) hFc (fun u t H1 locs1 ht hvm hw hB hz1 hk1 hS1 => ?_)
  obtain ⟨hP1, -, hD1⟩ := hB
  rw [ht] at hP1
  obtain ⟨hP, hD⟩ := va_join h.1 h.2.1 isC isR hC hRr hnr hdis hk1 hFc hP1 hD1
  exact kk u H1 locs1 hw ⟨hP, hD, hS1, h.2.2.2⟩
theorem x_callNN (C : XC p s m args c cc nL own w0 D tys) (h : XH D A H0 ws H locs) (hE : EX s) {lw : List (Nat × Value)} (hl : lv_has ls nL lw) (hM : CoN l D tys y bytes maxL rm (.ref b :: As) wc mc ms Pp wn) (hy : XI y bytes maxL n) {host : String} (hlk : va_Nw (.methodLinkNest own idx y host) s) (hR : rm.frames + 1 ≤ R.frames ∧ 8 + (maxL + 11) + rm.locals ≤ R.locals) (hn : As.length = n) (hcs : cells + mc ≤ R.cells ∧ slots + ms ≤ R.slots)
    (isC isR : List Nat) (hC : isC.map (fun i => ws[i]?) = wc.map some) (hRr : isR.map (fun i => ws[i]?) = wr.map some) (hnc : va_nd isC = true) (hnr : va_nd isR = true) (hdis : ∀ i ∈ isR, i ∉ isC) (hst : st = As.reverse ++ .ref b :: rest) (hW : (rest.map fun v => v.category).sum ≤ 8) (hd : decode cc pc = .ok (.invokespecial idx, 3))
    (kk : ∀ (u : S) (H1 : Heap) (locs1 : List Loc), Pp u → XH D A H0 (wr ++ wn u) H1 locs1 → W p l e R s m args below meth c H1 locs1 (cells + mc) (slots + ms) Q (F0 m (pc + 3) ls rest)) : W p l e R s m args below meth c H locs cells slots Q (F0 m pc ls st) := by
  subst hst
  obtain ⟨hc1, hc2, hM⟩ := hM
  obtain ⟨hPc, hDc, hFc⟩ := h.cut isC hC hnc
  have hts := C.1.2.2.2.2
  refine va_callv (va_runIN (host := host) C.1 (hM H.size) ⟨va_cnB n hts (x_gd w0 hy.2.2.2.1) rfl hc1 hc2 hlk (hts _ (List.mem_cons_of_mem _ hy.2.2.1)) hy.2.2.2.2 hR, hy.1, hts _ (List.mem_cons_of_mem _ hy.2.1)⟩ ⟨x_nblind _ _ _ _ _, fun U hU hW => ⟨rfl, ⟨by rw [hU], by rw [hU]; exact hPc, va_K.moved hW.alike C.2, hDc⟩, hE.warm hW⟩⟩ rfl hn hl.1 rfl (lv_room hW) hd hcs) h.2.2.1 (fun q _ h => hFc q h) hFc (fun u t H1 locs1 ht hvm hw hB hz1 hk1 hS1 => ?_)
  obtain ⟨hP1, -, hD1⟩ := hB
  rw [ht] at hP1
  obtain ⟨hP, hD⟩ := va_join h.1 h.2.1 isC isR hC hRr hnr hdis hk1 hFc hP1 hD1
  exact kk u H1 locs1 hw ⟨hP, hD, hS1, h.2.2.2⟩
theorem XH.perm (h : XH D A H0 ws H locs) (is : List Nat) (hi : is.map (fun i => ws[i]?) = ws'.map some) (hn : va_nd is = true) : XH D A H0 ws' H locs := by
  obtain ⟨hP, hD, hS, hA⟩ := h
  refine ⟨hP.sub is ?_, hD.sub is hn hi, hS, hA⟩
  have h1 : is.filterMap (fun i => ws[i]?) = (is.map (fun i => ws[i]?)).filterMap id := by rw [List.filterMap_map]; rfl
  rw [h1, hi, List.filterMap_map]
  simp
end XNEW
