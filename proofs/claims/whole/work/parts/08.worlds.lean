/-! ===== the cells of the two systems ===== -/
abbrev xT (cI cJ cZ cO : ClassId) : List (ClassId × FieldType) := [(cI, .int), (cJ, .long), (cZ, .boolean), (cO, .object RX2)]
abbrev oC (b : Nat → Nat) : va_E := .inr (0, [.ref (b 7), .ref (b 14), .ref (b 15)])
abbrev oD (xc : Nat) (rows cols : Int) (cr cb : BitVec 64) (cl kl : Int) : va_E := .inr (1, [iv rows, iv cols, .ref xc, lv cr, lv cb, iv cl, iv kl])
abbrev oH (b : Nat → Nat) (next count : Int) : va_E := .inr (2, [.ref (b 6), iv next, iv count])
abbrev oP (b : Nat → Nat) (all jr jb : BitVec 64) (count : Int) : va_E := .inr (3, [.ref (b 3), lv all, lv jr, lv jb, iv count, .ref (b 8), .ref (b 9)])
abbrev oS (b : Nat → Nat) (planned : Int) (cells : BitVec 64) (top bottom left right : Int) : va_E := .inr (4, [.ref (b 7), iv planned, lv cells, iv top, iv bottom, iv left, iv right, .ref (b 11), .ref (b 12)])
abbrev oT (b : Nat → Nat) (len : Int) : va_E := .inr (5, [.ref (b 2), iv len])
abbrev oG (b : Nat → Nat) : va_E := .inr (6, [.ref (b 1), .ref (b 3), .ref (b 5), .ref (b 7), .ref (b 10), .ref (b 13)])
abbrev oM (a : Nat → Nat) (edits typed readRows readColumns top bottom left right panes : Int) : va_E := .inr (7, [.ref (a 1), .ref (a 2), iv edits, .ref (a 3), iv typed, iv readRows, iv readColumns, .ref (a 4), iv top, iv bottom, iv left, iv right, .ref (a 5), iv panes, .ref (a 6), .ref (a 7), .ref (a 8), .ref (a 9), .ref (a 10), .ref (a 11), .ref (a 12), .ref (a 13), .ref (a 14), .ref (a 15), .ref (a 16), .ref (a 17), .ref (a 18)])
/-- the eight kept drawings -/
abbrev aK (cO : ClassId) (b : Nat → Nat) : va_E := .inl (cO, 8, .inr (.inr (.inr (.inr (fun j => if j < 8 then some (b (16 + j)) else none)))))
/-! ===== the library's copy, the number of bits ===== -/
def cpyi (f g : Int → Int) (n : Int) : Int → Int := fun j => if 0 ≤ j ∧ j < n then f j else g j
section XCOPY
variable {p : Program} {l : Launch} {e : Env} {R : Room} {s : State} {m : MethodId} {args : Array Value} {below : List Frame} {meth : Method} {c : Code} {H : Heap} {locs : List Loc} {cells slots : Nat} {Q : State → Prop}
variable {cc : ByteArray} {nL : Nat} {own : String} {w0 : Cond} {D : va_G} {cI cJ cZ cO : ClassId} {pc : Nat} {ls : Array Slot} {A : Nat → Prop} {H0 : Heap} {ws ws' : va_W}
theorem x_cpy (f g : Int → Int) : va_cpy (fun j : Nat => Int32.ofInt (f (j : Int))) (fun j : Nat => Int32.ofInt (g (j : Int))) 0 0 56 = fun j : Nat => Int32.ofInt (cpyi f g 56 (j : Int)) := by
  funext j
  unfold cpyi
  by_cases hj : j < 56
  · rw [pk_cpy_in (Nat.zero_le _) (by omega), if_pos (by omega)]
    congr 2
    omega
  · rw [pk_cpy_out (by omega), if_neg (by omega)]
theorem x_copy (C : XC p s m args c cc nL own w0 D (xT cI cJ cZ cO)) (h : XH D A H0 ws H locs) {lw : List (Nat × Value)} (hl : lv_has ls nL lw) {idx : Nat} (hlk : Cond.methodLink own idx arraycopyName ∈ TT) (hR : 1 ≤ R.frames ∧ nativeFrameWords "java/lang/System" "arraycopy" 5 + 11 ≤ R.locals) (q0 q1 : Nat) {a0 a1 : Nat} {f g g' : Int → Int} (ha0 : ws[q0]? = some (a0, aI cI 56 f)) (ha1 : ws[q1]? = some (a1, aI cI 56 g)) (hg : g' = cpyi f g 56) (hw : ws.set q1 (a1, aI cI 56 g') = ws') (hd : decode cc pc = .ok (.invokestatic idx, 3))
    (kk : ∀ (H1 : Heap) (locs1 : List Loc), XH D A H0 ws' H1 locs1 → W p l e R s m args below meth c H1 locs1 cells slots Q (F0 m (pc + 3) ls [])) : W p l e R s m args below meth c H locs cells slots Q (F0 m pc ls [iv 56, iv 0, .ref a1, iv 0, .ref a0]) := by
  subst hw; subst hg
  refine va_copyi C.1.1 C.1.2.1 (by rw [hl.1]; exact C.1.2.2.1) C.1.2.2.2.1 (C.1.2.2.2.2 _ (List.mem_cons_of_mem _ hlk)) (C.1.2.2.2.2 _ (List.mem_cons_of_mem _ wy_n)) (C.1.2.2.2.2 _ (List.mem_cons_of_mem _ wy_s)) (C.1.2.2.2.2 _ (List.mem_cons_of_mem _ wi_J10)) C.2 h.1 h.2.1 h.2.2.1 q0 q1 0 0 ha0 ha1 rfl rfl rfl (by decide) (by decide) (by decide) (by decide) (by decide) (fun _ _ => rfl) hR.1 (by simpa using hR.2) hd (fun H1 locs1 a1 a2 a3 => kk H1 locs1 ⟨?_, ?_, a3, h.2.2.2⟩)
  · have e1 : (Int32.ofInt 0).toNatClampNeg = 0 := by decide
    have e2 : (Int32.ofInt 56).toNatClampNeg = 56 := by decide
    rw [e1, e2, x_cpy] at a1
    exact a1
  · have e1 : (Int32.ofInt 0).toNatClampNeg = 0 := by decide
    have e2 : (Int32.ofInt 56).toNatClampNeg = 56 := by decide
    rw [e1, e2, x_cpy] at a2
    exact a2
end XCOPY
/-- how many bits are set -/
def popc (x : BitVec 64) : Int := (((List.range 64).filter (fun i => x.getLsbD i)).length : Nat)
def bc1 (x : BitVec 64) : BitVec 64 := x - ((x >>> 1) &&& 6148914691236517205#64)
def bc2 (x : BitVec 64) : BitVec 64 := (x &&& 3689348814741910323#64) + ((x >>> 2) &&& 3689348814741910323#64)
def bc3 (x : BitVec 64) : BitVec 64 := (x + (x >>> 4)) &&& 1085102592571150095#64
def bc4 (x : BitVec 64) : BitVec 64 := x + (x >>> 8)
def bc5 (x : BitVec 64) : BitVec 64 := x + (x >>> 16)
def bc6 (x : BitVec 64) : BitVec 64 := x + (x >>> 32)
theorem bc_all (x : BitVec 64) : (Int64.ofBitVec (bc6 (bc5 (bc4 (bc3 (bc2 (bc1 x))))))).toInt32 &&& Int32.ofInt 127 = Int32.ofInt (popc x) := by
  sorry
abbrev rm_popc : Room := { frames := 0, cells := 0, slots := 0, locals := 0 }
set_option maxHeartbeats 4000000 in
set_option maxRecDepth 100000 in
theorem c_popc (l : Launch) (D : va_G) (tys : List (ClassId × FieldType)) (x : BitVec 64) : CoI l D tys yJ13_bitCount_95d88 cJ13_bitCount_95d88 2 (some .int) rm_popc [lv x] [] (popc x) [] := by
  refine co_i (by decide) ⟨rfl, rfl⟩ (Nat.le_of_ble_eq_true rfl) ?_
  intro p e s m args below meth c A Q ls C hret hl h
  have hx := C.1.1
  have hb := C.1.2.1
  have hl : lv_has ls 2 [(0, lv x)] := hl
  refine lv_lload_n hx hb dJ13_bitCount_95d88_0 rfl (lv_at hl 0 rfl) ?_
  refine lv_lload_n hx hb dJ13_bitCount_95d88_1 rfl (lv_at hl 0 rfl) ?_
  refine x_iconst C dJ13_bitCount_95d88_2 ?_
  refine x_lushr C ⟨by decide, by decide⟩ dJ13_bitCount_95d88_3 ?_
  refine x_ldc2 C (x := 6148914691236517205#64) wk_J13_314 (by decide) dJ13_bitCount_95d88_4 ?_
  refine x_land C dJ13_bitCount_95d88_7 ?_
  refine x_lsub C dJ13_bitCount_95d88_8 ?_
  refine x_topl (z := bc1 x) rfl ?_
  refine lv_lstore_n hx hb (lv' := [(0, lv (bc1 x))]) dJ13_bitCount_95d88_9 rfl hl (Nat.le_of_ble_eq_true rfl) rfl (fun ls hl => ?_)
  refine lv_lload_n hx hb dJ13_bitCount_95d88_10 rfl (lv_at hl 0 rfl) ?_
  refine x_ldc2 C (x := 3689348814741910323#64) wk_J13_316 (by decide) dJ13_bitCount_95d88_11 ?_
  refine x_land C dJ13_bitCount_95d88_14 ?_
  refine lv_lload_n hx hb dJ13_bitCount_95d88_15 rfl (lv_at hl 0 rfl) ?_
  refine x_iconst C dJ13_bitCount_95d88_16 ?_
  refine x_lushr C ⟨by decide, by decide⟩ dJ13_bitCount_95d88_17 ?_
  refine x_ldc2 C (x := 3689348814741910323#64) wk_J13_316 (by decide) dJ13_bitCount_95d88_18 ?_
  refine x_land C dJ13_bitCount_95d88_21 ?_
  refine x_ladd C dJ13_bitCount_95d88_22 ?_
  refine x_topl (z := bc2 (bc1 x)) rfl ?_
  refine lv_lstore_n hx hb (lv' := [(0, lv (bc2 (bc1 x)))]) dJ13_bitCount_95d88_23 rfl hl (Nat.le_of_ble_eq_true rfl) rfl (fun ls hl => ?_)
  refine lv_lload_n hx hb dJ13_bitCount_95d88_24 rfl (lv_at hl 0 rfl) ?_
  refine lv_lload_n hx hb dJ13_bitCount_95d88_25 rfl (lv_at hl 0 rfl) ?_
  refine x_iconst C dJ13_bitCount_95d88_26 ?_
  refine x_lushr C ⟨by decide, by decide⟩ dJ13_bitCount_95d88_27 ?_
  refine x_ladd C dJ13_bitCount_95d88_28 ?_
  refine x_ldc2 C (x := 1085102592571150095#64) wk_J13_318 (by decide) dJ13_bitCount_95d88_29 ?_
  refine x_land C dJ13_bitCount_95d88_32 ?_
  refine x_topl (z := bc3 (bc2 (bc1 x))) rfl ?_
  refine lv_lstore_n hx hb (lv' := [(0, lv (bc3 (bc2 (bc1 x))))]) dJ13_bitCount_95d88_33 rfl hl (Nat.le_of_ble_eq_true rfl) rfl (fun ls hl => ?_)
  refine lv_lload_n hx hb dJ13_bitCount_95d88_34 rfl (lv_at hl 0 rfl) ?_
  refine lv_lload_n hx hb dJ13_bitCount_95d88_35 rfl (lv_at hl 0 rfl) ?_
  refine x_bipush C dJ13_bitCount_95d88_36 (by decide) ?_
  refine x_lushr C ⟨by decide, by decide⟩ dJ13_bitCount_95d88_38 ?_
  refine x_ladd C dJ13_bitCount_95d88_39 ?_
  refine x_topl (z := bc4 (bc3 (bc2 (bc1 x)))) rfl ?_
  refine lv_lstore_n hx hb (lv' := [(0, lv (bc4 (bc3 (bc2 (bc1 x)))))]) dJ13_bitCount_95d88_40 rfl hl (Nat.le_of_ble_eq_true rfl) rfl (fun ls hl => ?_)
  refine lv_lload_n hx hb dJ13_bitCount_95d88_41 rfl (lv_at hl 0 rfl) ?_
  refine lv_lload_n hx hb dJ13_bitCount_95d88_42 rfl (lv_at hl 0 rfl) ?_
  refine x_bipush C dJ13_bitCount_95d88_43 (by decide) ?_
  refine x_lushr C ⟨by decide, by decide⟩ dJ13_bitCount_95d88_45 ?_
  refine x_ladd C dJ13_bitCount_95d88_46 ?_
  refine x_topl (z := bc5 (bc4 (bc3 (bc2 (bc1 x))))) rfl ?_
  refine lv_lstore_n hx hb (lv' := [(0, lv (bc5 (bc4 (bc3 (bc2 (bc1 x))))))]) dJ13_bitCount_95d88_47 rfl hl (Nat.le_of_ble_eq_true rfl) rfl (fun ls hl => ?_)
  refine lv_lload_n hx hb dJ13_bitCount_95d88_48 rfl (lv_at hl 0 rfl) ?_
  refine lv_lload_n hx hb dJ13_bitCount_95d88_49 rfl (lv_at hl 0 rfl) ?_
  refine x_bipush C dJ13_bitCount_95d88_50 (by decide) ?_
  refine x_lushr C ⟨by decide, by decide⟩ dJ13_bitCount_95d88_52 ?_
  refine x_ladd C dJ13_bitCount_95d88_53 ?_
  refine x_topl (z := bc6 (bc5 (bc4 (bc3 (bc2 (bc1 x)))))) rfl ?_
  refine lv_lstore_n hx hb (lv' := [(0, lv (bc6 (bc5 (bc4 (bc3 (bc2 (bc1 x)))))))]) dJ13_bitCount_95d88_54 rfl hl (Nat.le_of_ble_eq_true rfl) rfl (fun ls hl => ?_)
  refine lv_lload_n hx hb dJ13_bitCount_95d88_55 rfl (lv_at hl 0 rfl) ?_
  refine lv_l2i hx hb dJ13_bitCount_95d88_56 rfl ?_
  refine x_bipush C dJ13_bitCount_95d88_57 (by decide) ?_
  refine lv_iand hx hb dJ13_bitCount_95d88_59 ?_
  rw [bc_all]
  exact hret _ _ _ _ dJ13_bitCount_95d88_60 h
