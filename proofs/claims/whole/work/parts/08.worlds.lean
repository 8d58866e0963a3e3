/-! ===== the cells of the two systems ===== -/
abbrev xT (cI cJ cZ cO : ClassId) : List (ClassId × FieldType) := [(cI, .int), (cJ, .long), (cZ, .boolean), (cO, .object RX2)]
abbrev oC (b : Nat → Nat) : va_E := .inr (0, [.ref (b 7), .ref (b 14), .ref (b 15)])
abbrev oD (xc : Nat) (rows cols : Int) (cr cb : BitVec 64) (cl kl : Int) : va_E := .inr (1, [iv rows, iv cols, .ref xc, lv cr, lv cb, iv cl, iv kl])
abbrev oH (b : Nat → Nat) (next count : Int) : va_E := .inr (2, [.ref (b 6), iv next, iv count])
abbrev oP (b : Nat → Nat) (all jr jb : BitVec 64) (count : Int) : va_E := .inr (3, [.ref (b 3), lv all, lv jr, lv jb, iv count, .ref (b 8), .ref (b 9)])
abbrev oS (b : Nat → Nat) (planned : Int) (cells : BitVec 64) (top bottom left right : Int) : va_E := .inr (4, [.ref (b 7), iv planned, lv cells, iv top, iv bottom, iv left, iv right, .ref (b 11), .ref (b 12)])
abbrev oT (b : Nat → Nat) (len : Int) : va_E := .inr (5, [.ref (b 2), iv len])
abbrev oG (b : Nat → Nat) : va_E := .inr (6, [.ref (b 1), .ref (b 3), .ref (b 5), .ref (b 7), .ref (b 10), .ref (b 13)])
abbrev oM (a : Nat → Nat) (edits typed readRows readColumns top bottom left right panes : Int) : va_E := .inr (7, [.ref (a 1), .ref (a 2), iv edits, .ref (a 3), iv typed, iv readRows, iv readColumns, .ref (a 4), iv top, iv bottom, iv left, iv right, .ref (a 5), iv panes, .ref (a 6), .ref (a 7), .ref (a 8), .ref (a 9), .ref (a 10), .ref (a 11), .ref (a 12), .ref (a 13), .ref (a 14), .ref (a 15), .ref (a 16), .ref (a 17), .ref (a 18)])
/-- the eight kept drawings -/
abbrev aK (cO : ClassId) (b : Nat → Nat) : va_E := .inl (cO, 8, .inr (.inr (.inr (.inr (fun j => if j < 8 then some (b (16 + j)) else none)))))
/-! ===== the library's copy, the number of bits ===== -/
def cpyi (f g : Int → Int) (n : Int) : Int → Int := fun j => if 0 ≤ j ∧ j < n then f j else g j
section XCOPY
variable {p : Program} {l : Launch} {e : Env} {R : Room} {s : State} {m : MethodId} {args : Array Value} {below : List Frame} {meth : Method} {c : Code} {H : Heap} {locs : List Loc} {cells slots : Nat} {Q : State → Prop}
variable {cc : ByteArray} {nL : Nat} {own : String} {w0 : Cond} {D : va_G} {cI cJ cZ cO : ClassId} {pc : Nat} {ls : Array Slot} {A : Nat → Prop} {H0 : Heap} {ws ws' : va_W}
theorem x_cpy (f g : Int → Int) : va_cpy (fun j : Nat => Int32.ofInt (f (j : Int))) (fun j : Nat => Int32.ofInt (g (j : Int))) 0 0 56 = fun j : Nat => Int32.ofInt (cpyi f g 56 (j : Int)) := by
  funext j
  unfold cpyi
  by_cases hj : j < 56
  · rw [pk_cpy_in (Nat.zero_le _) (by omega), if_pos (by omega)]
    congr 2
    omega
  · rw [pk_cpy_out (by omega), if_neg (by omega)]
theorem x_copy (C : XC p s m args c cc nL own w0 D (xT cI cJ cZ cO)) (h : XH D A H0 ws H locs) {lw : List (Nat × Value)} (hl : lv_has ls nL lw) {idx : Nat} (hlk : Cond.methodLink own idx arraycopyName ∈ TT) (hR : 1 ≤ R.frames ∧ nativeFrameWords "java/lang/System" "arraycopy" 5 + 11 ≤ R.locals) (q0 q1 : Nat) {a0 a1 : Nat} {f g g' : Int → Int} (ha0 : ws[q0]? = some (a0, aI cI 56 f)) (ha1 : ws[q1]? = some (a1, aI cI 56 g)) (hg : g' = cpyi f g 56) (hw : ws.set q1 (a1, aI cI 56 g') = ws') (hd : decode cc pc = .ok (.invokestatic idx, 3))
    (kk : ∀ (H1 : Heap) (locs1 : List Loc), XH D A H0 ws' H1 locs1 → W p l e R s m args below meth c H1 locs1 cells slots Q (F0 m (pc + 3) ls [])) : W p l e R s m args below meth c H locs cells slots Q (F0 m pc ls [iv 56, iv 0, .ref a1, iv 0, .ref a0]) := by
  subst hw; subst hg
  refine va_copyi C.1.1 C.1.2.1 (by rw [hl.1]; exact C.1.2.2.1) C.1.2.2.2.1 (C.1.2.2.2.2 _ (List.mem_cons_of_mem _ hlk)) (C.1.2.2.2.2 _ (List.mem_cons_of_mem _ wy_n)) (C.1.2.2.2.2 _ (List.mem_cons_of_mem _ wy_s)) (C.1.2.2.2.2 _ (List.mem_cons_of_mem _ wi_J10)) C.2 h.1 h.2.1 h.2.2.1 q0 q1 0 0 ha0 ha1 rfl rfl rfl (by decide) (by decide) (by decide) (by decide) (by decide) (fun _ _ => rfl) hR.1 (by simpa using hR.2) hd (fun H1 locs1 a1 a2 a3 => kk H1 locs1 ⟨?_, ?_, a3, h.2.2.2⟩)
  · have e1 : (Int32.ofInt 0).toNatClampNeg = 0 := by decide
    have e2 : (Int32.ofInt 56).toNatClampNeg = 56 := by decide
    rw [e1, e2, x_cpy] at a1
    exact a1
  · have e1 : (Int32.ofInt 0).toNatClampNeg = 0 := by decide
    have e2 : (Int32.ofInt 56).toNatClampNeg = 56 := by decide
    rw [e1, e2, x_cpy] at a2
    exact a2
end XCOPY
/-! ===== the number of bits, as Long.bitCount counts it ===== -/
def cntB (p : Nat → Bool) : Nat → Int
  | 0 => 0
  | n + 1 => cntB p n + (if p n then 1 else 0)
theorem cntB_congr {p q : Nat → Bool} : ∀ {n : Nat}, (∀ i, i < n → p i = q i) → cntB p n = cntB q n
  | 0, _ => rfl
  | n + 1, h => by
    show cntB p n + _ = cntB q n + _
    rw [cntB_congr (fun i hi => h i (by omega)), h n (by omega)]
theorem cntB_add (p : Nat → Bool) (m : Nat) : ∀ n : Nat, cntB p (m + n) = cntB p m + cntB (fun i => p (m + i)) n
  | 0 => by simp [cntB]
  | n + 1 => by
    show cntB p (m + n) + _ = _ + (cntB _ n + _)
    rw [cntB_add p m n, Int.add_assoc]
    rfl
/-- how many bits are set -/
def popc (x : BitVec 64) : Int := cntB x.getLsbD 64
def bc1 (x : BitVec 64) : BitVec 64 := x - ((x >>> 1) &&& 6148914691236517205#64)
def bc2 (x : BitVec 64) : BitVec 64 := (x &&& 3689348814741910323#64) + ((x >>> 2) &&& 3689348814741910323#64)
def bc3 (x : BitVec 64) : BitVec 64 := (x + (x >>> 4)) &&& 1085102592571150095#64
def bc4 (x : BitVec 64) : BitVec 64 := x + (x >>> 8)
def bc5 (x : BitVec 64) : BitVec 64 := x + (x >>> 16)
def bc6 (x : BitVec 64) : BitVec 64 := x + (x >>> 32)
def bMk (c : Nat) : Nat → Nat
  | 0 => 0
  | k + 1 => 256 * bMk c k + c
theorem bc_tb {h b : Nat} (hb : b < 256) (j : Nat) : (256 * h + b).testBit j = if j < 8 then b.testBit j else h.testBit (j - 8) :=
  Nat.testBit_two_pow_mul_add h (i := 8) hb j
theorem bc_and {h b h' b' : Nat} (hb : b < 256) (hb' : b' < 256) : (256 * h + b) &&& (256 * h' + b') = 256 * (h &&& h') + (b &&& b') := by
  apply Nat.eq_of_testBit_eq
  intro j
  have hlt : b &&& b' < 256 := Nat.lt_of_le_of_lt Nat.and_le_left hb
  rw [Nat.testBit_and, bc_tb hb, bc_tb hb', bc_tb hlt]
  by_cases hj : j < 8
  · simp [hj, Nat.testBit_and]
  · simp [hj, Nat.testBit_and]
theorem bc_m1 : ∀ t : Fin 2, ∀ b : Fin 256, ((b.val / 2 + 128 * t.val) &&& 85) = (b.val / 2) &&& 85 := by decide +kernel
theorem bc_m2 : ∀ t : Fin 4, ∀ b : Fin 256, ((b.val / 4 + 64 * t.val) &&& 51) = (b.val / 4) &&& 51 := by decide +kernel
theorem bc_m3 : ∀ t : Fin 5, ∀ b : Fin 256, b.val % 16 ≤ 4 → b.val / 16 ≤ 4 → ((b.val + b.val / 16 + 16 * t.val) &&& 15) = b.val % 16 + b.val / 16 := by decide +kernel
def bs1 (k n : Nat) : Nat := n - ((n / 2) &&& bMk 85 k)
def bs2 (k n : Nat) : Nat := (n &&& bMk 51 k) + ((n / 4) &&& bMk 51 k)
def bs3 (k n : Nat) : Nat := (n + n / 16) &&& bMk 15 k
def bf1 (b : Nat) : Nat := b - ((b / 2) &&& 85)
def bf2 (b : Nat) : Nat := (b &&& 51) + ((b / 4) &&& 51)
theorem bc_s1 {k h b : Nat} (hb : b < 256) : bs1 (k + 1) (256 * h + b) = 256 * bs1 k h + bf1 b := by
  unfold bs1 bf1
  have e1 : (256 * h + b) / 2 = 256 * (h / 2) + (b / 2 + 128 * (h % 2)) := by omega
  have e2 : ((256 * h + b) / 2) &&& bMk 85 (k + 1) = 256 * ((h / 2) &&& bMk 85 k) + ((b / 2) &&& 85) := by
    rw [e1]
    show _ &&& (256 * bMk 85 k + 85) = _
    rw [bc_and (by omega) (by omega)]
    have := bc_m1 ⟨h % 2, by omega⟩ ⟨b, hb⟩
    simp only at this
    rw [this]
  rw [e2]
  have h1 : (h / 2) &&& bMk 85 k ≤ h / 2 := Nat.and_le_left
  have h2 : (b / 2) &&& 85 ≤ b / 2 := Nat.and_le_left
  omega
theorem bc_s2 {k h b : Nat} (hb : b < 256) : bs2 (k + 1) (256 * h + b) = 256 * bs2 k h + bf2 b := by
  unfold bs2 bf2
  have e1 : (256 * h + b) / 4 = 256 * (h / 4) + (b / 4 + 64 * (h % 4)) := by omega
  have e2 : ((256 * h + b) / 4) &&& bMk 51 (k + 1) = 256 * ((h / 4) &&& bMk 51 k) + ((b / 4) &&& 51) := by
    rw [e1]
    show _ &&& (256 * bMk 51 k + 51) = _
    rw [bc_and (by omega) (by omega)]
    have := bc_m2 ⟨h % 4, by omega⟩ ⟨b, hb⟩
    simp only at this
    rw [this]
  have e3 : (256 * h + b) &&& bMk 51 (k + 1) = 256 * (h &&& bMk 51 k) + (b &&& 51) := by
    show _ &&& (256 * bMk 51 k + 51) = _
    rw [bc_and hb (by omega)]
  rw [e2, e3]
  omega
theorem bc_s3 {k h b : Nat} (hb : b < 256) (h1 : b % 16 ≤ 4) (h2 : b / 16 ≤ 4) (h3 : h % 16 ≤ 4) : bs3 (k + 1) (256 * h + b) = 256 * bs3 k h + (b % 16 + b / 16) := by
  unfold bs3
  have e1 : 256 * h + b + (256 * h + b) / 16 = 256 * (h + h / 16) + (b + b / 16 + 16 * (h % 16)) := by omega
  rw [e1]
  show _ &&& (256 * bMk 15 k + 15) = _
  rw [bc_and (by omega) (by omega)]
  have := bc_m3 ⟨h % 16, by omega⟩ ⟨b, hb⟩ h1 h2
  simp only at this
  rw [this]
theorem bc_f : ∀ b : Fin 256, bf1 b.val < 256 ∧ bf2 (bf1 b.val) < 256 ∧ bf2 (bf1 b.val) % 16 ≤ 4 ∧ bf2 (bf1 b.val) / 16 ≤ 4 ∧ ((bf2 (bf1 b.val) % 16 + bf2 (bf1 b.val) / 16 : Nat) : Int) = cntB (Nat.testBit b.val) 8 := by decide +kernel
def bT (k n : Nat) : Nat := bs3 k (bs2 k (bs1 k n))
theorem bc_T {k h b : Nat} (hb : b < 256) (hh : bs2 k (bs1 k h) % 16 ≤ 4) : bT (k + 1) (256 * h + b) = 256 * bT k h + (bf2 (bf1 b) % 16 + bf2 (bf1 b) / 16) ∧ bs2 (k + 1) (bs1 (k + 1) (256 * h + b)) % 16 ≤ 4 := by
  obtain ⟨a1, a2, a3, a4, a5⟩ := bc_f ⟨b, hb⟩
  simp only at a1 a2 a3 a4 a5
  unfold bT
  rw [bc_s1 hb, bc_s2 a1, bc_s3 a2 a3 a4 hh]
  exact ⟨rfl, by omega⟩
def bp (b : Nat) : Nat := bf2 (bf1 b) % 16 + bf2 (bf1 b) / 16
theorem bp_le {b : Nat} (hb : b < 256) : bp b ≤ 8 := by
  obtain ⟨a1, a2, a3, a4, a5⟩ := bc_f ⟨b, hb⟩
  simp only at a3 a4
  unfold bp; omega
theorem bp_cnt {b : Nat} (hb : b < 256) : cntB (Nat.testBit b) 8 = (bp b : Int) := by
  obtain ⟨a1, a2, a3, a4, a5⟩ := bc_f ⟨b, hb⟩
  simp only at a5
  unfold bp; exact a5.symm
theorem bc_cnt {h b m : Nat} (hb : b < 256) : cntB (Nat.testBit (256 * h + b)) (8 + m) = (bp b : Int) + cntB (Nat.testBit h) m := by
  rw [cntB_add, ← bp_cnt hb]
  congr 1
  · exact cntB_congr (fun i hi => by rw [bc_tb hb, if_pos hi])
  · exact cntB_congr (fun i hi => by rw [bc_tb hb, if_neg (by omega)]; congr 1; omega)
theorem bc_eight {b0 b1 b2 b3 b4 b5 b6 b7 : Nat} (h0 : b0 < 256) (h1 : b1 < 256) (h2 : b2 < 256) (h3 : b3 < 256) (h4 : b4 < 256) (h5 : b5 < 256) (h6 : b6 < 256) (h7 : b7 < 256) :
    bT 8 (256 * (256 * (256 * (256 * (256 * (256 * (256 * (256 * 0 + b7) + b6) + b5) + b4) + b3) + b2) + b1) + b0) = 256 * (256 * (256 * (256 * (256 * (256 * (256 * (256 * 0 + bp b7) + bp b6) + bp b5) + bp b4) + bp b3) + bp b2) + bp b1) + bp b0 ∧
    cntB (Nat.testBit (256 * (256 * (256 * (256 * (256 * (256 * (256 * (256 * 0 + b7) + b6) + b5) + b4) + b3) + b2) + b1) + b0)) 64 = bp b0 + (bp b1 + (bp b2 + (bp b3 + (bp b4 + (bp b5 + (bp b6 + (bp b7 + 0))))))) := by
  have t8 := bc_T (k := 0) (h := 0) h7 (by decide)
  have t7 := bc_T (k := 1) h6 t8.2
  have t6 := bc_T (k := 2) h5 t7.2
  have t5 := bc_T (k := 3) h4 t6.2
  have t4 := bc_T (k := 4) h3 t5.2
  have t3 := bc_T (k := 5) h2 t4.2
  have t2 := bc_T (k := 6) h1 t3.2
  have t1 := bc_T (k := 7) h0 t2.2
  refine ⟨?_, ?_⟩
  · rw [t1.1, t2.1, t3.1, t4.1, t5.1, t6.1, t7.1, t8.1]
    rfl
  · rw [show (64 : Nat) = 8 + (8 + (8 + (8 + (8 + (8 + (8 + (8 + 0))))))) from rfl, bc_cnt h0, bc_cnt h1, bc_cnt h2, bc_cnt h3, bc_cnt h4, bc_cnt h5, bc_cnt h6, bc_cnt h7]
    rfl
theorem bc_nat {n : Nat} (hn : n < 18446744073709551616) : ∃ p0 p1 p2 p3 p4 p5 p6 p7 : Nat, p0 ≤ 8 ∧ p1 ≤ 8 ∧ p2 ≤ 8 ∧ p3 ≤ 8 ∧ p4 ≤ 8 ∧ p5 ≤ 8 ∧ p6 ≤ 8 ∧ p7 ≤ 8 ∧
    bT 8 n = p0 + 256 * p1 + 65536 * p2 + 16777216 * p3 + 4294967296 * p4 + 1099511627776 * p5 + 281474976710656 * p6 + 72057594037927936 * p7 ∧ cntB (Nat.testBit n) 64 = ((p0 + p1 + p2 + p3 + p4 + p5 + p6 + p7 : Nat) : Int) := by
  obtain ⟨e1, e2⟩ := bc_eight (b0 := n % 256) (b1 := n / 256 % 256) (b2 := n / 256 / 256 % 256) (b3 := n / 256 / 256 / 256 % 256) (b4 := n / 256 / 256 / 256 / 256 % 256) (b5 := n / 256 / 256 / 256 / 256 / 256 % 256) (b6 := n / 256 / 256 / 256 / 256 / 256 / 256 % 256) (b7 := n / 256 / 256 / 256 / 256 / 256 / 256 / 256 % 256) (by omega) (by omega) (by omega) (by omega) (by omega) (by omega) (by omega) (by omega)
  have hd : 256 * (256 * (256 * (256 * (256 * (256 * (256 * (256 * 0 + n / 256 / 256 / 256 / 256 / 256 / 256 / 256 % 256) + n / 256 / 256 / 256 / 256 / 256 / 256 % 256) + n / 256 / 256 / 256 / 256 / 256 % 256) + n / 256 / 256 / 256 / 256 % 256) + n / 256 / 256 / 256 % 256) + n / 256 / 256 % 256) + n / 256 % 256) + n % 256 = n := by omega
  rw [hd] at e1 e2
  refine ⟨_, _, _, _, _, _, _, _, bp_le (b := n % 256) (by omega), bp_le (b := n / 256 % 256) (by omega), bp_le (b := n / 256 / 256 % 256) (by omega), bp_le (b := n / 256 / 256 / 256 % 256) (by omega), bp_le (b := n / 256 / 256 / 256 / 256 % 256) (by omega), bp_le (b := n / 256 / 256 / 256 / 256 / 256 % 256) (by omega), bp_le (b := n / 256 / 256 / 256 / 256 / 256 / 256 % 256) (by omega), bp_le (b := n / 256 / 256 / 256 / 256 / 256 / 256 / 256 % 256) (by omega), ?_, ?_⟩
  · rw [e1]; omega
  · rw [e2]; push_cast; omega
theorem bc_toNat (x : BitVec 64) : (bc3 (bc2 (bc1 x))).toNat = bT 8 x.toNat := by
  have hx := x.isLt
  have m1 : bMk 85 8 = 6148914691236517205 := by decide
  have m2 : bMk 51 8 = 3689348814741910323 := by decide
  have m3 : bMk 15 8 = 1085102592571150095 := by decide
  have e1 : (bc1 x).toNat = bs1 8 x.toNat := by
    unfold bc1 bs1
    rw [m1, BitVec.toNat_sub, BitVec.toNat_and, BitVec.toNat_ushiftRight, Nat.shiftRight_eq_div_pow]
    show (2 ^ 64 - (x.toNat / 2 ^ 1 &&& 6148914691236517205) + x.toNat) % 2 ^ 64 = _
    have h1 : x.toNat / 2 ^ 1 &&& 6148914691236517205 ≤ x.toNat / 2 ^ 1 := Nat.and_le_left
    rw [show (2 : Nat) ^ 1 = 2 from rfl] at h1 ⊢
    omega
  have l1 := (bc1 x).isLt
  have e2 : (bc2 (bc1 x)).toNat = bs2 8 (bs1 8 x.toNat) := by
    rw [← e1]
    unfold bc2 bs2
    rw [m2, BitVec.toNat_add, BitVec.toNat_and, BitVec.toNat_and, BitVec.toNat_ushiftRight, Nat.shiftRight_eq_div_pow]
    show (((bc1 x).toNat &&& 3689348814741910323) + ((bc1 x).toNat / 2 ^ 2 &&& 3689348814741910323)) % 2 ^ 64 = _
    have h1 : (bc1 x).toNat &&& 3689348814741910323 ≤ 3689348814741910323 := Nat.and_le_right
    have h2 : (bc1 x).toNat / 2 ^ 2 &&& 3689348814741910323 ≤ 3689348814741910323 := Nat.and_le_right
    rw [show (2 : Nat) ^ 2 = 4 from rfl] at h2 ⊢
    omega
  have l2 : (bc2 (bc1 x)).toNat ≤ 7378697629483820646 := by
    rw [e2]
    unfold bs2
    rw [m2]
    have h1 : bs1 8 x.toNat &&& 3689348814741910323 ≤ 3689348814741910323 := Nat.and_le_right
    have h2 : bs1 8 x.toNat / 4 &&& 3689348814741910323 ≤ 3689348814741910323 := Nat.and_le_right
    omega
  unfold bT
  rw [← e2]
  unfold bc3 bs3
  rw [m3, BitVec.toNat_and, BitVec.toNat_add, BitVec.toNat_ushiftRight, Nat.shiftRight_eq_div_pow]
  show ((bc2 (bc1 x)).toNat + (bc2 (bc1 x)).toNat / 2 ^ 4) % 2 ^ 64 &&& 1085102592571150095 = _
  rw [Nat.mod_eq_of_lt (by omega)]
theorem bc_last (y : BitVec 64) (P E S T : Nat) (h1 : y.toNat = P + 4294967296 * E) (h2 : P < 4294967296) (h3 : E < 2147483648) (h4 : P + E = S + 128 * T) (h5 : S < 128) : (bc6 y).toNat % 128 = S := by
  have hd : y.toNat / 4294967296 = E := by omega
  have e1 : (bc6 y).toNat = (y.toNat + y.toNat / 4294967296) % 18446744073709551616 := by
    unfold bc6
    rw [BitVec.toNat_add, BitVec.toNat_ushiftRight, Nat.shiftRight_eq_div_pow]
  rw [e1, hd, h1]
  omega
theorem bc_all (x : BitVec 64) : (Int64.ofBitVec (bc6 (bc5 (bc4 (bc3 (bc2 (bc1 x))))))).toInt32 &&& Int32.ofInt 127 = Int32.ofInt (popc x) := by
  have hx := x.isLt
  obtain ⟨p0, p1, p2, p3, p4, p5, p6, p7, h0, h1, h2, h3, h4, h5, h6, h7, eT, eC⟩ := bc_nat (n := x.toNat) (by omega)
  have hp : popc x = ((p0 + p1 + p2 + p3 + p4 + p5 + p6 + p7 : Nat) : Int) := by
    rw [← eC]
    exact cntB_congr (fun i _ => rfl)
  have e3 := bc_toNat x
  rw [eT] at e3
  generalize bc3 (bc2 (bc1 x)) = y at e3
  have dv : ∀ (d p E : Nat), p < d → (p + d * E) / d = E := fun d p E h => by rw [Nat.add_mul_div_left _ _ (by omega), Nat.div_eq_of_lt h]; omega
  have e4 : (bc4 y).toNat = (p0 + p1) + 256 * (p1 + p2) + 65536 * (p2 + p3) + 16777216 * (p3 + p4) + 4294967296 * (p4 + p5) + 1099511627776 * (p5 + p6) + 281474976710656 * (p6 + p7) + 72057594037927936 * p7 := by
    have hd : y.toNat / 256 = p1 + 256 * p2 + 65536 * p3 + 16777216 * p4 + 4294967296 * p5 + 1099511627776 * p6 + 281474976710656 * p7 := by
      rw [show y.toNat = p0 + 256 * (p1 + 256 * p2 + 65536 * p3 + 16777216 * p4 + 4294967296 * p5 + 1099511627776 * p6 + 281474976710656 * p7) by omega]
      exact dv _ _ _ (by omega)
    unfold bc4
    rw [BitVec.toNat_add, BitVec.toNat_ushiftRight, Nat.shiftRight_eq_div_pow, show (2 : Nat) ^ 8 = 256 from rfl, hd, Nat.mod_eq_of_lt (by rw [show (2 : Nat) ^ 64 = 18446744073709551616 from rfl]; omega)]
    omega
  generalize bc4 y = y4 at e4
  have e5 : (bc5 y4).toNat = (p0 + p1 + p2 + p3) + 256 * (p1 + p2 + p3 + p4) + 65536 * (p2 + p3 + p4 + p5) + 16777216 * (p3 + p4 + p5 + p6) + 4294967296 * (p4 + p5 + p6 + p7) + 1099511627776 * (p5 + p6 + p7) + 281474976710656 * (p6 + p7) + 72057594037927936 * p7 := by
    have hd : y4.toNat / 65536 = (p2 + p3) + 256 * (p3 + p4) + 65536 * (p4 + p5) + 16777216 * (p5 + p6) + 4294967296 * (p6 + p7) + 1099511627776 * p7 := by
      have hq := dv 65536 ((p0 + p1) + 256 * (p1 + p2)) ((p2 + p3) + 256 * (p3 + p4) + 65536 * (p4 + p5) + 16777216 * (p5 + p6) + 4294967296 * (p6 + p7) + 1099511627776 * p7) (by omega)
      have hz : y4.toNat = ((p0 + p1) + 256 * (p1 + p2)) + 65536 * ((p2 + p3) + 256 * (p3 + p4) + 65536 * (p4 + p5) + 16777216 * (p5 + p6) + 4294967296 * (p6 + p7) + 1099511627776 * p7) := by omega
      exact (congrArg (fun z => z / 65536) hz).trans hq
    unfold bc5
    rw [BitVec.toNat_add, BitVec.toNat_ushiftRight, Nat.shiftRight_eq_div_pow, show (2 : Nat) ^ 16 = 65536 from rfl, hd, Nat.mod_eq_of_lt (by rw [show (2 : Nat) ^ 64 = 18446744073709551616 from rfl]; omega)]
    omega
  generalize bc5 y4 = y5 at e5
  clear eT e3 e4 eC hx
  have e6 : (bc6 y5).toNat % 128 = p0 + p1 + p2 + p3 + p4 + p5 + p6 + p7 := by
    refine bc_last y5 ((p0 + p1 + p2 + p3) + 256 * (p1 + p2 + p3 + p4) + 65536 * (p2 + p3 + p4 + p5) + 16777216 * (p3 + p4 + p5 + p6)) ((p4 + p5 + p6 + p7) + 256 * (p5 + p6 + p7) + 65536 * (p6 + p7) + 16777216 * p7) _ (2 * (p1 + p2 + p3 + p4) + 512 * (p2 + p3 + p4 + p5) + 131072 * (p3 + p4 + p5 + p6) + 2 * (p5 + p6 + p7) + 512 * (p6 + p7) + 131072 * p7) ?_ ?_ ?_ ?_ ?_
    · rw [e5]; clear e5 hp dv; omega
    · clear e5 hp dv; omega
    · clear e5 hp dv; omega
    · clear e5 hp dv; omega
    · clear e5 hp dv; omega
  generalize bc6 y5 = y6 at e6
  rw [hp, pk_and _ 7 (by decide)]
  rw [x_nI (a := ((p0 + p1 + p2 + p3 + p4 + p5 + p6 + p7 : Nat) : Int)) (by omega)]
  congr 1
  have e7 : ((Int64.ofBitVec y6).toInt32).toBitVec.toNat = y6.toNat % 2 ^ 32 := by
    rw [Int64.toBitVec_toInt32, BitVec.signExtend_eq_setWidth_of_le _ (by decide), BitVec.toNat_setWidth]
    rfl
  have e9 : ((Int64.ofBitVec y6).toInt32).toBitVec.toNat % 128 = p0 + p1 + p2 + p3 + p4 + p5 + p6 + p7 := by
    have e10 : y6.toNat % 4294967296 % 128 = y6.toNat % 128 := by clear hp e5 e6 e7 dv; omega
    exact (congrArg (fun z => z % 128) e7).trans (e10.trans e6)
  exact e9.trans (Int.toNat_natCast _).symm
abbrev rm_popc : Room := { frames := 0, cells := 0, slots := 0, locals := 0 }
set_option maxHeartbeats 4000000 in
set_option maxRecDepth 100000 in
theorem c_popc (l : Launch) (D : va_G) (tys : List (ClassId × FieldType)) (x : BitVec 64) : CoI l D tys yJ13_bitCount_95d88 cJ13_bitCount_95d88 2 (some .int) rm_popc [lv x] [] (popc x) [] := by
  refine co_i (by decide) ⟨rfl, rfl⟩ (Nat.le_of_ble_eq_true rfl) ?_
  intro p e s m args below meth c A Q ls C hret hl h
  have hx := C.1.1
  have hb := C.1.2.1
  have hl : lv_has ls 2 [(0, lv x)] := hl
  refine lv_lload_n hx hb dJ13_bitCount_95d88_0 rfl (lv_at hl 0 rfl) ?_
  refine lv_lload_n hx hb dJ13_bitCount_95d88_1 rfl (lv_at hl 0 rfl) ?_
  refine x_iconst C dJ13_bitCount_95d88_2 ?_
  refine x_lushr C ⟨by decide, by decide⟩ dJ13_bitCount_95d88_3 ?_
  refine x_ldc2 C (x := 6148914691236517205#64) wk_J13_314 (by decide) dJ13_bitCount_95d88_4 ?_
  refine x_land C dJ13_bitCount_95d88_7 ?_
  refine x_lsub C dJ13_bitCount_95d88_8 ?_
  refine x_topl (z := bc1 x) rfl ?_
  refine lv_lstore_n hx hb (lv' := [(0, lv (bc1 x))]) dJ13_bitCount_95d88_9 rfl hl (Nat.le_of_ble_eq_true rfl) rfl (fun ls hl => ?_)
  refine lv_lload_n hx hb dJ13_bitCount_95d88_10 rfl (lv_at hl 0 rfl) ?_
  refine x_ldc2 C (x := 3689348814741910323#64) wk_J13_316 (by decide) dJ13_bitCount_95d88_11 ?_
  refine x_land C dJ13_bitCount_95d88_14 ?_
  refine lv_lload_n hx hb dJ13_bitCount_95d88_15 rfl (lv_at hl 0 rfl) ?_
  refine x_iconst C dJ13_bitCount_95d88_16 ?_
  refine x_lushr C ⟨by decide, by decide⟩ dJ13_bitCount_95d88_17 ?_
  refine x_ldc2 C (x := 3689348814741910323#64) wk_J13_316 (by decide) dJ13_bitCount_95d88_18 ?_
  refine x_land C dJ13_bitCount_95d88_21 ?_
  refine x_ladd C dJ13_bitCount_95d88_22 ?_
  refine x_topl (z := bc2 (bc1 x)) rfl ?_
  refine lv_lstore_n hx hb (lv' := [(0, lv (bc2 (bc1 x)))]) dJ13_bitCount_95d88_23 rfl hl (Nat.le_of_ble_eq_true rfl) rfl (fun ls hl => ?_)
  refine lv_lload_n hx hb dJ13_bitCount_95d88_24 rfl (lv_at hl 0 rfl) ?_
  refine lv_lload_n hx hb dJ13_bitCount_95d88_25 rfl (lv_at hl 0 rfl) ?_
  refine x_iconst C dJ13_bitCount_95d88_26 ?_
  refine x_lushr C ⟨by decide, by decide⟩ dJ13_bitCount_95d88_27 ?_
  refine x_ladd C dJ13_bitCount_95d88_28 ?_
  refine x_ldc2 C (x := 1085102592571150095#64) wk_J13_318 (by decide) dJ13_bitCount_95d88_29 ?_
  refine x_land C dJ13_bitCount_95d88_32 ?_
  refine x_topl (z := bc3 (bc2 (bc1 x))) rfl ?_
  refine lv_lstore_n hx hb (lv' := [(0, lv (bc3 (bc2 (bc1 x))))]) dJ13_bitCount_95d88_33 rfl hl (Nat.le_of_ble_eq_true rfl) rfl (fun ls hl => ?_)
  refine lv_lload_n hx hb dJ13_bitCount_95d88_34 rfl (lv_at hl 0 rfl) ?_
  refine lv_lload_n hx hb dJ13_bitCount_95d88_35 rfl (lv_at hl 0 rfl) ?_
  refine x_bipush C dJ13_bitCount_95d88_36 (by decide) ?_
  refine x_lushr C ⟨by decide, by decide⟩ dJ13_bitCount_95d88_38 ?_
  refine x_ladd C dJ13_bitCount_95d88_39 ?_
  refine x_topl (z := bc4 (bc3 (bc2 (bc1 x)))) rfl ?_
  refine lv_lstore_n hx hb (lv' := [(0, lv (bc4 (bc3 (bc2 (bc1 x)))))]) dJ13_bitCount_95d88_40 rfl hl (Nat.le_of_ble_eq_true rfl) rfl (fun ls hl => ?_)
  refine lv_lload_n hx hb dJ13_bitCount_95d88_41 rfl (lv_at hl 0 rfl) ?_
  refine lv_lload_n hx hb dJ13_bitCount_95d88_42 rfl (lv_at hl 0 rfl) ?_
  refine x_bipush C dJ13_bitCount_95d88_43 (by decide) ?_
  refine x_lushr C ⟨by decide, by decide⟩ dJ13_bitCount_95d88_45 ?_
  refine x_ladd C dJ13_bitCount_95d88_46 ?_
  refine x_topl (z := bc5 (bc4 (bc3 (bc2 (bc1 x))))) rfl ?_
  refine lv_lstore_n hx hb (lv' := [(0, lv (bc5 (bc4 (bc3 (bc2 (bc1 x))))))]) dJ13_bitCount_95d88_47 rfl hl (Nat.le_of_ble_eq_true rfl) rfl (fun ls hl => ?_)
  refine lv_lload_n hx hb dJ13_bitCount_95d88_48 rfl (lv_at hl 0 rfl) ?_
  refine lv_lload_n hx hb dJ13_bitCount_95d88_49 rfl (lv_at hl 0 rfl) ?_
  refine x_bipush C dJ13_bitCount_95d88_50 (by decide) ?_
  refine x_lushr C ⟨by decide, by decide⟩ dJ13_bitCount_95d88_52 ?_
  refine x_ladd C dJ13_bitCount_95d88_53 ?_
  refine x_topl (z := bc6 (bc5 (bc4 (bc3 (bc2 (bc1 x)))))) rfl ?_
  refine lv_lstore_n hx hb (lv' := [(0, lv (bc6 (bc5 (bc4 (bc3 (bc2 (bc1 x)))))))]) dJ13_bitCount_95d88_54 rfl hl (Nat.le_of_ble_eq_true rfl) rfl (fun ls hl => ?_)
  refine lv_lload_n hx hb dJ13_bitCount_95d88_55 rfl (lv_at hl 0 rfl) ?_
  refine lv_l2i hx hb dJ13_bitCount_95d88_56 rfl ?_
  refine x_bipush C dJ13_bitCount_95d88_57 (by decide) ?_
  refine lv_iand hx hb dJ13_bitCount_95d88_59 ?_
  rw [bc_all]
  exact hret _ _ _ _ dJ13_bitCount_95d88_60 h
