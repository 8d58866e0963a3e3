/-! ===== rows over Int and BitVec 64: an int is Int32.ofInt z, a long is Int64.ofBitVec x ===== -/
abbrev xR (z : Int) : Prop := -2147483648 ≤ z ∧ z < 2147483648
abbrev iv (z : Int) : Value := .int (Int32.ofInt z)
abbrev lv (x : BitVec 64) : Value := .long (Int64.ofBitVec x)
def upi {α : Type} (f : Int → α) (i : Int) (x : α) : Int → α := fun j => if j = i then x else f j
abbrev aI (c : ClassId) (n : Nat) (f : Int → Int) : va_E := .inl (c, n, .inl (fun j => Int32.ofInt (f (j : Int))))
abbrev aJ (c : ClassId) (n : Nat) (f : Int → BitVec 64) : va_E := .inl (c, n, .inr (.inl (fun j => Int64.ofBitVec (f (j : Int)))))
theorem x_toInt {z : Int} (h : xR z) : (Int32.ofInt z).toInt = z := Int32.toInt_ofInt_of_le (by have := h.1; omega) (by have := h.2; omega)
theorem x_lt {a b : Int} (ha : xR a) (hb : xR b) : Int32.ofInt a < Int32.ofInt b ↔ a < b := by rw [Int32.lt_iff_toInt_lt, x_toInt ha, x_toInt hb]
theorem x_le {a b : Int} (ha : xR a) (hb : xR b) : Int32.ofInt a ≤ Int32.ofInt b ↔ a ≤ b := by rw [Int32.le_iff_toInt_le, x_toInt ha, x_toInt hb]
theorem x_eq {a b : Int} (ha : xR a) (hb : xR b) : Int32.ofInt a = Int32.ofInt b ↔ a = b := by rw [← Int32.toInt_inj, x_toInt ha, x_toInt hb]
theorem x_nI {a : Int} (h : 0 ≤ a) : Int32.ofInt a = nI a.toNat := by
  obtain ⟨n, rfl⟩ := Int.eq_ofNat_of_zero_le h
  rfl
theorem x_clamp {a : Int} (h0 : 0 ≤ a) (h : a < 2147483648) : (Int32.ofInt a).toNatClampNeg = a.toNat := by
  rw [x_nI h0]; exact nI_clamp (by omega)
theorem x_in {i : Int} {n : Nat} (h : 0 ≤ i ∧ i < n) (hn : n < 2147483648) : vp_in (Int32.ofInt i) n := by
  rw [x_nI h.1]; exact vp_in_nI (by omega) (by omega)
theorem x_div {a b : Int} (ha : 0 ≤ a ∧ a < 2147483648) (hb : 0 < b ∧ b < 2147483648) : Int32.ofInt a / Int32.ofInt b = Int32.ofInt (a / b) := by
  have h0 : 0 ≤ a / b := Int.ediv_nonneg ha.1 (by omega)
  rw [x_nI ha.1, x_nI (by omega : 0 ≤ b), x_nI h0, pk_div (by omega) (by omega) (by omega)]
  congr 1
  obtain ⟨n, rfl⟩ := Int.eq_ofNat_of_zero_le ha.1
  obtain ⟨k, rfl⟩ := Int.eq_ofNat_of_zero_le (by omega : 0 ≤ b)
  rfl
theorem x_rem {a b : Int} (ha : 0 ≤ a ∧ a < 2147483648) (hb : 0 < b ∧ b < 2147483648) : Int32.ofInt a - Int32.ofInt a / Int32.ofInt b * Int32.ofInt b = Int32.ofInt (a % b) := by
  have h0 : 0 ≤ a % b := Int.emod_nonneg _ (by omega)
  rw [x_nI ha.1, x_nI (by omega : 0 ≤ b), x_nI h0, pk_rem (by omega) (by omega) (by omega)]
  congr 1
  obtain ⟨n, rfl⟩ := Int.eq_ofNat_of_zero_le ha.1
  obtain ⟨k, rfl⟩ := Int.eq_ofNat_of_zero_le (by omega : 0 ≤ b)
  rfl
theorem x_toBV (x : BitVec 64) : (Int64.ofBitVec x).toBitVec = x := rfl
theorem x_shk : ∀ k : Fin 64, (((nI k.val).toInt64 &&& 63).toBitVec.smod 64).toNat = k.val ∧ (((nI k.val).toInt64.toUInt64 &&& Int64.toUInt64 63).toBitVec % 64).toNat = k.val := by decide +kernel
theorem x_shl {x : BitVec 64} {n : Int} (h : 0 ≤ n ∧ n < 64) : Int64.ofBitVec x <<< ((Int32.ofInt n).toInt64 &&& 63) = Int64.ofBitVec (x <<< n.toNat) := by
  have hk := (x_shk ⟨n.toNat, by omega⟩).1
  apply Int64.toBitVec_inj.mp
  rw [Int64.toBitVec_shiftLeft, x_nI h.1]
  show x <<< _ = x <<< _
  rw [BitVec.shiftLeft_eq', hk]
theorem x_ushr {x : BitVec 64} {n : Int} (h : 0 ≤ n ∧ n < 64) : ((Int64.ofBitVec x).toUInt64 >>> ((Int32.ofInt n).toInt64.toUInt64 &&& Int64.toUInt64 63)).toInt64 = Int64.ofBitVec (x >>> n.toNat) := by
  have hk := (x_shk ⟨n.toNat, by omega⟩).2
  apply Int64.toBitVec_inj.mp
  rw [x_nI h.1]
  show ((UInt64.ofBitVec x) >>> _).toBitVec = x >>> _
  rw [UInt64.toBitVec_shiftRight]
  show x >>> _ = x >>> _
  rw [BitVec.ushiftRight_eq', hk]
/-! ===== Option: a run that may fall ===== -/
def og {α : Type} (P : Prop) [Decidable P] (t : Option α) : Option α := if P then t else none
theorem og_some {α : Type} {P : Prop} [Decidable P] {t : Option α} {r : α} (h : og P t = some r) : P ∧ t = some r := by
  unfold og at h
  by_cases hp : P
  · rw [if_pos hp] at h; exact ⟨hp, h⟩
  · rw [if_neg hp] at h; cases h
theorem og_pos {α : Type} {P : Prop} [Decidable P] {t : Option α} (h : P) : og P t = t := if_pos h
theorem ob_some {α β : Type} {x : Option α} {f : α → Option β} {r : β} (h : Option.bind x f = some r) : ∃ q, x = some q ∧ f q = some r := by
  cases x with
  | none => cases h
  | some q => exact ⟨q, rfl, h⟩
theorem ol_some {α β : Type} {e : α} {f : α → Option β} {r : β} (h : Option.bind (some e) f = some r) : ∃ q, q = e ∧ f q = some r := ⟨e, rfl, h⟩
theorem oi_t {α : Type} {P : Prop} [Decidable P] {t u : Option α} {r : α} (h : (if P then t else u) = some r) (hp : P) : t = some r := by rwa [if_pos hp] at h
theorem oi_f {α : Type} {P : Prop} [Decidable P] {t u : Option α} {r : α} (h : (if P then t else u) = some r) (hp : ¬ P) : u = some r := by rwa [if_neg hp] at h
/-! ===== the heap ===== -/
def XH (D : va_G) (A : Nat → Prop) (H0 : Heap) (ws : va_W) (H : Heap) (locs : List Loc) : Prop := va_P D vwCl ws H ∧ va_D A ws ∧ va_S A H0 H locs ∧ ∀ q, H0.size ≤ q → A q
def XC (p : Program) (s : State) (m : MethodId) (args : Array Value) (c : Code) (cc : ByteArray) (nL : Nat) (own : String) (w0 : Cond) (D : va_G) (tys : List (ClassId × FieldType)) : Prop := CallFix p m c cc nL s args (w0 :: TT) own ∧ va_K D vwCl tys s
theorem va_D.addr {A : Nat → Prop} {ws ws' : va_W} (h : va_D A ws) (e : ws'.map Prod.fst = ws.map Prod.fst) : va_D A ws' := by
  have at' : ∀ (i : Nat) (p : Nat × va_E), ws'[i]? = some p → ∃ p', ws[i]? = some p' ∧ p'.1 = p.1 := by
    intro i p hp
    have h1 : (ws'.map Prod.fst)[i]? = some p.1 := by rw [List.getElem?_map, hp]; rfl
    rw [e, List.getElem?_map] at h1
    cases hw : ws[i]? with
    | none => rw [hw] at h1; cases h1
    | some p' => rw [hw] at h1; exact ⟨p', rfl, Option.some.inj h1⟩
  refine ⟨fun i j p q hp hq hpq => ?_, fun k q hq => ?_⟩
  · obtain ⟨p', hp', ep⟩ := at' i p hp
    obtain ⟨q', hq', eq⟩ := at' j q hq
    exact h.1 i j p' q' hp' hq' (by rw [ep, eq]; exact hpq)
  · obtain ⟨q', hq', eq⟩ := at' k q hq
    rw [← eq]
    exact h.2 k q' hq'
theorem x_mapAt {α : Type} {is : List Nat} {f g : Nat → α} (h : is.map f = is.map g) {k : Nat} (hk : k ∈ is) : f k = g k := by
  obtain ⟨j, hj⟩ := List.getElem?_of_mem hk
  have h1 := congrArg (fun l => l[j]?) h
  simp only [List.getElem?_map, hj, Option.map_some] at h1
  exact Option.some.inj h1
theorem XH.after {D : va_G} {A : Nat → Prop} {H0 H H1 : Heap} {ws ws' wc wc' wr : va_W} {as : List Nat} {locs locs1 : List Loc} (h : XH D A H0 ws H locs) {isC isR : List Nat} {n : Nat} (hC : isC.map (fun i => ws[i]?) = wc.map some) (hB : isC.map (fun i => ws'[i]?) = wc'.map some) (ha1 : ws'.map Prod.fst = as) (ha2 : ws.map Prod.fst = as) (hR1 : isR.map (fun i => ws'[i]?) = wr.map some) (hR2 : isR.map (fun i => ws[i]?) = wr.map some) (hn : ws.length = n) (hcov : (List.range n).all (fun k => isC.contains k || isR.contains k) = true)
    (hk : ∀ q : Nat, q < H.size → ¬ va_A wc H.size q → H1[q]? = H[q]?) (hP1 : va_P D vwCl wc' H1) (hS1 : va_S A H0 H1 locs1) : XH D A H0 ws' H1 locs1 := by
  obtain ⟨hP, hD, hS, hA⟩ := h
  have ha := ha1.trans ha2.symm
  have hR := hR1.trans hR2.symm
  refine ⟨fun k q hq => ?_, hD.addr ha, hS1, hA⟩
  have hlt : k < n := by
    have h1 : k < ws'.length := (List.getElem?_eq_some_iff.mp hq).1
    have h2 := congrArg List.length ha
    simp only [List.length_map] at h2
    omega
  have hcv := List.all_eq_true.mp hcov k (List.mem_range.mpr hlt)
  by_cases hkC : k ∈ isC
  · obtain ⟨j, hj⟩ := List.getElem?_of_mem hkC
    have h1 : (isC.map (fun i => ws'[i]?))[j]? = some (some q) := by rw [List.getElem?_map, hj]; simp [hq]
    rw [hB, List.getElem?_map] at h1
    cases hw : wc'[j]? with
    | none => rw [hw] at h1; cases h1
    | some q' =>
      rw [hw] at h1
      have h2 : q' = q := Option.some.inj (Option.some.inj h1)
      subst h2
      exact hP1 j q' hw
  · have hkR : k ∈ isR := by
      rcases Bool.or_eq_true_iff.mp hcv with h1 | h1
      · exact absurd (List.contains_iff_mem.mp h1) hkC
      · exact List.contains_iff_mem.mp h1
    have h1 : ws[k]? = some q := (x_mapAt hR hkR).symm.trans hq
    have hl := (hP k q h1).lt
    refine (hP k q h1).kept (hk q.1 hl fun h3 => ?_)
    rcases h3 with ⟨k2, e2, h3⟩ | h3
    · have h4 : (isC.map (fun i => ws[i]?))[k2]? = some (some (q.1, e2)) := by rw [hC, List.getElem?_map, h3]; rfl
      rw [List.getElem?_map] at h4
      cases hi : isC[k2]? with
      | none => rw [hi] at h4; cases h4
      | some i =>
        rw [hi] at h4
        have h5 : ws[i]? = some (q.1, e2) := Option.some.inj h4
        have h6 := hD.1 k i q (q.1, e2) h1 h5 rfl
        subst h6
        exact hkC (List.mem_of_getElem? hi)
    · omega
theorem XH.cut {D : va_G} {A : Nat → Prop} {H0 H : Heap} {ws wc : va_W} {locs : List Loc} (h : XH D A H0 ws H locs) (isC : List Nat) (hC : isC.map (fun i => ws[i]?) = wc.map some) (hn : va_nd isC = true) : va_P D vwCl wc H ∧ va_D (fun _ => True) wc ∧ ∀ q, va_A wc H.size q → A q := by
  obtain ⟨hP, hD, hS, hA⟩ := h
  refine ⟨hP.sub isC ?_, (hD.sub isC hn hC).weaken (fun _ _ _ _ => trivial), va_free hD hS hA isC hC⟩
  have h1 : isC.filterMap (fun i => ws[i]?) = (isC.map (fun i => ws[i]?)).filterMap id := by rw [List.filterMap_map]; rfl
  rw [h1, hC, List.filterMap_map]
  simp
