/-! THE CLAIM OUT OF ONE WALK OF THE LAW'S BODY. Your part is whole_start (and what it stands on); all else here is the same for every law, but numbers. -/
def R_law : String := "GlassPlannerLaw"
def lw_P (b : Addr) (xs : List Int32) (args : Array Value) (s : State) : Prop := args = #[.ref b] ∧ s.IntsAt b xs ∧ xs.length ≤ 2048 ∧ (Jvm.Cond.and given_1 narrow_1).before args s = true
def lw_Q (_ : Array Value) (s : State) (o : Outcome) (t : State) : Prop := o = .returned (some (.int 1)) ∧ Framed s o t [] 600000 7302250
def lw_Z (below : List Frame) (a : Array Value) (s : State) : State → Prop := fun t => ∃ o, t.status = .running ∧ Ended t below o ∧ lw_Q a s o t
/-- the law's own end, with 1 on the stack, nothing written that was there before, its room as the claim has it -/
theorem lw_ret {p : Program} {l : Launch} {e : Env} {s : State} {m : MethodId} {below : List Frame} {meth : Method} {c : Code} {b : Nat} (hx : p.tables.exec = Jvm.exec) (hb : c.code = code) (hr : meth.sig.returnType = ret) (hlocks : meth.locks = false) {pc : Nat} {H : Heap} {ls : Array Slot} (hdg : decode code pc = .ok (.ireturn, 1)) : W p l e room_1 s m #[Value.ref b] below meth c H [] 600000 7302250 (lw_Z below #[Value.ref b] s) (F0 m pc ls [.int 1]) := by
  intro T hT X
  obtain ⟨fs, hret, hrun, hended, hW, hframe⟩ := X.leave (v := some (.int 1)) (hlocks := hlocks) (fun h => by rw [hr] at h; cases h)
  have hmeth' : T.vm.method? m = some meth := X.method'
  refine ⟨T.setFrames fs, ?_, .returned (some (.int 1)), hrun, hended, rfl, ⟨_, rfl⟩, hW, hframe⟩
  jvm_step X.here [X.here.top, hx, hb, hdg, hmeth', hr, ret, narrow_b1]
  (try refine ⟨rfl, ?_⟩); (try refine ⟨rfl, ?_⟩)
  first | (intro acts; rw [hret _ acts rfl rfl rfl]) | rw [hret _ _ rfl rfl rfl]
  exact Steps.refl _
/-- what holds at the law's entry: the machine, the code, the tables' words (any of lw_tbl by 'hts w (by decide +kernel)'), the script of L ints xs at the cell b, what the Statement gives of the start (any of its parts by flat_of_before) -/
def lw_At (p : Program) (s : State) (m : MethodId) (meth : Method) (c : Code) (b L : Nat) (xs : Nat → Int32) : Prop :=
  p.tables.exec = Jvm.exec ∧ c.code = code ∧ meth.sig.returnType = ret ∧ c.maxLocals = 4 ∧ s.vm.findClass R_law = some m.cls ∧ (∀ w ∈ lw_tbl, w.before #[Value.ref b] s = true) ∧ va_X b L xs s s.heap ∧ b < s.heap.size ∧ meth.locks = false ∧ (Jvm.Cond.and given_1 narrow_1).before #[Value.ref b] s = true

def find0 (N : Nat) : Option (BitVec 64 × BitVec 64 × BitVec 64 × Int × (Int → BitVec 64) × (Int → BitVec 64)) := f_pa_find N 3 3 0#64 0#64 (fun _ => 0) 0#64 0#64 0#64 0 (fun _ => 0#64) (fun _ => 0#64)
def g0 (q : BitVec 64 × BitVec 64 × BitVec 64 × Int × (Int → BitVec 64) × (Int → BitVec 64)) : GSt := (0, (fun _ => 0), 3, 3, 0#64, 0#64, 12, 1, (fun _ => 0), 0, 0, (fun _ => 3), (fun _ => 3), (fun _ => 0#64), (fun _ => 0#64), (fun _ => 12), (fun _ => 1), (fun _ _ => 0), q.1, q.2.1, q.2.2.1, q.2.2.2.1, q.2.2.2.2.1, q.2.2.2.2.2, (-1), 0#64, 0, 0, 0, 0, (fun _ => 0), (fun _ => 0), (fun _ => 0), (fun _ => 0))
def m0 : MSt := (0, 0, 0, 0, 0, 0, 0, 0, 0, (upi (upi (upi (upi (fun _ => 0) 0 3) 1 3) 2 12) 3 1), (fun _ => 0), (fun _ => 0), (fun _ => 0), (fun _ => 0), (fun _ => 0), (fun _ => 0), (fun _ => 0), (fun _ => 0), (fun _ => 0), (fun _ => 0), (fun _ => 0), (fun _ => 0), (fun _ => 0), (fun _ => 0), (fun _ => 0), (fun _ => 0), (fun _ => 0))
set_option maxHeartbeats 8000000 in
set_option maxRecDepth 100000 in
theorem whole_start_of {p : Program} {e : Env} {s : State} {m : MethodId} {below : List Frame} {meth : Method} {c : Code} (l : Launch) {bs L : Nat} {xs : Nat → Int32} (hL : L ≤ 2048) (C0 : lw_At p s m meth c bs L xs) (N : Nat) (Inv : GSt → MSt → Prop) (h0 : AllSteps_0 N Inv) (h1 : AllSteps_1 N Inv) (h2 : AllSteps_2 N Inv) (h3 : AllSteps_3 N Inv) (q : BitVec 64 × BitVec 64 × BitVec 64 × Int × (Int → BitVec 64) × (Int → BitVec 64)) (hq : find0 N = some q) (hI : Inv (g0 q) m0) : W p l e room_1 s m #[Value.ref bs] below meth c s.heap [] 0 0 (lw_Z below #[Value.ref bs] s) (entryFrame m ([Value.ref bs] : List Value).toArray 4) := by
  obtain ⟨hx, hb, hr, hml, hown, hts, hX, hbl, hlocks, hgv⟩ := id C0
  obtain ⟨c0, iS0, hKn0⟩ := u_known (C := RX1) (T := TX1) (N := 3) (n := 3) hts (fun w hw => tt_in (in_X1 w hw)) (hts _ (tt_in wn_X1))
  obtain ⟨c1, iS1, hKn1⟩ := u_known (C := RX2) (T := TX2) (N := 7) (n := 7) hts (fun w hw => tt_in (in_X2 w hw)) (hts _ (tt_in wn_X2))
  obtain ⟨c2, iS2, hKn2⟩ := u_known (C := RX3) (T := TX3) (N := 3) (n := 3) hts (fun w hw => tt_in (in_X3 w hw)) (hts _ (tt_in wn_X3))
  obtain ⟨c3, iS3, hKn3⟩ := u_known (C := RX4) (T := TX4) (N := 7) (n := 7) hts (fun w hw => tt_in (in_X4 w hw)) (hts _ (tt_in wn_X4))
  obtain ⟨c4, iS4, hKn4⟩ := u_known (C := RX5) (T := TX5) (N := 9) (n := 9) hts (fun w hw => tt_in (in_X5 w hw)) (hts _ (tt_in wn_X5))
  obtain ⟨c5, iS5, hKn5⟩ := u_known (C := RX6) (T := TX6) (N := 2) (n := 2) hts (fun w hw => tt_in (in_X6 w hw)) (hts _ (tt_in wn_X6))
  obtain ⟨c6, iS6, hKn6⟩ := u_known (C := RX7) (T := TX7) (N := 6) (n := 6) hts (fun w hw => tt_in (in_X7 w hw)) (hts _ (tt_in wn_X7))
  obtain ⟨c7, iS7, hKn7⟩ := u_known (C := RX8) (T := TX8) (N := 27) (n := 27) hts (fun w hw => tt_in (in_X8 w hw)) (hts _ (tt_in wn_X8))
  obtain ⟨dC, dI, hKc⟩ : ∃ (dC : Nat → ClassId) (dI : Nat → Nat → Nat), ∀ (k : Nat) (q : vw_C), vwCl[k]? = some q → u_Kn s q.1 q.2.1 q.2.2 (dC k) (dI k) := by
    refine ⟨fun k => match k with | 0 => c0 | 1 => c1 | 2 => c2 | 3 => c3 | 4 => c4 | 5 => c5 | 6 => c6 | _ => c7, fun k => match k with | 0 => iS0 | 1 => iS1 | 2 => iS2 | 3 => iS3 | 4 => iS4 | 5 => iS5 | 6 => iS6 | _ => iS7, ?_⟩
    intro k q hq
    match k, hq with
    | 0, hq => cases hq; exact hKn0
    | 1, hq => cases hq; exact hKn1
    | 2, hq => cases hq; exact hKn2
    | 3, hq => cases hq; exact hKn3
    | 4, hq => cases hq; exact hKn4
    | 5, hq => cases hq; exact hKn5
    | 6, hq => cases hq; exact hKn6
    | 7, hq => cases hq; exact hKn7
    | k + 8, hq => simp [vwCl] at hq
  obtain ⟨cI, kcI, pcI, fcI, ncI, dcI⟩ := Cond.arrayClass_spec (hts _ (tt_in wa_int))
  obtain ⟨cJ, kcJ, pcJ, fcJ, ncJ, dcJ⟩ := Cond.arrayClass_spec (hts _ (tt_in wa_long))
  obtain ⟨cZ, kcZ, pcZ, fcZ, ncZ, dcZ⟩ := Cond.arrayClass_spec (hts _ (tt_in wa_boolean))
  obtain ⟨pO, cO, kO, fO, -, nO, dO, eO⟩ := Cond.arrayOver_spec (hts (.arrayOver (.object RX2)) (tt_1 (List.mem_of_getElem? (i := 90) rfl)))
  have hK : va_K (dC, dI) vwCl (xT cI cJ cZ cO) s := by
    refine ⟨hKc, fun k q hk => ?_⟩
    match k, hk with
    | 0, hk => cases hk; exact ⟨fun n z => ⟨fun k h => (by cases h), kcI, ncI, pcI, dcI⟩, fcI⟩
    | 1, hk => cases hk; exact ⟨fun n z => ⟨fun k h => (by cases h), kcJ, ncJ, pcJ, dcJ⟩, fcJ⟩
    | 2, hk => cases hk; exact ⟨fun n z => ⟨fun k h => (by cases h), kcZ, ncZ, pcZ, dcZ⟩, fcZ⟩
    | 3, hk => cases hk; exact ⟨fun n z => ⟨fun k h => (by cases h), kO, nO, pO, dO⟩, kO, pO, nO, dO, fO, eO⟩
    | k + 4, hk => simp [xT] at hk
  have hE : EX s := ⟨va_Nw.of rfl (hts _ (tt_1 (List.mem_of_getElem? (i := 23) rfl))), va_Nw.of rfl (hts _ (tt_1 (List.mem_of_getElem? (i := 38) rfl))), va_Nw.of rfl (hts _ (tt_1 (List.mem_of_getElem? (i := 91) rfl))), va_AO.of (hts _ (tt_1 (List.mem_of_getElem? (i := 90) rfl)))⟩
  have C : XC p s m #[Value.ref bs] c cL_law 4 RL (Cond.initialized RX0) (dC, dI) (xT cI cJ cZ cO) := ⟨⟨hx, hb, hml, hown, fun w hw => hts w (tt_in ((List.mem_cons.mp hw).elim (fun e => e ▸ wi_X0) id))⟩, hK⟩
  have h : XH (dC, dI) (fun q : Nat => s.heap.size ≤ q) s.heap [] s.heap [] := ⟨fun k q h => by simp at h, ⟨fun i j p q h => by simp at h, fun k q h => by simp at h⟩, va_S.rf, fun _ h => h⟩
  have hbA : ¬ (fun q : Nat => s.heap.size ≤ q) bs := Nat.not_le.mpr hbl
  have hl := lv_entry ([.ref bs]) (n := 4) (Nat.le_of_ble_eq_true rfl)
  rw [lg_entry_eq]
  generalize (lg_sl ([.ref bs]) ++ List.replicate (4 - (lg_sl ([.ref bs])).length) Slot.unset).toArray = ls at hl ⊢
  have hl : lv_has ls 4 [(0, .ref bs)] := hl
  generalize hlocs : ([] : List Loc) = locs at h ⊢
  refine x_new C h (pc := 0) (ci := 6) (fs := [.null, .null, .null, .null, .null, .null]) xp_X7 in_X7 wc_L_7 wn_X7 wi_X7 rfl (fun j hj => by rcases (show j = 0 ∨ j = 1 ∨ j = 2 ∨ j = 3 ∨ j = 4 ∨ j = 5 by omega) with rfl | rfl | rfl | rfl | rfl | rfl <;> rfl) (Nat.le_of_ble_eq_true rfl) (Nat.le_of_ble_eq_true rfl) dL_law_0 (fun q0 H h => ?_)
  have h : XH (dC, dI) (fun q : Nat => s.heap.size ≤ q) s.heap [(q0, .inr (6, [.null, .null, .null, .null, .null, .null]))] H locs := h
  refine lv_dup hx hb (pc := 3) dL_law_3 rfl ?_
  refine x_callN C h hE (pc := 4) hl (c_gp_init l (dC, dI) cI cJ cZ cO q0 N q hq) xi_X7_init lk_L_9 ⟨(Nat.le_of_ble_eq_true rfl), (Nat.le_of_ble_eq_true rfl)⟩ rfl ⟨(Nat.le_of_ble_eq_true rfl), (Nat.le_of_ble_eq_true rfl)⟩ [0] [] (wr := []) rfl rfl rfl rfl (by decide) rfl (Nat.le_of_ble_eq_true rfl) dL_law_4 (fun b H locs hb0 hw => ?_)
  subst hb0
  have h : XH (dC, dI) (fun q : Nat => s.heap.size ≤ q) s.heap [((b 0), oG b), ((b 1), oT b 0), ((b 2), aI cI 80 (fun _ => 0)), ((b 3), oD (b 4) 3 3 (0#64) (0#64) 12 1), ((b 4), aI cI 56 (fun _ => 0)), ((b 5), oH b 0 0), ((b 6), aK cO b), (b 16, oD (b 24) ((fun _ => 3) 0) ((fun _ => 3) 0) ((fun _ => 0#64) 0) ((fun _ => 0#64) 0) ((fun _ => 12) 0) ((fun _ => 1) 0)), (b 17, oD (b 25) ((fun _ => 3) 1) ((fun _ => 3) 1) ((fun _ => 0#64) 1) ((fun _ => 0#64) 1) ((fun _ => 12) 1) ((fun _ => 1) 1)), (b 18, oD (b 26) ((fun _ => 3) 2) ((fun _ => 3) 2) ((fun _ => 0#64) 2) ((fun _ => 0#64) 2) ((fun _ => 12) 2) ((fun _ => 1) 2)), (b 19, oD (b 27) ((fun _ => 3) 3) ((fun _ => 3) 3) ((fun _ => 0#64) 3) ((fun _ => 0#64) 3) ((fun _ => 12) 3) ((fun _ => 1) 3)), (b 20, oD (b 28) ((fun _ => 3) 4) ((fun _ => 3) 4) ((fun _ => 0#64) 4) ((fun _ => 0#64) 4) ((fun _ => 12) 4) ((fun _ => 1) 4)), (b 21, oD (b 29) ((fun _ => 3) 5) ((fun _ => 3) 5) ((fun _ => 0#64) 5) ((fun _ => 0#64) 5) ((fun _ => 12) 5) ((fun _ => 1) 5)), (b 22, oD (b 30) ((fun _ => 3) 6) ((fun _ => 3) 6) ((fun _ => 0#64) 6) ((fun _ => 0#64) 6) ((fun _ => 12) 6) ((fun _ => 1) 6)), (b 23, oD (b 31) ((fun _ => 3) 7) ((fun _ => 3) 7) ((fun _ => 0#64) 7) ((fun _ => 0#64) 7) ((fun _ => 12) 7) ((fun _ => 1) 7)), (b 24, aI cI 56 ((fun _ _ => 0) 0)), (b 25, aI cI 56 ((fun _ _ => 0) 1)), (b 26, aI cI 56 ((fun _ _ => 0) 2)), (b 27, aI cI 56 ((fun _ _ => 0) 3)), (b 28, aI cI 56 ((fun _ _ => 0) 4)), (b 29, aI cI 56 ((fun _ _ => 0) 5)), (b 30, aI cI 56 ((fun _ _ => 0) 6)), (b 31, aI cI 56 ((fun _ _ => 0) 7)), ((b 7), oP b q.1 q.2.1 q.2.2.1 q.2.2.2.1), ((b 8), aJ cJ 49 q.2.2.2.2.1), ((b 9), aJ cJ 49 q.2.2.2.2.2), ((b 10), oS b (-1) (0#64) 0 0 0 0), ((b 11), aI cI 784 (fun _ => 0)), ((b 12), aI cI 784 (fun _ => 0)), ((b 13), oC b), ((b 14), aI cI 49 (fun _ => 0)), ((b 15), aI cI 49 (fun _ => 0))] H locs := hw
  refine lv_astore_n hx hb (pc := 7) (lv' := [(1, .ref (b 0)), (0, .ref bs)]) dL_law_7 rfl hl (Nat.le_of_ble_eq_true rfl) rfl (fun ls hl => ?_)
  refine x_new C h (pc := 8) (ci := 7) (fs := [.null, .null, iv 0, .null, iv 0, iv 0, iv 0, .null, iv 0, iv 0, iv 0, iv 0, .null, iv 0, .null, .null, .null, .null, .null, .null, .null, .null, .null, .null, .null, .null, .null]) xp_X8 in_X8 wc_L_10 wn_X8 wi_X8 rfl (fun j hj => by rcases (show j = 0 ∨ j = 1 ∨ j = 2 ∨ j = 3 ∨ j = 4 ∨ j = 5 ∨ j = 6 ∨ j = 7 ∨ j = 8 ∨ j = 9 ∨ j = 10 ∨ j = 11 ∨ j = 12 ∨ j = 13 ∨ j = 14 ∨ j = 15 ∨ j = 16 ∨ j = 17 ∨ j = 18 ∨ j = 19 ∨ j = 20 ∨ j = 21 ∨ j = 22 ∨ j = 23 ∨ j = 24 ∨ j = 25 ∨ j = 26 by omega) with rfl | rfl | rfl | rfl | rfl | rfl | rfl | rfl | rfl | rfl | rfl | rfl | rfl | rfl | rfl | rfl | rfl | rfl | rfl | rfl | rfl | rfl | rfl | rfl | rfl | rfl | rfl <;> rfl) (Nat.le_of_ble_eq_true rfl) (Nat.le_of_ble_eq_true rfl) dL_law_8 (fun q8 H h => ?_)
  have h : XH (dC, dI) (fun q : Nat => s.heap.size ≤ q) s.heap [((b 0), oG b), ((b 1), oT b 0), ((b 2), aI cI 80 (fun _ => 0)), ((b 3), oD (b 4) 3 3 (0#64) (0#64) 12 1), ((b 4), aI cI 56 (fun _ => 0)), ((b 5), oH b 0 0), ((b 6), aK cO b), (b 16, oD (b 24) ((fun _ => 3) 0) ((fun _ => 3) 0) ((fun _ => 0#64) 0) ((fun _ => 0#64) 0) ((fun _ => 12) 0) ((fun _ => 1) 0)), (b 17, oD (b 25) ((fun _ => 3) 1) ((fun _ => 3) 1) ((fun _ => 0#64) 1) ((fun _ => 0#64) 1) ((fun _ => 12) 1) ((fun _ => 1) 1)), (b 18, oD (b 26) ((fun _ => 3) 2) ((fun _ => 3) 2) ((fun _ => 0#64) 2) ((fun _ => 0#64) 2) ((fun _ => 12) 2) ((fun _ => 1) 2)), (b 19, oD (b 27) ((fun _ => 3) 3) ((fun _ => 3) 3) ((fun _ => 0#64) 3) ((fun _ => 0#64) 3) ((fun _ => 12) 3) ((fun _ => 1) 3)), (b 20, oD (b 28) ((fun _ => 3) 4) ((fun _ => 3) 4) ((fun _ => 0#64) 4) ((fun _ => 0#64) 4) ((fun _ => 12) 4) ((fun _ => 1) 4)), (b 21, oD (b 29) ((fun _ => 3) 5) ((fun _ => 3) 5) ((fun _ => 0#64) 5) ((fun _ => 0#64) 5) ((fun _ => 12) 5) ((fun _ => 1) 5)), (b 22, oD (b 30) ((fun _ => 3) 6) ((fun _ => 3) 6) ((fun _ => 0#64) 6) ((fun _ => 0#64) 6) ((fun _ => 12) 6) ((fun _ => 1) 6)), (b 23, oD (b 31) ((fun _ => 3) 7) ((fun _ => 3) 7) ((fun _ => 0#64) 7) ((fun _ => 0#64) 7) ((fun _ => 12) 7) ((fun _ => 1) 7)), (b 24, aI cI 56 ((fun _ _ => 0) 0)), (b 25, aI cI 56 ((fun _ _ => 0) 1)), (b 26, aI cI 56 ((fun _ _ => 0) 2)), (b 27, aI cI 56 ((fun _ _ => 0) 3)), (b 28, aI cI 56 ((fun _ _ => 0) 4)), (b 29, aI cI 56 ((fun _ _ => 0) 5)), (b 30, aI cI 56 ((fun _ _ => 0) 6)), (b 31, aI cI 56 ((fun _ _ => 0) 7)), ((b 7), oP b q.1 q.2.1 q.2.2.1 q.2.2.2.1), ((b 8), aJ cJ 49 q.2.2.2.2.1), ((b 9), aJ cJ 49 q.2.2.2.2.2), ((b 10), oS b (-1) (0#64) 0 0 0 0), ((b 11), aI cI 784 (fun _ => 0)), ((b 12), aI cI 784 (fun _ => 0)), ((b 13), oC b), ((b 14), aI cI 49 (fun _ => 0)), ((b 15), aI cI 49 (fun _ => 0)), (q8, .inr (7, [.null, .null, iv 0, .null, iv 0, iv 0, iv 0, .null, iv 0, iv 0, iv 0, iv 0, .null, iv 0, .null, .null, .null, .null, .null, .null, .null, .null, .null, .null, .null, .null, .null]))] H locs := h
  refine lv_dup hx hb (pc := 11) dL_law_11 rfl ?_
  refine x_callN C h hE (pc := 12) hl (c_mo_init l (dC, dI) cI cJ cZ cO q8) xi_X8_init lk_L_12 ⟨(Nat.le_of_ble_eq_true rfl), (Nat.le_of_ble_eq_true rfl)⟩ rfl ⟨(Nat.le_of_ble_eq_true rfl), (Nat.le_of_ble_eq_true rfl)⟩ [32] [0, 1, 2, 3, 4, 5, 6, 7, 8, 9, 10, 11, 12, 13, 14, 15, 16, 17, 18, 19, 20, 21, 22, 23, 24, 25, 26, 27, 28, 29, 30, 31] (wr := [((b 0), oG b), ((b 1), oT b 0), ((b 2), aI cI 80 (fun _ => 0)), ((b 3), oD (b 4) 3 3 (0#64) (0#64) 12 1), ((b 4), aI cI 56 (fun _ => 0)), ((b 5), oH b 0 0), ((b 6), aK cO b), (b 16, oD (b 24) ((fun _ => 3) 0) ((fun _ => 3) 0) ((fun _ => 0#64) 0) ((fun _ => 0#64) 0) ((fun _ => 12) 0) ((fun _ => 1) 0)), (b 17, oD (b 25) ((fun _ => 3) 1) ((fun _ => 3) 1) ((fun _ => 0#64) 1) ((fun _ => 0#64) 1) ((fun _ => 12) 1) ((fun _ => 1) 1)), (b 18, oD (b 26) ((fun _ => 3) 2) ((fun _ => 3) 2) ((fun _ => 0#64) 2) ((fun _ => 0#64) 2) ((fun _ => 12) 2) ((fun _ => 1) 2)), (b 19, oD (b 27) ((fun _ => 3) 3) ((fun _ => 3) 3) ((fun _ => 0#64) 3) ((fun _ => 0#64) 3) ((fun _ => 12) 3) ((fun _ => 1) 3)), (b 20, oD (b 28) ((fun _ => 3) 4) ((fun _ => 3) 4) ((fun _ => 0#64) 4) ((fun _ => 0#64) 4) ((fun _ => 12) 4) ((fun _ => 1) 4)), (b 21, oD (b 29) ((fun _ => 3) 5) ((fun _ => 3) 5) ((fun _ => 0#64) 5) ((fun _ => 0#64) 5) ((fun _ => 12) 5) ((fun _ => 1) 5)), (b 22, oD (b 30) ((fun _ => 3) 6) ((fun _ => 3) 6) ((fun _ => 0#64) 6) ((fun _ => 0#64) 6) ((fun _ => 12) 6) ((fun _ => 1) 6)), (b 23, oD (b 31) ((fun _ => 3) 7) ((fun _ => 3) 7) ((fun _ => 0#64) 7) ((fun _ => 0#64) 7) ((fun _ => 12) 7) ((fun _ => 1) 7)), (b 24, aI cI 56 ((fun _ _ => 0) 0)), (b 25, aI cI 56 ((fun _ _ => 0) 1)), (b 26, aI cI 56 ((fun _ _ => 0) 2)), (b 27, aI cI 56 ((fun _ _ => 0) 3)), (b 28, aI cI 56 ((fun _ _ => 0) 4)), (b 29, aI cI 56 ((fun _ _ => 0) 5)), (b 30, aI cI 56 ((fun _ _ => 0) 6)), (b 31, aI cI 56 ((fun _ _ => 0) 7)), ((b 7), oP b q.1 q.2.1 q.2.2.1 q.2.2.2.1), ((b 8), aJ cJ 49 q.2.2.2.2.1), ((b 9), aJ cJ 49 q.2.2.2.2.2), ((b 10), oS b (-1) (0#64) 0 0 0 0), ((b 11), aI cI 784 (fun _ => 0)), ((b 12), aI cI 784 (fun _ => 0)), ((b 13), oC b), ((b 14), aI cI 49 (fun _ => 0)), ((b 15), aI cI 49 (fun _ => 0))]) rfl rfl rfl rfl (by decide) rfl (Nat.le_of_ble_eq_true rfl) dL_law_12 (fun a H locs ha0 hw => ?_)
  subst ha0
  have h : XH (dC, dI) (fun q : Nat => s.heap.size ≤ q) s.heap (wS cI cJ cZ cO b a (g0 q) m0) H locs := hw
  refine lv_astore_n hx hb (pc := 15) (lv' := [(2, .ref (a 0)), (1, .ref (b 0)), (0, .ref bs)]) dL_law_15 rfl hl (Nat.le_of_ble_eq_true rfl) rfl (fun ls hl => ?_)
  refine x_iconst C (pc := 16) dL_law_16 ?_
  refine lv_istore_n hx hb (pc := 17) (lv' := [(3, iv 0), (2, .ref (a 0)), (1, .ref (b 0)), (0, .ref bs)]) dL_law_17 rfl hl (Nat.le_of_ble_eq_true rfl) rfl (fun ls hl => ?_)
  refine law_loop C hX hbl hbA hL N Inv h0 h1 h2 h3 a b ?_ (L + 1) 0 (g0 q) m0 ls H locs (by omega) (by omega) hI (lv_sub hl [3, 2, 1, 0] rfl) h
  intro ls H locs ws h
  refine lv_iconst (v := 1) hx hb (pc := 851) dL_law_851 (by decide) ?_
  refine va_forget (fun q hq => h.2.2.1.2.2 q hq) ?_
  refine W.widen (k := 600000) (n := 7302250) (Nat.le_of_ble_eq_true rfl) (Nat.le_of_ble_eq_true rfl) ?_
  exact lw_ret hx hb hr hlocks dL_law_852
