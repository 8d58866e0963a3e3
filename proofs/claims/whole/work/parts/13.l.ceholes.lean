/-! ===== PURE: the component's count of holes ===== -/
theorem rch_from {E : Nat → Nat → Prop} {S : Nat → Prop} {b : Nat} (h : Rch E S b) : ∃ a, S a ∧ Rch E (fun z => z = a) b :=
  h.ind (fun b => ∃ a, S a ∧ Rch E (fun z => z = a) b) (fun a ha => ⟨a, ha, Rch.start rfl⟩) (fun _ _ _ ⟨a, ha, hr⟩ hE => ⟨a, ha, hr.step hE⟩)
/-- the others, as bits -/
def OB (R C : Nat) (S : Nat → Bool) (o : BitVec 64) : Prop := (R ≤ 7 ∧ C ≤ 7) ∧ Grid o ∧ ∀ u, u < 49 → (o.getLsbD (eb u) = true ↔ oth R C S u)
theorem ob_fwd {R C : Nat} {S : Nat → Bool} {o : BitVec 64} (h : OB R C S o) {u v : Nat} (hu : oth R C S u) (hr : Rch (EH R C S) (fun a => a = u) v) : Rch (EP EK o) (fun a => a = eb u) (eb v) := by
  refine hr.ind (fun z => Rch (EP EK o) (fun a => a = eb u) (eb z)) (fun a ha => by rw [ha]; exact Rch.start rfl) (fun x y hx hT hE => ?_)
  have hox := eh_in hu hx
  by_cases hxy : x = y
  · rw [← hxy]; exact hT
  · refine hT.step ⟨?_, (h.2.2 y hE.2.1).mpr hE.2⟩
    have h1 := hE.1
    have h2 := eb_rc x
    have h3 := eb_rc y
    have h4 := hE.2.1
    have h5 := hox.1
    unfold EK
    omega
theorem ob_bwd {R C : Nat} {S : Nat → Bool} {o : BitVec 64} (h : OB R C S o) {u : Nat} (hu : oth R C S u) {b : Nat} (hr : Rch (EP EK o) (fun a => a = eb u) b) : ∃ v, b = eb v ∧ Rch (EH R C S) (fun a => a = u) v := by
  refine hr.ind (fun z => ∃ v, z = eb v ∧ Rch (EH R C S) (fun a => a = u) v) (fun a ha => ⟨u, ha, Rch.start rfl⟩) (fun x y hx hT hE => ?_)
  obtain ⟨v, rfl, hv⟩ := hT
  have hov := eh_in hu hv
  obtain ⟨w, hw, rfl⟩ := eb_of (h.2.1 y hE.2)
  refine ⟨w, rfl, hv.step ⟨?_, (h.2.2 w hw).mp hE.2⟩⟩
  have h1 := hE.1
  have h2 := eb_rc v
  have h3 := eb_rc w
  have h5 := hov.1
  unfold EK at h1
  omega
theorem ob_iff {R C : Nat} {S : Nat → Bool} {o : BitVec 64} (h : OB R C S o) {u v : Nat} (hu : oth R C S u) : Rch (EP EK o) (fun a => a = eb u) (eb v) ↔ Rch (EH R C S) (fun a => a = u) v := by
  constructor
  · intro hr
    obtain ⟨w, hw, hr2⟩ := ob_bwd h hu hr
    rw [eb_inj hw]; exact hr2
  · exact ob_fwd h hu
noncomputable def rootsIn (R C : Nat) (S : Nat → Bool) (left : BitVec 64) : Int := cntB (fun u => left.getLsbD (eb u) && isT (∀ t, Rch (EH R C S) (fun a => a = u) t → u ≤ t)) 49
theorem eb_le {u v : Nat} (h : eb u ≤ eb v) : u ≤ v := by unfold eb at h; omega
theorem ce_holes_loop {N R C : Nat} (hN : 4000 ≤ N) {S : Nat → Bool} {o : BitVec 64} (ho : OB R C S o) :
    ∀ (n i : Nat) (left : BitVec 64) (cnt : Int), i ≤ 49 → 49 < n + i → (i : Int) + popc left ≤ 49 → (∀ j, left.getLsbD j = true → o.getLsbD j = true) → (∀ a b, left.getLsbD a = true → EP EK o a b → left.getLsbD b = true) →
      f_ce_countHoles_59 N n left cnt i = some (cnt + rootsIn R C S left) := by
  intro n
  induction n with
  | zero => intro i left cnt hi hn; omega
  | succ n ih =>
    intro i left cnt hi hn hp hs hc
    have hz : left = 0#64 → rootsIn R C S left = 0 := fun hl => by
      unfold rootsIn
      refine cntB_f (fun u _ => ?_)
      rw [hl, gl_zero]; rfl
    have hpn := popc_nn left
    rw [f_ce_countHoles_59.eq_2, og_pos (by omega)]
    by_cases hend : i = 49
    · rw [if_pos (by omega), hz (popc_zero.mp (by omega))]; simp
    · rw [if_neg (by omega)]
      by_cases hl : left = 0#64
      · rw [if_pos hl, hz hl]; simp
      · rw [if_neg hl]
        obtain ⟨i0, hi0, hf⟩ := isF_ex hl
        have ho0 := hs i0 hf.1
        obtain ⟨u0, hu0, he0⟩ := eb_of (ho.2.1 i0 ho0)
        have hou0 : oth R C S u0 := (ho.2.2 u0 hu0).mp (by rw [he0]; exact ho0)
        obtain ⟨r, hr1, hr2⟩ := f_connected hN (start := 1#64 <<< i0) (set := left) (fun j hj => by
          rw [gl_one hi0] at hj; simp at hj; rw [hj]; exact hf.1) (ho.2.1.sub hs)
        rw [f_first hf, bd_some, hr1, bd_some, bd_some, bd_some, bd_some]
        -- what is taken away
        have hr3 : ∀ j, r.getLsbD j = true ↔ Rch (EP EK o) (fun a => a = i0) j := by
          intro j
          rw [hr2 j]
          constructor
          · intro h
            exact h.mono (fun a ha => by
              rw [gl_one hi0] at ha; simp at ha; exact Rch.start ha) (fun x y _ hE => ⟨hE.1, hs y hE.2⟩)
          · intro h
            refine (h.ind (fun z => left.getLsbD z = true ∧ Rch (fun a b => EK a b ∧ left.getLsbD b = true) (fun a => (1#64 <<< i0).getLsbD a = true) z) (fun a ha => ?_) (fun x y _ hT hE => ?_)).2
            · rw [ha]; exact ⟨hf.1, Rch.start (by rw [gl_one hi0]; simp)⟩
            · have hy := hc x y hT.1 hE
              exact ⟨hy, hT.2.step ⟨hE.1, hy⟩⟩
        have hr4 : ∀ j, r.getLsbD j = true → left.getLsbD j = true := fun j hj =>
          ((hr3 j).mp hj).ind (fun z => left.getLsbD z = true) (fun a ha => by rw [ha]; exact hf.1) (fun x y _ hT hE => hc x y hT hE)
        have hr0 : r.getLsbD i0 = true := (hr3 i0).mpr (Rch.start rfl)
        have hleft : ∀ j, (left &&& (r ^^^ 18446744073709551615#64)).getLsbD j = (left.getLsbD j && !r.getLsbD j) := by
          intro j
          rw [gl_and]
          by_cases hj : j < 64
          · rw [gl_not _ hj]
          · rw [gl_big (x := left) (by omega)]; rfl
        have hcnt : rootsIn R C S left = rootsIn R C S (left &&& (r ^^^ 18446744073709551615#64)) + 1 := by
          unfold rootsIn
          refine cntB_upd (k := u0) hu0 ?_ ?_ ?_
          · rw [hleft, he0, hr0]; simp
          · rw [he0, hf.1, isT_t]
            · rfl
            · intro t ht
              have h1 := ob_fwd ho hou0 ht
              rw [he0] at h1
              have h2 := hr4 _ ((hr3 _).mpr h1)
              apply eb_le
              rw [he0]
              apply Classical.byContradiction
              intro hlt
              rw [hf.2 _ (by omega)] at h2
              cases h2
          · intro v hv hne
            rw [hleft]
            cases hrv : r.getLsbD (eb v) with
            | false => simp
            | true =>
              have hlv := hr4 _ hrv
              rw [hlv]
              have h1 : Rch (EH R C S) (fun a => a = u0) v := by
                rw [← ob_iff ho hou0, he0]
                exact (hr3 _).mp hrv
              have hv0 : u0 ≤ v := by
                apply eb_le
                rw [he0]
                apply Classical.byContradiction
                intro hlt
                rw [hf.2 _ (by omega)] at hlv
                cases hlv
              rw [isT_f (fun hq => by have := hq u0 (eh_symm hou0 h1); omega)]
              rfl
        have hpl : popc (left &&& (r ^^^ 18446744073709551615#64)) + 1 ≤ popc left := by
          refine cntB_lt (k := i0) (fun j _ hj => ?_) hi0 ?_ hf.1
          · rw [hleft] at hj; simp at hj; exact hj.1
          · rw [hleft, hr0]; simp
        rw [show (i : Int) + 1 = ((i + 1 : Nat) : Int) by omega, ih (i + 1) _ (cnt + 1) (by omega) (by omega) (by omega) (fun j hj => ?_) (fun a b ha hE => ?_), hcnt]
        · congr 1; omega
        · rw [hleft] at hj; simp at hj; exact hs j hj.1
        · rw [hleft] at ha ⊢
          simp at ha
          have hb := hc a b ha.1 hE
          rw [hb]
          cases hrb : r.getLsbD b with
          | false => rfl
          | true =>
            have := (hr3 a).mpr (((hr3 b).mp hrb).step ⟨hE.1.symm, hs a ha.1⟩)
            rw [ha.2] at this; cases this
theorem ce_countHoles {N R C : Nat} (hN : 4000 ≤ N) {x all : BitVec 64} (hb : R ≤ 7 ∧ C ≤ 7) (hall : ∀ i, all.getLsbD i = true ↔ i / 8 < R ∧ i % 8 < C) : f_ce_countHoles N x all = some (holeN R C (fun u => x.getLsbD (eb u))) := by
  unfold f_ce_countHoles
  rw [bd_some, bd_some]
  generalize ho : all &&& (x ^^^ 18446744073709551615#64) = o
  generalize hi : (((all &&& (all <<< 1)) &&& (all >>> 1)) &&& (all <<< 8)) &&& (all >>> 8) = inn
  have ho1 : ∀ j, o.getLsbD j = (all.getLsbD j && !x.getLsbD j) := by
    intro j
    rw [← ho, gl_and]
    by_cases hj : j < 64
    · rw [gl_not _ hj]
    · rw [gl_big (x := all) (by omega)]; rfl
  have hOB : OB R C (fun u => x.getLsbD (eb u)) o := by
    refine ⟨hb, fun i hi => ?_, fun u hu => ?_⟩
    · rw [ho1] at hi; simp at hi
      have := (hall i).mp hi.1
      unfold gd; simp; omega
    · have h3 := eb_rc u
      rw [ho1]
      simp only [Bool.and_eq_true, Bool.not_eq_true', hall]
      unfold oth
      rw [h3.1, h3.2.1]
      exact ⟨fun ⟨⟨h1, h2⟩, h4⟩ => ⟨hu, h1, h2, h4⟩, fun ⟨_, h1, h2, h4⟩ => ⟨⟨h1, h2⟩, h4⟩⟩
  have hin : ∀ u, u < 49 → u / 7 < R → u % 7 < C → inn.getLsbD (eb u) = !edg R C u := by
    intro u hu hu1 hu2
    have h3 := eb_rc u
    rw [← hi]
    simp only [gl_and, gl_shl, gl_shr]
    have a0 : all.getLsbD (eb u) = true := (hall _).mpr (by omega)
    have bi : ∀ {p q : Bool}, (p = true ↔ q = true) → p = q := fun {p q} h => by cases p <;> cases q <;> simp_all
    apply bi
    simp only [Bool.and_eq_true, decide_eq_true_eq, hall, Bool.not_eq_true']
    unfold edg
    rw [decide_eq_false_iff_not]
    omega
  obtain ⟨r, hr1, hr2⟩ := f_connected hN (start := o &&& (inn ^^^ 18446744073709551615#64)) (set := o) (fun j hj => by rw [gl_and] at hj; simp at hj; exact hj.1) hOB.2.1
  rw [hr1, bd_some, bd_some]
  have hl : ∀ j, (o &&& (r ^^^ 18446744073709551615#64)).getLsbD j = (o.getLsbD j && !r.getLsbD j) := by
    intro j
    rw [gl_and]
    by_cases hj : j < 64
    · rw [gl_not _ hj]
    · rw [gl_big (x := o) (by omega)]; rfl
  have hg : Grid (o &&& (r ^^^ 18446744073709551615#64)) := hOB.2.1.sub (fun j hj => by rw [hl] at hj; simp at hj; exact hj.1)
  have := ce_holes_loop hN hOB N 0 (o &&& (r ^^^ 18446744073709551615#64)) 0 (by omega) (by omega) (by have := hg.le; omega) (fun j hj => by rw [hl] at hj; simp at hj; exact hj.1) (fun a b ha hE => by
    rw [hl] at ha ⊢
    simp at ha
    rw [hE.2]
    cases hrb : r.getLsbD b with
    | false => rfl
    | true =>
      have := (hr2 a).mpr (((hr2 b).mp hrb).step ⟨hE.1.symm, ha.1⟩)
      rw [ha.2] at this; cases this)
  have e0 : ((0 : Nat) : Int) = 0 := rfl
  rw [e0] at this
  rw [this, Int.zero_add]
  congr 1
  unfold rootsIn holeN
  refine cntB_congr (fun u hu => ?_)
  rw [hl]
  cases hou : o.getLsbD (eb u) with
  | false =>
    rw [isT_f (P := hroot R C _ u) (fun hq => by have := (hOB.2.2 u hu).mpr hq.1; rw [hou] at this; cases this)]
    rfl
  | true =>
    have hot := (hOB.2.2 u hu).mp hou
    have hru : r.getLsbD (eb u) = true ↔ ∃ t, Rch (EH R C (fun u => x.getLsbD (eb u))) (fun a => a = u) t ∧ edg R C t = true := by
      rw [hr2]
      constructor
      · intro h
        obtain ⟨a, ha, hr⟩ := rch_from h
        rw [gl_and] at ha
        simp only [Bool.and_eq_true] at ha
        have h64 := gl_lt ha.1
        rw [gl_not _ h64] at ha
        obtain ⟨w, hw, rfl⟩ := eb_of (hOB.2.1 a ha.1)
        have how := (hOB.2.2 w hw).mp ha.1
        have h5 := (ob_iff hOB how).mp hr
        refine ⟨w, eh_symm how h5, ?_⟩
        have h6 := ha.2
        rw [hin w hw how.2.1 how.2.2.1] at h6
        simpa using h6
      · rintro ⟨t, ht, hte⟩
        have hott := eh_in hot ht
        have hot2 := (hOB.2.2 t hott.1).mpr hott
        have h7 : Rch (EP EK o) (fun a => a = eb t) (eb u) := (ob_iff hOB hott).mpr (eh_symm hot ht)
        refine h7.mono (fun a ha => Rch.start ?_) (fun _ _ _ hE => hE)
        rw [ha, gl_and, gl_not _ (gl_lt hot2), hot2, hin t hott.1 hott.2.1 hott.2.2.1, hte]
        rfl
    cases hrr : r.getLsbD (eb u) with
    | true =>
      obtain ⟨t, ht, hte⟩ := hru.mp hrr
      rw [isT_f (P := hroot R C _ u) (fun hq => by have := (hq.2 t ht).2; rw [hte] at this; cases this)]
      rfl
    | false =>
      have hne : ∀ t, Rch (EH R C (fun u => x.getLsbD (eb u))) (fun a => a = u) t → edg R C t = false := fun t ht => by
        cases hte : edg R C t with
        | false => rfl
        | true => have := hru.mpr ⟨t, ht, hte⟩; rw [hrr] at this; cases this
      show isT _ = isT _
      exact isT_c ⟨fun hq => ⟨hot, fun t ht => ⟨hq t ht, hne t ht⟩⟩, fun hq t ht => (hq.2 t ht).1⟩
/-- a hole lies in eight cells at least -/
theorem cntB_ge {n : Nat} : ∀ (l : List Nat) (p : Nat → Bool), l.Nodup → (∀ x ∈ l, x < n ∧ p x = true) → (l.length : Int) ≤ cntB p n
  | [], p, _, _ => (cntB_nn p n).1
  | x :: l, p, hd, h => by
    obtain ⟨h1, h2⟩ := List.nodup_cons.mp hd
    obtain ⟨h3, h4⟩ := h x (List.mem_cons_self ..)
    have h5 := cntB_ge l (fun i => p i && !decide (i = x)) h2 (fun y hy => by
      obtain ⟨h6, h7⟩ := h y (List.mem_cons_of_mem _ hy)
      refine ⟨h6, ?_⟩
      have : y ≠ x := fun e => h1 (e ▸ hy)
      simp [h7, this])
    have h6 := cntB_upd (p := fun i => p i && !decide (i = x)) (q := p) (k := x) h3 (by simp) h4 (fun i _ hne => by simp [hne])
    rw [List.length_cons]
    omega
theorem hole_eight {R C : Nat} (hb : R ≤ 7 ∧ C ≤ 7) {S : Nat → Bool} {s : Nat} (h : hroot R C S s) : 8 ≤ cntB S 49 := by
  obtain ⟨ho, hr⟩ := h
  have hH : ∀ v, Rch (EH R C S) (fun a => a = s) v → (v < 49 ∧ v / 7 < R ∧ v % 7 < C) ∧ (1 ≤ v / 7 ∧ 1 ≤ v % 7 ∧ v / 7 + 1 < R ∧ v % 7 + 1 < C) := fun v hv => by
    have h1 := eh_in ho hv
    have h2 := (hr v hv).2
    unfold edg at h2
    rw [decide_eq_false_iff_not] at h2
    have := h1.1; have := h1.2.1; have := h1.2.2.1
    omega
  have hS : ∀ v, Rch (EH R C S) (fun a => a = s) v → ∀ w, w < 49 → w / 7 < R → w % 7 < C → (w / 7 ≤ v / 7 + 1 ∧ v / 7 ≤ w / 7 + 1 ∧ w % 7 ≤ v % 7 + 1 ∧ v % 7 ≤ w % 7 + 1) → ¬ Rch (EH R C S) (fun a => a = s) w → S w = true := fun v hv w h1 h2 h3 h4 h5 => by
    cases hw : S w with
    | true => rfl
    | false => exact absurd (hv.step ⟨h4, h1, h2, h3, hw⟩) h5
  obtain ⟨t, ⟨a, ha, hat⟩, hmt⟩ := pk_least (fun k => ∃ v, Rch (EH R C S) (fun a => a = s) v ∧ v / 7 = k) ⟨_, s, Rch.start rfl, rfl⟩
  obtain ⟨b, ⟨d, hd, hdb⟩, hmb⟩ := pk_least (fun k => ∃ v, Rch (EH R C S) (fun a => a = s) v ∧ 7 - v / 7 = k) ⟨_, s, Rch.start rfl, rfl⟩
  obtain ⟨l, ⟨e, he, hel⟩, hml⟩ := pk_least (fun k => ∃ v, Rch (EH R C S) (fun a => a = s) v ∧ v % 7 = k) ⟨_, s, Rch.start rfl, rfl⟩
  obtain ⟨r, ⟨f, hf, hfr⟩, hmr⟩ := pk_least (fun k => ∃ v, Rch (EH R C S) (fun a => a = s) v ∧ 7 - v % 7 = k) ⟨_, s, Rch.start rfl, rfl⟩
  have ba := hH a ha
  have bd := hH d hd
  have be := hH e he
  have bf := hH f hf
  have mt : ∀ v, Rch (EH R C S) (fun a => a = s) v → t ≤ v / 7 := fun v hv => by
    apply Classical.byContradiction; intro hlt; exact hmt _ (by omega) ⟨v, hv, rfl⟩
  have mb : ∀ v, Rch (EH R C S) (fun a => a = s) v → b ≤ 7 - v / 7 := fun v hv => by
    apply Classical.byContradiction; intro hlt; exact hmb _ (by omega) ⟨v, hv, rfl⟩
  have ml : ∀ v, Rch (EH R C S) (fun a => a = s) v → l ≤ v % 7 := fun v hv => by
    apply Classical.byContradiction; intro hlt; exact hml _ (by omega) ⟨v, hv, rfl⟩
  have mr : ∀ v, Rch (EH R C S) (fun a => a = s) v → r ≤ 7 - v % 7 := fun v hv => by
    apply Classical.byContradiction; intro hlt; exact hmr _ (by omega) ⟨v, hv, rfl⟩
  have te := mt e he
  have be2 := mb e he
  have tf := mt f hf
  have bf2 := mb f hf
  have le := ml f hf
  have hup : ∀ w, w < 49 → w / 7 + 1 = t → w % 7 < C → w % 7 ≤ a % 7 + 1 → a % 7 ≤ w % 7 + 1 → S w = true := fun w h1 h2 h3 h4 h5 => hS a ha w h1 (by omega) h3 (by omega) (fun hq => by have := mt w hq; omega)
  have hdn : ∀ w, w < 49 → w / 7 = d / 7 + 1 → w % 7 < C → w % 7 ≤ d % 7 + 1 → d % 7 ≤ w % 7 + 1 → S w = true := fun w h1 h2 h3 h4 h5 => hS d hd w h1 (by omega) h3 (by omega) (fun hq => by have := mb w hq; omega)
  have hlf : S (e - 1) = true := hS e he (e - 1) (by omega) (by omega) (by omega) (by omega) (fun hq => by have := ml _ hq; omega)
  have hrt : S (f + 1) = true := hS f hf (f + 1) (by omega) (by omega) (by omega) (by omega) (fun hq => by have := mr _ hq; omega)
  refine cntB_ge [a - 8, a - 7, a - 6, d + 6, d + 7, d + 8, e - 1, f + 1] S ?_ ?_
  · have q1 : (a - 8) / 7 = t - 1 ∧ (a - 7) / 7 = t - 1 ∧ (a - 6) / 7 = t - 1 := by omega
    have q2 : (d + 6) / 7 = d / 7 + 1 ∧ (d + 7) / 7 = d / 7 + 1 ∧ (d + 8) / 7 = d / 7 + 1 := by omega
    have q3 : (e - 1) / 7 = e / 7 ∧ (f + 1) / 7 = f / 7 ∧ (e - 1) % 7 = e % 7 - 1 ∧ (f + 1) % 7 = f % 7 + 1 := by omega
    have hne : ∀ {x y : Nat}, x / 7 ≠ y / 7 → x ≠ y := fun hxy e => hxy (by rw [e])
    simp only [List.nodup_cons, List.mem_cons, List.not_mem_nil, not_or, or_false, List.nodup_nil, and_true, not_false_eq_true]
    refine ⟨⟨by omega, by omega, hne (by omega), hne (by omega), hne (by omega), hne (by omega), hne (by omega)⟩, ⟨by omega, hne (by omega), hne (by omega), hne (by omega), hne (by omega), hne (by omega)⟩, ⟨hne (by omega), hne (by omega), hne (by omega), hne (by omega), hne (by omega)⟩, ⟨by omega, by omega, hne (by omega), hne (by omega)⟩, ⟨by omega, hne (by omega), hne (by omega)⟩, ⟨hne (by omega), hne (by omega)⟩, fun hh => ?_⟩
    have : (e - 1) % 7 = (f + 1) % 7 := by rw [hh]
    omega
  · intro x hx
    simp only [List.mem_cons, List.not_mem_nil, or_false] at hx
    rcases hx with rfl | rfl | rfl | rfl | rfl | rfl | rfl | rfl
    · exact ⟨by omega, hup _ (by omega) (by omega) (by omega) (by omega) (by omega)⟩
    · exact ⟨by omega, hup _ (by omega) (by omega) (by omega) (by omega) (by omega)⟩
    · exact ⟨by omega, hup _ (by omega) (by omega) (by omega) (by omega) (by omega)⟩
    · exact ⟨by omega, hdn _ (by omega) (by omega) (by omega) (by omega) (by omega)⟩
    · exact ⟨by omega, hdn _ (by omega) (by omega) (by omega) (by omega) (by omega)⟩
    · exact ⟨by omega, hdn _ (by omega) (by omega) (by omega) (by omega) (by omega)⟩
    · exact ⟨by omega, hlf⟩
    · exact ⟨by omega, hrt⟩
theorem hole_none {R C : Nat} (hb : R ≤ 7 ∧ C ≤ 7) {S : Nat → Bool} (h : cntB S 49 < 8) : holeN R C S = 0 := by
  unfold holeN
  refine cntB_f (fun s _ => ?_)
  exact isT_f (fun hq => by have := hole_eight hb hq; omega)
