def f_ce_number (N : Nat) (l0 : Int) (l1 : Int) : Option (Int) :=
  some ((l0 * 8) + l1)

def f_ce_only (N : Nat) (l0 : Int) (l1 : Int) : Option (BitVec 64) :=
  Option.bind (f_ce_number N l0 l1) fun q_1 =>
  og (0 ≤ q_1 ∧ q_1 < 64) <|
  some (1#64 <<< (q_1).toNat)

def f_ce_inRow (N : Nat) (l0 : Int) : Option (BitVec 64) :=
  og (0 ≤ (l0 * 8) ∧ (l0 * 8) < 64) <|
  some (127#64 <<< ((l0 * 8)).toNat)

def f_ce_inColumn (N : Nat) (l0 : Int) : Option (BitVec 64) :=
  og (0 ≤ l0 ∧ l0 < 64) <|
  some (282578800148737#64 <<< (l0).toNat)

def f_ce_block_19 (N : Nat) (l1 : Int) (l4 : BitVec 64) : Nat → BitVec 64 → Int → Option (BitVec 64)
  | 0, _, _ => none
  | n + 1, l6, l8 =>
    og (xR l8) <|
    og (xR l1) <|
    if (l1 : Int) < l8 then (
      some l6
    ) else (
      og (0 ≤ (l8 * 8) ∧ (l8 * 8) < 64) <|
      Option.bind (some ((l6 ||| (l4 <<< ((l8 * 8)).toNat)) : BitVec 64)) fun l6_7 =>
      Option.bind (some (l8 + 1 : Int)) fun l8_8 =>
      f_ce_block_19 N l1 l4 n l6_7 l8_8
    )

def f_ce_block (N : Nat) (l0 : Int) (l1 : Int) (l2 : Int) (l3 : Int) : Option (BitVec 64) :=
  og (0 ≤ ((l3 - l2) + 1) ∧ ((l3 - l2) + 1) < 64) <|
  og (0 ≤ l2 ∧ l2 < 64) <|
  Option.bind (some ((((1#64 <<< (((l3 - l2) + 1)).toNat) - 1#64) <<< (l2).toNat) : BitVec 64)) fun l4_3 =>
  f_ce_block_19 N l1 l4_3 N (0#64) l0

def f_ce_first (N : Nat) (l0 : BitVec 64) : Option (BitVec 64) :=
  some (l0 &&& (-l0))

def f_ce_numberOfFirst (N : Nat) (l0 : BitVec 64) : Option (Int) :=
  Option.bind (f_ce_first N l0) fun q_1 =>
  some (popc (q_1 - 1#64))

def f_ce_pairsRight (N : Nat) (l0 : BitVec 64) : Option (BitVec 64) :=
  some (l0 &&& (l0 >>> 1))

def f_ce_pairsBelow (N : Nat) (l0 : BitVec 64) : Option (BitVec 64) :=
  some (l0 &&& (l0 >>> 8))

def f_ce_countPairs (N : Nat) (l0 : BitVec 64) : Option (Int) :=
  Option.bind (f_ce_pairsRight N l0) fun q_1 =>
  Option.bind (f_ce_pairsBelow N l0) fun q_2 =>
  some ((popc q_1) + (popc q_2))

def f_ce_beside (N : Nat) (l0 : BitVec 64) : Option (BitVec 64) :=
  some ((((l0 <<< 1) ||| (l0 >>> 1)) ||| (l0 <<< 8)) ||| (l0 >>> 8))

def f_ce_countInnerCorners (N : Nat) (l0 : BitVec 64) : Option (Int) :=
  Option.bind (some ((l0 >>> 1) : BitVec 64)) fun l2_1 =>
  Option.bind (some ((l0 >>> 8) : BitVec 64)) fun l4_2 =>
  Option.bind (some ((l0 >>> 9) : BitVec 64)) fun l6_3 =>
  Option.bind (some (((l0 &&& l2_1) &&& (l4_2 ^^^ l6_3)) : BitVec 64)) fun l8_4 =>
  Option.bind (some ((((l0 ^^^ l2_1) &&& l4_2) &&& l6_3) : BitVec 64)) fun l10_5 =>
  some (popc (l8_4 ||| l10_5))

def f_ce_connected_6 (N : Nat) (l2 : BitVec 64) : Nat → BitVec 64 → Int → Option (BitVec 64)
  | 0, _, _ => none
  | n + 1, l4, l6 =>
    og (xR l6) <|
    if (49 : Int) ≤ l6 then (
      some l4
    ) else (
      Option.bind (some (((l4 ||| (l4 <<< 1)) ||| (l4 >>> 1)) : BitVec 64)) fun l7_2 =>
      Option.bind (some ((((l7_2 ||| (l7_2 <<< 8)) ||| (l7_2 >>> 8)) &&& l2) : BitVec 64)) fun l9_3 =>
      if (l9_3 : BitVec 64) = l4 then (
        some l4
      ) else (
        Option.bind (some (l6 + 1 : Int)) fun l6_4 =>
        f_ce_connected_6 N l2 n l9_3 l6_4
      )
    )

def f_ce_connected (N : Nat) (l0 : BitVec 64) (l2 : BitVec 64) : Option (BitVec 64) :=
  f_ce_connected_6 N l2 N l0 0

def f_ce_countHoles_59 (N : Nat) : Nat → BitVec 64 → Int → Int → Option (Int)
  | 0, _, _, _ => none
  | n + 1, l8, l10, l11 =>
    og (xR l11) <|
    if (49 : Int) ≤ l11 then (
      some l10
    ) else (
      if (l8 : BitVec 64) = 0#64 then (
        some l10
      ) else (
        Option.bind (f_ce_first N l8) fun q_6 =>
        Option.bind (f_ce_connected N q_6 l8) fun q_7 =>
        Option.bind (some ((l8 &&& (q_7 ^^^ 18446744073709551615#64)) : BitVec 64)) fun l8_8 =>
        Option.bind (some (l10 + 1 : Int)) fun l10_9 =>
        Option.bind (some (l11 + 1 : Int)) fun l11_10 =>
        f_ce_countHoles_59 N n l8_8 l10_9 l11_10
      )
    )

def f_ce_countHoles (N : Nat) (l0 : BitVec 64) (l2 : BitVec 64) : Option (Int) :=
  Option.bind (some ((l2 &&& (l0 ^^^ 18446744073709551615#64)) : BitVec 64)) fun l4_1 =>
  Option.bind (some (((((l2 &&& (l2 <<< 1)) &&& (l2 >>> 1)) &&& (l2 <<< 8)) &&& (l2 >>> 8)) : BitVec 64)) fun l6_2 =>
  Option.bind (f_ce_connected N (l4_1 &&& (l6_2 ^^^ 18446744073709551615#64)) l4_1) fun q_3 =>
  Option.bind (some ((l4_1 &&& (q_3 ^^^ 18446744073709551615#64)) : BitVec 64)) fun l8_4 =>
  f_ce_countHoles_59 N N l8_4 0 0

def f_dr_copyFrom (N : Nat) (D_rows : Int) (D_cols : Int) (D_cr : BitVec 64) (D_cb : BitVec 64) (D_cl : Int) (D_kl : Int) (D_col : Int → Int) (E_rows : Int) (E_cols : Int) (E_cr : BitVec 64) (E_cb : BitVec 64) (E_cl : Int) (E_kl : Int) (E_col : Int → Int) : Option (Int × Int × BitVec 64 × BitVec 64 × Int × Int × (Int → Int)) :=
  Option.bind (some (cpyi E_col D_col 56 : Int → Int)) fun D_col_1 =>
  some (E_rows, E_cols, E_cr, E_cb, E_cl, E_kl, D_col_1)

def f_dr_hasCell (N : Nat) (l1 : Int) (l2 : Int) (D_rows : Int) (D_cols : Int) : Option (Int) :=
  og (xR l1) <|
  if (l1 : Int) < 0 then (
    some 0
  ) else (
    og (xR D_rows) <|
    if (D_rows : Int) ≤ l1 then (
      some 0
    ) else (
      og (xR l2) <|
      if (l2 : Int) < 0 then (
        some 0
      ) else (
        og (xR D_cols) <|
        if (D_cols : Int) ≤ l2 then (
          some 0
        ) else (
          some 1
        )
      )
    )
  )

def f_dr_hasPair (N : Nat) (l1 : Int) (l2 : Int) (l3 : Int) (D_rows : Int) (D_cols : Int) : Option (Int) :=
  Option.bind (f_dr_hasCell N l1 l2 D_rows D_cols) fun q_1 =>
  og (xR q_1) <|
  if (q_1 : Int) = 0 then (
    some 0
  ) else (
    og (xR l3) <|
    if (l3 : Int) = 0 then (
      og (xR (l2 + 1)) <|
      og (xR D_cols) <|
      if (D_cols : Int) ≤ (l2 + 1) then (
        some 0
      ) else (
        some 1
      )
    ) else (
      if (l3 : Int) = 1 then (
        og (xR (l1 + 1)) <|
        og (xR D_rows) <|
        if (D_rows : Int) ≤ (l1 + 1) then (
          some 0
        ) else (
          some 1
        )
      ) else (
        some 0
      )
    )
  )

def f_dr_hasCut (N : Nat) (l1 : Int) (l2 : Int) (l3 : Int) (D_cr : BitVec 64) (D_cb : BitVec 64) : Option (Int) :=
  og (xR l3) <|
  Option.bind ((
    if (l3 : Int) = 0 then (
      some D_cr
    ) else (
      some D_cb
    )
  ) : Option (BitVec 64)) fun r_5 =>
  Option.bind (f_ce_only N l1 l2) fun q_6 =>
  if ((r_5 &&& q_6) : BitVec 64) = 0#64 then (
    some 0
  ) else (
    some 1
  )

def f_dr_flip (N : Nat) (l1 : Int) (l2 : Int) (l3 : Int) (D_cr : BitVec 64) (D_cb : BitVec 64) : Option (BitVec 64 × BitVec 64) :=
  og (xR l3) <|
  if (l3 : Int) = 0 then (
    Option.bind (f_ce_only N l1 l2) fun q_4 =>
    Option.bind (some ((D_cr ^^^ q_4) : BitVec 64)) fun D_cr_5 =>
    some (D_cr_5, D_cb)
  ) else (
    Option.bind (f_ce_only N l1 l2) fun q_2 =>
    Option.bind (some ((D_cb ^^^ q_2) : BitVec 64)) fun D_cb_3 =>
    some (D_cr, D_cb_3)
  )

def f_dr_countCuts (N : Nat) (D_cr : BitVec 64) (D_cb : BitVec 64) : Option (Int) :=
  some ((popc D_cr) + (popc D_cb))

def f_dr_joined_28 (N : Nat) (l1 : Int) (l2 : Int) (l5 : Int) (D_rows : Int) (D_cols : Int) (D_cr : BitVec 64) (D_cb : BitVec 64) (D_col : Int → Int) (k16 : BitVec 64 → Int → Option (BitVec 64)) : Nat → BitVec 64 → Int → Option (BitVec 64)
  | 0, _, _ => none
  | n + 1, l3, l6 =>
    og (xR l6) <|
    og (xR D_cols) <|
    if (D_cols : Int) ≤ l6 then (
      Option.bind (some (l5 + 1 : Int)) fun l5_31 =>
      k16 l3 l5_31
    ) else (
      Option.bind (f_ce_number N l5 l6) fun q_32 =>
      Option.bind (f_dr_hasPair N l5 l6 l1 D_rows D_cols) fun q_33 =>
      og (xR q_33) <|
      Option.bind ((
        if (q_33 : Int) = 0 then (
          Option.bind (some (l6 + 1 : Int)) fun l6_35 =>
          some (l3, l6_35)
        ) else (
          og (0 ≤ q_32 ∧ q_32 < 56) <|
          og (0 ≤ (q_32 + l2) ∧ (q_32 + l2) < 56) <|
          og (xR (D_col q_32)) <|
          og (xR (D_col (q_32 + l2))) <|
          if ((D_col q_32) : Int) = (D_col (q_32 + l2)) then (
            og (0 ≤ q_32 ∧ q_32 < 64) <|
            Option.bind (some ((l3 ||| (1#64 <<< (q_32).toNat)) : BitVec 64)) fun l3_42 =>
            Option.bind (some (l6 + 1 : Int)) fun l6_43 =>
            some (l3_42, l6_43)
          ) else (
            Option.bind (some (l6 + 1 : Int)) fun l6_40 =>
            some (l3, l6_40)
          )
        )
      ) : Option (BitVec 64 × Int)) fun r_44 =>
      f_dr_joined_28 N l1 l2 l5 D_rows D_cols D_cr D_cb D_col k16 n r_44.1 r_44.2
    )

def f_dr_joined_16 (N : Nat) (l1 : Int) (l2 : Int) (D_rows : Int) (D_cols : Int) (D_cr : BitVec 64) (D_cb : BitVec 64) (D_col : Int → Int) : Nat → BitVec 64 → Int → Option (BitVec 64)
  | 0, _, _ => none
  | n + 1, l3, l5 =>
    og (xR l5) <|
    og (xR D_rows) <|
    if (D_rows : Int) ≤ l5 then (
      og (xR l1) <|
      Option.bind ((
        if (l1 : Int) = 0 then (
          some D_cr
        ) else (
          some D_cb
        )
      ) : Option (BitVec 64)) fun r_28 =>
      some (l3 &&& (r_28 ^^^ 18446744073709551615#64))
    ) else (
      f_dr_joined_28 N l1 l2 l5 D_rows D_cols D_cr D_cb D_col (f_dr_joined_16 N l1 l2 D_rows D_cols D_cr D_cb D_col n) N l3 0
    )

def f_dr_joined (N : Nat) (l1 : Int) (D_rows : Int) (D_cols : Int) (D_cr : BitVec 64) (D_cb : BitVec 64) (D_col : Int → Int) : Option (BitVec 64) :=
  og (xR l1) <|
  Option.bind ((
    if (l1 : Int) = 0 then (
      some 1
    ) else (
      some 8
    )
  ) : Option (Int)) fun r_24 =>
  f_dr_joined_16 N l1 r_24 D_rows D_cols D_cr D_cb D_col N (0#64) 0

def f_te_append (N : Nat) (l1 : Int) (T_len : Int) (T_ch : Int → Int) : Option (Int × Int × (Int → Int)) :=
  og (xR T_len) <|
  if (T_len : Int) < 80 then (
    og (0 ≤ T_len ∧ T_len < 80) <|
    Option.bind (some (upi T_ch T_len l1 : Int → Int)) fun T_ch_3 =>
    Option.bind (some ((T_len + 1) : Int)) fun T_len_4 =>
    some (1, T_len_4, T_ch_3)
  ) else (
    some (0, T_len, T_ch)
  )

def f_te_isDigit (N : Nat) (l0 : Int) : Option (Int) :=
  og (xR l0) <|
  if (l0 : Int) < 48 then (
    some 0
  ) else (
    if (53 : Int) < l0 then (
      some 0
    ) else (
      some 1
    )
  )

def f_te_errorOffset_119 (N : Nat) (T_len : Int) : Option (Int) :=
  some T_len

def f_te_errorOffset_50 (N : Nat) (T_len : Int) (T_ch : Int → Int) (k9 : Int → Int → Int → Int → Option (Int)) (l1 : Int) (l3 : Int) (l4 : Int) : Option (Int) :=
  Option.bind (some (l1 + 1 : Int)) fun l1_42 =>
  Option.bind (some (l4 + 1 : Int)) fun l4_43 =>
  k9 l1_42 l3 0 l4_43

def f_te_errorOffset_9 (N : Nat) (T_len : Int) (T_ch : Int → Int) : Nat → Int → Int → Int → Int → Option (Int)
  | 0, _, _, _, _ => none
  | n + 1, l1, l2, l3, l4 =>
    og (xR l4) <|
    og (xR T_len) <|
    if (T_len : Int) ≤ l4 then (
      og (xR l1) <|
      if (l1 : Int) = 0 then (
        f_te_errorOffset_119 N T_len
      ) else (
        og (xR l3) <|
        if (l3 : Int) ≤ 0 then (
          some (-1)
        ) else (
          f_te_errorOffset_119 N T_len
        )
      )
    ) else (
      og (0 ≤ l4 ∧ l4 < 80) <|
      Option.bind (some ((T_ch l4) : Int)) fun l5_28 =>
      og (xR l5_28) <|
      if (l5_28 : Int) = 59 then (
        og (xR l3) <|
        if (l3 : Int) = 0 then (
          some l4
        ) else (
          og (xR l1) <|
          if (l1 : Int) ≤ 0 then (
            f_te_errorOffset_50 N T_len T_ch (f_te_errorOffset_9 N T_len T_ch n) l1 l3 l4
          ) else (
            og (xR l2) <|
            if (l3 : Int) = l2 then (
              f_te_errorOffset_50 N T_len T_ch (f_te_errorOffset_9 N T_len T_ch n) l1 l3 l4
            ) else (
              some l4
            )
          )
        )
      ) else (
        if (l5_28 : Int) = 32 then (
          Option.bind (some (l4 + 1 : Int)) fun l4_30 =>
          f_te_errorOffset_9 N T_len T_ch n l1 l2 l3 l4_30
        ) else (
          og (xR l1) <|
          Option.bind ((
            if (l1 : Int) = 0 then (
              some 7
            ) else (
              some l2
            )
          ) : Option (Int)) fun r_35 =>
          Option.bind (f_te_isDigit N l5_28) fun q_36 =>
          og (xR q_36) <|
          if (q_36 : Int) = 0 then (
            some l4
          ) else (
            if (l1 : Int) = 7 then (
              some l4
            ) else (
              og (xR l3) <|
              og (xR r_35) <|
              if (l3 : Int) = r_35 then (
                some l4
              ) else (
                Option.bind (some (l3 + 1 : Int)) fun l3_40 =>
                Option.bind (some (l4 + 1 : Int)) fun l4_41 =>
                f_te_errorOffset_9 N T_len T_ch n l1 l2 l3_40 l4_41
              )
            )
          )
        )
      )
    )

def f_te_errorOffset (N : Nat) (T_len : Int) (T_ch : Int → Int) : Option (Int) :=
  f_te_errorOffset_9 N T_len T_ch N 0 0 0 0

def f_te_copyTo_7 (N : Nat) (D_rows : Int) (T_len : Int) (T_ch : Int → Int) : Nat → Int → Int → Int → Int → (Int → Int) → Option (Int × Int × (Int → Int))
  | 0, _, _, _, _, _ => none
  | n + 1, l2, l3, l4, D_cols, D_col =>
    og (xR l4) <|
    og (xR T_len) <|
    if (T_len : Int) ≤ l4 then (
      some (l2, D_cols, D_col)
    ) else (
      og (0 ≤ l4 ∧ l4 < 80) <|
      Option.bind (some ((T_ch l4) : Int)) fun l5_4 =>
      og (xR l5_4) <|
      Option.bind ((
        if (l5_4 : Int) = 59 then (
          Option.bind (some (l2 + 1 : Int)) fun l2_18 =>
          Option.bind (some (l4 + 1 : Int)) fun l4_19 =>
          some (l2_18, 0, l4_19, l3, D_col)
        ) else (
          Option.bind (f_te_isDigit N l5_4) fun q_6 =>
          og (xR q_6) <|
          if (q_6 : Int) = 0 then (
            Option.bind (some (l4 + 1 : Int)) fun l4_8 =>
            some (l2, l3, l4_8, D_cols, D_col)
          ) else (
            og (xR l2) <|
            if (7 : Int) ≤ l2 then (
              Option.bind (some (l4 + 1 : Int)) fun l4_10 =>
              some (l2, l3, l4_10, D_cols, D_col)
            ) else (
              og (xR l3) <|
              if (7 : Int) ≤ l3 then (
                Option.bind (some (l4 + 1 : Int)) fun l4_12 =>
                some (l2, l3, l4_12, D_cols, D_col)
              ) else (
                Option.bind (f_ce_number N l2 l3) fun q_13 =>
                og (0 ≤ q_13 ∧ q_13 < 56) <|
                Option.bind (some (upi D_col q_13 (l5_4 - 48) : Int → Int)) fun D_col_15 =>
                Option.bind (some (l3 + 1 : Int)) fun l3_16 =>
                Option.bind (some (l4 + 1 : Int)) fun l4_17 =>
                some (l2, l3_16, l4_17, D_cols, D_col_15)
              )
            )
          )
        )
      ) : Option (Int × Int × Int × Int × (Int → Int))) fun r_20 =>
      f_te_copyTo_7 N D_rows T_len T_ch n r_20.1 r_20.2.1 r_20.2.2.1 r_20.2.2.2.1 r_20.2.2.2.2
    )

def f_te_copyTo (N : Nat) (T_len : Int) (T_ch : Int → Int) (D_rows : Int) (D_cols : Int) (D_col : Int → Int) : Option (Int × Int × (Int → Int)) :=
  f_te_copyTo_7 N D_rows T_len T_ch N 0 0 0 D_cols D_col

def f_pa_hasPane (N : Nat) (l1 : Int) (P_count : Int) : Option (Int) :=
  og (xR l1) <|
  if (l1 : Int) < 0 then (
    some 0
  ) else (
    og (xR P_count) <|
    if (P_count : Int) ≤ l1 then (
      some 0
    ) else (
      some 1
    )
  )

def f_pa_everyPane (N : Nat) (P_count : Int) : Option (BitVec 64) :=
  og (0 ≤ P_count ∧ P_count < 64) <|
  some ((1#64 <<< (P_count).toNat) - 1#64)

def f_pa_numberOf_5 (N : Nat) (l1 : BitVec 64) (P_count : Int) (P_cells : Int → BitVec 64) : Nat → Int → Int → Option (Int)
  | 0, _, _ => none
  | n + 1, l3, l4 =>
    og (xR l4) <|
    og (xR P_count) <|
    if (P_count : Int) ≤ l4 then (
      some l3
    ) else (
      og (0 ≤ l4 ∧ l4 < 49) <|
      Option.bind ((
        if (((P_cells l4) &&& l1) : BitVec 64) = 0#64 then (
          Option.bind (some (l4 + 1 : Int)) fun l4_4 =>
          some (l3, l4_4)
        ) else (
          Option.bind (some (l4 + 1 : Int)) fun l4_5 =>
          some (l4, l4_5)
        )
      ) : Option (Int × Int)) fun r_6 =>
      f_pa_numberOf_5 N l1 P_count P_cells n r_6.1 r_6.2
    )

def f_pa_numberOf (N : Nat) (l1 : BitVec 64) (P_count : Int) (P_cells : Int → BitVec 64) : Option (Int) :=
  f_pa_numberOf_5 N l1 P_count P_cells N 0 0

def f_pa_fragment_6 (N : Nat) (l3 : BitVec 64) (P_jr : BitVec 64) (P_jb : BitVec 64) : Nat → BitVec 64 → Int → Option (BitVec 64)
  | 0, _, _ => none
  | n + 1, l5, l7 =>
    og (xR l7) <|
    if (49 : Int) ≤ l7 then (
      some l5
    ) else (
      Option.bind (some (((((l5 ||| ((l5 &&& P_jr) <<< 1)) ||| ((l5 >>> 1) &&& P_jr)) ||| ((l5 &&& P_jb) <<< 8)) ||| ((l5 >>> 8) &&& P_jb)) : BitVec 64)) fun l8_2 =>
      Option.bind (some ((l8_2 &&& l3) : BitVec 64)) fun l8_3 =>
      if (l8_3 : BitVec 64) = l5 then (
        some l5
      ) else (
        Option.bind (some (l7 + 1 : Int)) fun l7_4 =>
        f_pa_fragment_6 N l3 P_jr P_jb n l8_3 l7_4
      )
    )

def f_pa_fragment (N : Nat) (l1 : BitVec 64) (l3 : BitVec 64) (P_jr : BitVec 64) (P_jb : BitVec 64) : Option (BitVec 64) :=
  f_pa_fragment_6 N l3 P_jr P_jb N l1 0

def f_pa_touching_16 (N : Nat) (l1 : Int) (l2 : BitVec 64) (P_count : Int) (P_cells : Int → BitVec 64) : Nat → BitVec 64 → Int → Option (BitVec 64)
  | 0, _, _ => none
  | n + 1, l4, l6 =>
    og (xR l6) <|
    og (xR P_count) <|
    if (P_count : Int) ≤ l6 then (
      some l4
    ) else (
      og (xR l1) <|
      Option.bind ((
        if (l6 : Int) = l1 then (
          Option.bind (some (l6 + 1 : Int)) fun l6_6 =>
          some (l4, l6_6)
        ) else (
          og (0 ≤ l6 ∧ l6 < 49) <|
          if (((P_cells l6) &&& l2) : BitVec 64) = 0#64 then (
            Option.bind (some (l6 + 1 : Int)) fun l6_8 =>
            some (l4, l6_8)
          ) else (
            og (0 ≤ l6 ∧ l6 < 64) <|
            Option.bind (some ((l4 ||| (1#64 <<< (l6).toNat)) : BitVec 64)) fun l4_10 =>
            Option.bind (some (l6 + 1 : Int)) fun l6_11 =>
            some (l4_10, l6_11)
          )
        )
      ) : Option (BitVec 64 × Int)) fun r_12 =>
      f_pa_touching_16 N l1 l2 P_count P_cells n r_12.1 r_12.2
    )

def f_pa_touching (N : Nat) (l1 : Int) (P_count : Int) (P_cells : Int → BitVec 64) : Option (BitVec 64) :=
  og (0 ≤ l1 ∧ l1 < 49) <|
  Option.bind (f_ce_beside N (P_cells l1)) fun q_2 =>
  f_pa_touching_16 N l1 q_2 P_count P_cells N (0#64) 0

def f_pa_find_124 (N : Nat) (P_all : BitVec 64) (P_jr : BitVec 64) (P_jb : BitVec 64) (P_count : Int) (P_cells : Int → BitVec 64) : Nat → Int → (Int → BitVec 64) → Option (BitVec 64 × BitVec 64 × BitVec 64 × Int × (Int → BitVec 64) × (Int → BitVec 64))
  | 0, _, _ => none
  | n + 1, l3, P_near =>
    og (xR l3) <|
    og (xR P_count) <|
    if (P_count : Int) ≤ l3 then (
      some (P_all, P_jr, P_jb, P_count, P_cells, P_near)
    ) else (
      Option.bind (f_pa_touching N l3 P_count P_cells) fun q_14 =>
      og (0 ≤ l3 ∧ l3 < 49) <|
      Option.bind (some (upi P_near l3 q_14 : Int → BitVec 64)) fun P_near_16 =>
      Option.bind (some (l3 + 1 : Int)) fun l3_17 =>
      f_pa_find_124 N P_all P_jr P_jb P_count P_cells n l3_17 P_near_16
    )

def f_pa_find_63 (N : Nat) (P_all : BitVec 64) (P_jr : BitVec 64) (P_jb : BitVec 64) (P_near : Int → BitVec 64) : Nat → BitVec 64 → Int → Int → (Int → BitVec 64) → Option (BitVec 64 × BitVec 64 × BitVec 64 × Int × (Int → BitVec 64) × (Int → BitVec 64))
  | 0, _, _, _, _ => none
  | n + 1, l1, l3, P_count, P_cells =>
    og (xR l3) <|
    if (49 : Int) ≤ l3 then (
      f_pa_find_124 N P_all P_jr P_jb P_count P_cells N 0 P_near
    ) else (
      if (l1 : BitVec 64) = 0#64 then (
        f_pa_find_124 N P_all P_jr P_jb P_count P_cells N 0 P_near
      ) else (
        Option.bind (f_ce_first N l1) fun q_5 =>
        Option.bind (f_pa_fragment N q_5 P_all P_jr P_jb) fun q_6 =>
        og (0 ≤ l3 ∧ l3 < 49) <|
        Option.bind (some (upi P_cells l3 q_6 : Int → BitVec 64)) fun P_cells_8 =>
        Option.bind (some ((l1 &&& ((P_cells_8 l3) ^^^ 18446744073709551615#64)) : BitVec 64)) fun l1_9 =>
        Option.bind (some ((P_count + 1) : Int)) fun P_count_10 =>
        Option.bind (some (l3 + 1 : Int)) fun l3_11 =>
        f_pa_find_63 N P_all P_jr P_jb P_near n l1_9 l3_11 P_count_10 P_cells_8
      )
    )

def f_pa_find (N : Nat) (D_rows : Int) (D_cols : Int) (D_cr : BitVec 64) (D_cb : BitVec 64) (D_col : Int → Int) (P_all : BitVec 64) (P_jr : BitVec 64) (P_jb : BitVec 64) (P_count : Int) (P_cells : Int → BitVec 64) (P_near : Int → BitVec 64) : Option (BitVec 64 × BitVec 64 × BitVec 64 × Int × (Int → BitVec 64) × (Int → BitVec 64)) :=
  Option.bind (f_ce_block N 0 (D_rows - 1) 0 (D_cols - 1)) fun q_1 =>
  Option.bind (f_dr_joined N 0 D_rows D_cols D_cr D_cb D_col) fun q_2 =>
  Option.bind (f_dr_joined N 1 D_rows D_cols D_cr D_cb D_col) fun q_3 =>
  f_pa_find_63 N q_1 q_2 q_3 P_near N q_1 0 0 P_cells

def f_pa_isEasy (N : Nat) (l1 : BitVec 64) (D_cl : Int) (D_kl : Int) (P_all : BitVec 64) : Option (Int) :=
  og (xR (popc l1)) <|
  og (xR D_cl) <|
  if (D_cl : Int) < (popc l1) then (
    some 0
  ) else (
    Option.bind (f_ce_countInnerCorners N l1) fun q_3 =>
    og (xR q_3) <|
    og (xR D_kl) <|
    if (D_kl : Int) < q_3 then (
      some 0
    ) else (
      Option.bind (f_ce_countHoles N l1 P_all) fun q_6 =>
      og (xR q_6) <|
      if (q_6 : Int) = 0 then (
        some 1
      ) else (
        some 0
      )
    )
  )

def f_pa_countEasyFragments_8 (N : Nat) (l1 : BitVec 64) (D_cl : Int) (D_kl : Int) (P_all : BitVec 64) (P_jr : BitVec 64) (P_jb : BitVec 64) : Nat → Int → BitVec 64 → Int → Option (Int)
  | 0, _, _, _ => none
  | n + 1, l3, l4, l6 =>
    og (xR l6) <|
    if (49 : Int) ≤ l6 then (
      some l3
    ) else (
      if (l4 : BitVec 64) = 0#64 then (
        some l3
      ) else (
        Option.bind (f_ce_first N l4) fun q_2 =>
        Option.bind (f_pa_fragment N q_2 l1 P_jr P_jb) fun q_3 =>
        Option.bind (f_pa_isEasy N q_3 D_cl D_kl P_all) fun q_4 =>
        og (xR q_4) <|
        if (q_4 : Int) = 0 then (
          some (-1)
        ) else (
          Option.bind (some ((l4 &&& (q_3 ^^^ 18446744073709551615#64)) : BitVec 64)) fun l4_6 =>
          Option.bind (some (l3 + 1 : Int)) fun l3_7 =>
          Option.bind (some (l6 + 1 : Int)) fun l6_8 =>
          f_pa_countEasyFragments_8 N l1 D_cl D_kl P_all P_jr P_jb n l3_7 l4_6 l6_8
        )
      )
    )

def f_pa_countEasyFragments (N : Nat) (l1 : BitVec 64) (D_cl : Int) (D_kl : Int) (P_all : BitVec 64) (P_jr : BitVec 64) (P_jb : BitVec 64) : Option (Int) :=
  f_pa_countEasyFragments_8 N l1 D_cl D_kl P_all P_jr P_jb N 0 l1 0

def f_pa_looseRight_4 (N : Nat) (D_cr : BitVec 64) (P_count : Int) (P_cells : Int → BitVec 64) : Nat → BitVec 64 → Int → Option (BitVec 64)
  | 0, _, _ => none
  | n + 1, l1, l3 =>
    og (xR l3) <|
    og (xR P_count) <|
    if (P_count : Int) ≤ l3 then (
      some (D_cr &&& l1)
    ) else (
      og (0 ≤ l3 ∧ l3 < 49) <|
      Option.bind (f_ce_pairsRight N (P_cells l3)) fun q_4 =>
      Option.bind (some ((l1 ||| q_4) : BitVec 64)) fun l1_5 =>
      Option.bind (some (l3 + 1 : Int)) fun l3_6 =>
      f_pa_looseRight_4 N D_cr P_count P_cells n l1_5 l3_6
    )

def f_pa_looseRight (N : Nat) (D_cr : BitVec 64) (P_count : Int) (P_cells : Int → BitVec 64) : Option (BitVec 64) :=
  f_pa_looseRight_4 N D_cr P_count P_cells N (0#64) 0

def f_pa_looseBelow_4 (N : Nat) (D_cb : BitVec 64) (P_count : Int) (P_cells : Int → BitVec 64) : Nat → BitVec 64 → Int → Option (BitVec 64)
  | 0, _, _ => none
  | n + 1, l1, l3 =>
    og (xR l3) <|
    og (xR P_count) <|
    if (P_count : Int) ≤ l3 then (
      some (D_cb &&& l1)
    ) else (
      og (0 ≤ l3 ∧ l3 < 49) <|
      Option.bind (f_ce_pairsBelow N (P_cells l3)) fun q_4 =>
      Option.bind (some ((l1 ||| q_4) : BitVec 64)) fun l1_5 =>
      Option.bind (some (l3 + 1 : Int)) fun l3_6 =>
      f_pa_looseBelow_4 N D_cb P_count P_cells n l1_5 l3_6
    )

def f_pa_looseBelow (N : Nat) (D_cb : BitVec 64) (P_count : Int) (P_cells : Int → BitVec 64) : Option (BitVec 64) :=
  f_pa_looseBelow_4 N D_cb P_count P_cells N (0#64) 0

def f_pa_measureLead_10 (N : Nat) (P_count : Int) (P_cells : Int → BitVec 64) : Nat → Int → Int → Option (Int)
  | 0, _, _ => none
  | n + 1, l1, l2 =>
    og (xR l2) <|
    og (xR P_count) <|
    if (P_count : Int) ≤ l2 then (
      some l1
    ) else (
      og (0 ≤ l2 ∧ l2 < 49) <|
      Option.bind (f_ce_countPairs N (P_cells l2)) fun q_5 =>
      Option.bind (some ((l1 - q_5) : Int)) fun l1_6 =>
      Option.bind (some (l2 + 1 : Int)) fun l2_7 =>
      f_pa_measureLead_10 N P_count P_cells n l1_6 l2_7
    )

def f_pa_measureLead (N : Nat) (P_all : BitVec 64) (P_count : Int) (P_cells : Int → BitVec 64) : Option (Int) :=
  Option.bind (f_ce_countPairs N P_all) fun q_1 =>
  f_pa_measureLead_10 N P_count P_cells N q_1 0

def f_pa_colourOf (N : Nat) (l1 : Int) (D_col : Int → Int) (P_cells : Int → BitVec 64) : Option (Int) :=
  og (0 ≤ l1 ∧ l1 < 49) <|
  Option.bind (f_ce_numberOfFirst N (P_cells l1)) fun q_2 =>
  og (xR q_2) <|
  if (56 : Int) ≤ q_2 then (
    some 0
  ) else (
    og (0 ≤ q_2 ∧ q_2 < 56) <|
    some (D_col q_2)
  )

def f_pa_countEqualNeighbours_14 (N : Nat) (l2 : Int) (D_col : Int → Int) (P_count : Int) (P_cells : Int → BitVec 64) (P_near : Int → BitVec 64) (k4 : Int → Int → Option (Int)) : Nat → Int → Int → Option (Int)
  | 0, _, _ => none
  | n + 1, l1, l3 =>
    og (xR l3) <|
    og (xR l2) <|
    if (l2 : Int) ≤ l3 then (
      Option.bind (some (l2 + 1 : Int)) fun l2_23 =>
      k4 l1 l2_23
    ) else (
      og (0 ≤ l2 ∧ l2 < 49) <|
      og (0 ≤ l3 ∧ l3 < 64) <|
      Option.bind ((
        if (((P_near l2) &&& (1#64 <<< (l3).toNat)) : BitVec 64) = 0#64 then (
          some 0
        ) else (
          some 1
        )
      ) : Option (Int)) fun r_26 =>
      og (xR r_26) <|
      Option.bind ((
        if (r_26 : Int) = 0 then (
          Option.bind (some (l3 + 1 : Int)) fun l3_28 =>
          some (l1, l3_28)
        ) else (
          Option.bind (f_pa_colourOf N l2 D_col P_cells) fun q_29 =>
          Option.bind (f_pa_colourOf N l3 D_col P_cells) fun q_30 =>
          og (xR q_29) <|
          og (xR q_30) <|
          if (q_29 : Int) = q_30 then (
            Option.bind (some (l1 + 1 : Int)) fun l1_34 =>
            Option.bind (some (l3 + 1 : Int)) fun l3_35 =>
            some (l1_34, l3_35)
          ) else (
            Option.bind (some (l3 + 1 : Int)) fun l3_33 =>
            some (l1, l3_33)
          )
        )
      ) : Option (Int × Int)) fun r_36 =>
      f_pa_countEqualNeighbours_14 N l2 D_col P_count P_cells P_near k4 n r_36.1 r_36.2
    )

def f_pa_countEqualNeighbours_4 (N : Nat) (D_col : Int → Int) (P_count : Int) (P_cells : Int → BitVec 64) (P_near : Int → BitVec 64) : Nat → Int → Int → Option (Int)
  | 0, _, _ => none
  | n + 1, l1, l2 =>
    og (xR l2) <|
    og (xR P_count) <|
    if (P_count : Int) ≤ l2 then (
      some l1
    ) else (
      f_pa_countEqualNeighbours_14 N l2 D_col P_count P_cells P_near (f_pa_countEqualNeighbours_4 N D_col P_count P_cells P_near n) N l1 0
    )

def f_pa_countEqualNeighbours (N : Nat) (D_col : Int → Int) (P_count : Int) (P_cells : Int → BitVec 64) (P_near : Int → BitVec 64) : Option (Int) :=
  f_pa_countEqualNeighbours_4 N D_col P_count P_cells P_near N 0 0

def f_pa_cliqueAmong_13 (N : Nat) (rc : BitVec 64 → Int → Int → (Int → BitVec 64) → Option (Int)) (l1 : BitVec 64) (l3 : Int) (P_count : Int) (P_near : Int → BitVec 64) : Nat → Int → Int → Option (Int)
  | 0, _, _ => none
  | n + 1, l4, l5 =>
    og (xR l5) <|
    og (xR P_count) <|
    if (P_count : Int) ≤ l5 then (
      some l4
    ) else (
      og (0 ≤ l5 ∧ l5 < 64) <|
      Option.bind ((
        if ((l1 &&& (1#64 <<< (l5).toNat)) : BitVec 64) = 0#64 then (
          Option.bind (some (l5 + 1 : Int)) fun l5_5 =>
          some (l4, l5_5)
        ) else (
          Option.bind (some (((1#64 <<< (l5).toNat) - 1#64) : BitVec 64)) fun l6_6 =>
          og (0 ≤ l5 ∧ l5 < 49) <|
          Option.bind (some (((l1 &&& (P_near l5)) &&& l6_6) : BitVec 64)) fun l8_8 =>
          Option.bind (rc l8_8 (l3 + 1) P_count P_near) fun q_9 =>
          og (xR l4) <|
          og (xR (1 + q_9)) <|
          Option.bind (some ((max l4 (1 + q_9)) : Int)) fun l4_12 =>
          Option.bind (some (l5 + 1 : Int)) fun l5_13 =>
          some (l4_12, l5_13)
        )
      ) : Option (Int × Int)) fun r_14 =>
      f_pa_cliqueAmong_13 N rc l1 l3 P_count P_near n r_14.1 r_14.2
    )

def f_pa_cliqueAmong (N : Nat) : Nat → BitVec 64 → Int → Int → (Int → BitVec 64) → Option (Int)
  | 0, _, _, _, _ => none
  | d + 1, l1, l3, P_count, P_near =>
    let rc := f_pa_cliqueAmong N d
    og (xR l3) <|
    if (l3 : Int) < 4 then (
      f_pa_cliqueAmong_13 N rc l1 l3 P_count P_near N 0 0
    ) else (
      some 0
    )

def f_pa_measureClique (N : Nat) (P_count : Int) (P_near : Int → BitVec 64) : Option (Int) :=
  Option.bind (f_pa_everyPane N P_count) fun q_1 =>
  Option.bind (f_pa_cliqueAmong N 6 q_1 0 P_count P_near) fun q_2 =>
  some q_2

def f_sp_forget (N : Nat) (S_planned : Int) : Option (Int) :=
  some (-1)

def f_sp_span (N : Nat) (l0 : Int) (l1 : Int) : Option (Int) :=
  og (0 ≤ (l1 * (l1 + 1)) ∧ (l1 * (l1 + 1)) < 2147483648) <|
  some (((l1 * (l1 + 1)) / 2) + l0)

def f_sp_place (N : Nat) (l0 : Int) (l1 : Int) (l2 : Int) (l3 : Int) : Option (Int) :=
  Option.bind (f_sp_span N l0 l1) fun q_1 =>
  Option.bind (f_sp_span N l2 l3) fun q_2 =>
  some ((q_1 * 28) + q_2)

def f_sp_pieces (N : Nat) (S_top : Int) (S_bottom : Int) (S_left : Int) (S_right : Int) (S_w : Int → Int) : Option (Int) :=
  Option.bind (f_sp_place N S_top S_bottom S_left S_right) fun q_1 =>
  og (0 ≤ q_1 ∧ q_1 < 784) <|
  og (0 ≤ (S_w q_1) ∧ (S_w q_1) < 2147483648) <|
  some ((S_w q_1) / 128)

def f_sp_lead (N : Nat) (S_top : Int) (S_bottom : Int) (S_left : Int) (S_right : Int) (S_w : Int → Int) : Option (Int) :=
  Option.bind (f_sp_place N S_top S_bottom S_left S_right) fun q_1 =>
  og (0 ≤ q_1 ∧ q_1 < 784) <|
  og (0 ≤ (S_w q_1) ∧ (S_w q_1) < 2147483648) <|
  some ((S_w q_1) % 128)

def f_sp_frame_24 (N : Nat) (S_cells : BitVec 64) : Nat → Int → Int → Int → Int → Int → Option (Int × Int × Int × Int)
  | 0, _, _, _, _, _ => none
  | n + 1, l1, S_top, S_bottom, S_left, S_right =>
    og (xR l1) <|
    if (7 : Int) ≤ l1 then (
      some (S_top, S_bottom, S_left, S_right)
    ) else (
      Option.bind (f_ce_inRow N l1) fun q_14 =>
      Option.bind ((
        if ((S_cells &&& q_14) : BitVec 64) = 0#64 then (
          some (S_top, S_bottom)
        ) else (
          og (xR S_top) <|
          Option.bind (some ((min S_top l1) : Int)) fun S_top_16 =>
          some (S_top_16, l1)
        )
      ) : Option (Int × Int)) fun r_17 =>
      Option.bind (f_ce_inColumn N l1) fun q_18 =>
      Option.bind ((
        if ((S_cells &&& q_18) : BitVec 64) = 0#64 then (
          Option.bind (some (l1 + 1 : Int)) fun l1_19 =>
          some (l1_19, S_left, S_right)
        ) else (
          og (xR S_left) <|
          Option.bind (some ((min S_left l1) : Int)) fun S_left_21 =>
          Option.bind (some (l1 + 1 : Int)) fun l1_22 =>
          some (l1_22, S_left_21, l1)
        )
      ) : Option (Int × Int × Int)) fun r_23 =>
      f_sp_frame_24 N S_cells n r_23.1 r_17.1 r_17.2 r_23.2.1 r_23.2.2
    )

def f_sp_frame (N : Nat) (S_cells : BitVec 64) (S_top : Int) (S_bottom : Int) (S_left : Int) (S_right : Int) : Option (Int × Int × Int × Int) :=
  f_sp_frame_24 N S_cells N 0 6 0 6 0

def f_sp_crossedBelow (N : Nat) (l1 : BitVec 64) (l3 : Int) (P_jb : BitVec 64) : Option (BitVec 64) :=
  Option.bind (f_ce_inRow N l3) fun q_1 =>
  some ((l1 &&& P_jb) &&& q_1)

def f_sp_crossedRight (N : Nat) (l1 : BitVec 64) (l3 : Int) (P_jr : BitVec 64) : Option (BitVec 64) :=
  Option.bind (f_ce_inColumn N l3) fun q_1 =>
  some ((l1 &&& P_jr) &&& q_1)

def f_sp_offer (N : Nat) (l1 : Int) (l2 : Int) (l3 : Int) (S_w : Int → Int) (S_l : Int → Int) : Option ((Int → Int) × (Int → Int)) :=
  og (0 ≤ l1 ∧ l1 < 784) <|
  og (xR l2) <|
  og (xR (S_w l1)) <|
  if ((S_w l1) : Int) ≤ l2 then (
    some (S_w, S_l)
  ) else (
    Option.bind (some (upi S_w l1 l2 : Int → Int)) fun S_w_4 =>
    Option.bind (some (upi S_l l1 l3 : Int → Int)) fun S_l_5 =>
    some (S_w_4, S_l_5)
  )

def f_sp_planPart_146 (N : Nat) (l1 : Int) (l2 : Int) (l3 : Int) (l4 : Int) (l5 : Int) (l6 : BitVec 64) (P_jr : BitVec 64) : Nat → Int → (Int → Int) → (Int → Int) → Option ((Int → Int) × (Int → Int))
  | 0, _, _, _ => none
  | n + 1, l9, S_w, S_l =>
    og (xR l9) <|
    og (xR l4) <|
    if (l4 : Int) ≤ l9 then (
      some (S_w, S_l)
    ) else (
      Option.bind (f_sp_place N l1 l2 l3 l9) fun q_22 =>
      og (0 ≤ q_22 ∧ q_22 < 784) <|
      Option.bind (f_sp_place N l1 l2 (l9 + 1) l4) fun q_24 =>
      og (0 ≤ q_24 ∧ q_24 < 784) <|
      Option.bind (f_sp_crossedRight N l6 l9 P_jr) fun q_26 =>
      Option.bind (some ((((S_w q_22) + (S_w q_24)) + (popc q_26)) : Int)) fun l10_27 =>
      Option.bind (f_sp_offer N l5 l10_27 (7 + l9) S_w S_l) fun q_28 =>
      Option.bind (some (l9 + 1 : Int)) fun l9_29 =>
      f_sp_planPart_146 N l1 l2 l3 l4 l5 l6 P_jr n l9_29 q_28.1 q_28.2
    )

def f_sp_planPart_76 (N : Nat) (l1 : Int) (l2 : Int) (l3 : Int) (l4 : Int) (l5 : Int) (l6 : BitVec 64) (P_jr : BitVec 64) (P_jb : BitVec 64) : Nat → Int → (Int → Int) → (Int → Int) → Option ((Int → Int) × (Int → Int))
  | 0, _, _, _ => none
  | n + 1, l9, S_w, S_l =>
    og (xR l9) <|
    og (xR l2) <|
    if (l2 : Int) ≤ l9 then (
      f_sp_planPart_146 N l1 l2 l3 l4 l5 l6 P_jr N l3 S_w S_l
    ) else (
      Option.bind (f_sp_place N l1 l9 l3 l4) fun q_12 =>
      og (0 ≤ q_12 ∧ q_12 < 784) <|
      Option.bind (f_sp_place N (l9 + 1) l2 l3 l4) fun q_14 =>
      og (0 ≤ q_14 ∧ q_14 < 784) <|
      Option.bind (f_sp_crossedBelow N l6 l9 P_jb) fun q_16 =>
      Option.bind (some ((((S_w q_12) + (S_w q_14)) + (popc q_16)) : Int)) fun l10_17 =>
      Option.bind (f_sp_offer N l5 l10_17 l9 S_w S_l) fun q_18 =>
      Option.bind (some (l9 + 1 : Int)) fun l9_19 =>
      f_sp_planPart_76 N l1 l2 l3 l4 l5 l6 P_jr P_jb n l9_19 q_18.1 q_18.2
    )

def f_sp_planPart (N : Nat) (l1 : Int) (l2 : Int) (l3 : Int) (l4 : Int) (D_cl : Int) (D_kl : Int) (P_all : BitVec 64) (P_jr : BitVec 64) (P_jb : BitVec 64) (S_cells : BitVec 64) (S_w : Int → Int) (S_l : Int → Int) : Option ((Int → Int) × (Int → Int)) :=
  Option.bind (f_sp_place N l1 l2 l3 l4) fun q_1 =>
  Option.bind (f_ce_block N l1 l2 l3 l4) fun q_2 =>
  Option.bind (some ((S_cells &&& q_2) : BitVec 64)) fun l6_3 =>
  Option.bind (f_pa_countEasyFragments N l6_3 D_cl D_kl P_all P_jr P_jb) fun q_4 =>
  og (0 ≤ q_1 ∧ q_1 < 784) <|
  Option.bind (some (upi S_l q_1 (-1) : Int → Int)) fun S_l_6 =>
  og (xR q_4) <|
  if (q_4 : Int) = (-1) then (
    Option.bind (some (upi S_w q_1 1048576 : Int → Int)) fun S_w_8 =>
    f_sp_planPart_76 N l1 l2 l3 l4 q_1 l6_3 P_jr P_jb N l1 S_w_8 S_l_6
  ) else (
    Option.bind (some (upi S_w q_1 (q_4 * 128) : Int → Int)) fun S_w_9 =>
    some (S_w_9, S_l_6)
  )

def f_sp_plan_73 (N : Nat) (l2 : Int) (l3 : Int) (l4 : Int) (S_planned : Int) (S_cells : BitVec 64) (S_top : Int) (S_bottom : Int) (S_left : Int) (S_right : Int) (D_cl : Int) (D_kl : Int) (P_all : BitVec 64) (P_jr : BitVec 64) (P_jb : BitVec 64) (k36 : Int → (Int → Int) → (Int → Int) → Option (Int × BitVec 64 × Int × Int × Int × Int × (Int → Int) × (Int → Int))) (k46 : Int → (Int → Int) → (Int → Int) → Option (Int × BitVec 64 × Int × Int × Int × Int × (Int → Int) × (Int → Int))) (k60 : Int → (Int → Int) → (Int → Int) → Option (Int × BitVec 64 × Int × Int × Int × Int × (Int → Int) × (Int → Int))) : Nat → Int → (Int → Int) → (Int → Int) → Option (Int × BitVec 64 × Int × Int × Int × Int × (Int → Int) × (Int → Int))
  | 0, _, _, _ => none
  | n + 1, l5, S_w, S_l =>
    og (xR l5) <|
    og (xR S_left) <|
    if (l5 : Int) < S_left then (
      Option.bind (some (l4 + 1 : Int)) fun l4_16 =>
      k60 l4_16 S_w S_l
    ) else (
      Option.bind (f_sp_planPart N l3 l2 l5 l4 D_cl D_kl P_all P_jr P_jb S_cells S_w S_l) fun q_17 =>
      Option.bind (some (l5 + (-1) : Int)) fun l5_18 =>
      f_sp_plan_73 N l2 l3 l4 S_planned S_cells S_top S_bottom S_left S_right D_cl D_kl P_all P_jr P_jb k36 k46 k60 n l5_18 q_17.1 q_17.2
    )

def f_sp_plan_60 (N : Nat) (l2 : Int) (l3 : Int) (S_planned : Int) (S_cells : BitVec 64) (S_top : Int) (S_bottom : Int) (S_left : Int) (S_right : Int) (D_cl : Int) (D_kl : Int) (P_all : BitVec 64) (P_jr : BitVec 64) (P_jb : BitVec 64) (k36 : Int → (Int → Int) → (Int → Int) → Option (Int × BitVec 64 × Int × Int × Int × Int × (Int → Int) × (Int → Int))) (k46 : Int → (Int → Int) → (Int → Int) → Option (Int × BitVec 64 × Int × Int × Int × Int × (Int → Int) × (Int → Int))) : Nat → Int → (Int → Int) → (Int → Int) → Option (Int × BitVec 64 × Int × Int × Int × Int × (Int → Int) × (Int → Int))
  | 0, _, _, _ => none
  | n + 1, l4, S_w, S_l =>
    og (xR l4) <|
    og (xR S_right) <|
    if (S_right : Int) < l4 then (
      Option.bind (some (l3 + (-1) : Int)) fun l3_13 =>
      k46 l3_13 S_w S_l
    ) else (
      f_sp_plan_73 N l2 l3 l4 S_planned S_cells S_top S_bottom S_left S_right D_cl D_kl P_all P_jr P_jb k36 k46 (f_sp_plan_60 N l2 l3 S_planned S_cells S_top S_bottom S_left S_right D_cl D_kl P_all P_jr P_jb k36 k46 n) N l4 S_w S_l
    )

def f_sp_plan_46 (N : Nat) (l2 : Int) (S_planned : Int) (S_cells : BitVec 64) (S_top : Int) (S_bottom : Int) (S_left : Int) (S_right : Int) (D_cl : Int) (D_kl : Int) (P_all : BitVec 64) (P_jr : BitVec 64) (P_jb : BitVec 64) (k36 : Int → (Int → Int) → (Int → Int) → Option (Int × BitVec 64 × Int × Int × Int × Int × (Int → Int) × (Int → Int))) : Nat → Int → (Int → Int) → (Int → Int) → Option (Int × BitVec 64 × Int × Int × Int × Int × (Int → Int) × (Int → Int))
  | 0, _, _, _ => none
  | n + 1, l3, S_w, S_l =>
    og (xR l3) <|
    og (xR S_top) <|
    if (l3 : Int) < S_top then (
      Option.bind (some (l2 + 1 : Int)) fun l2_10 =>
      k36 l2_10 S_w S_l
    ) else (
      f_sp_plan_60 N l2 l3 S_planned S_cells S_top S_bottom S_left S_right D_cl D_kl P_all P_jr P_jb k36 (f_sp_plan_46 N l2 S_planned S_cells S_top S_bottom S_left S_right D_cl D_kl P_all P_jr P_jb k36 n) N S_left S_w S_l
    )

def f_sp_plan_36 (N : Nat) (S_planned : Int) (S_cells : BitVec 64) (S_top : Int) (S_bottom : Int) (S_left : Int) (S_right : Int) (D_cl : Int) (D_kl : Int) (P_all : BitVec 64) (P_jr : BitVec 64) (P_jb : BitVec 64) : Nat → Int → (Int → Int) → (Int → Int) → Option (Int × BitVec 64 × Int × Int × Int × Int × (Int → Int) × (Int → Int))
  | 0, _, _, _ => none
  | n + 1, l2, S_w, S_l =>
    og (xR l2) <|
    og (xR S_bottom) <|
    if (S_bottom : Int) < l2 then (
      some (S_planned, S_cells, S_top, S_bottom, S_left, S_right, S_w, S_l)
    ) else (
      f_sp_plan_46 N l2 S_planned S_cells S_top S_bottom S_left S_right D_cl D_kl P_all P_jr P_jb (f_sp_plan_36 N S_planned S_cells S_top S_bottom S_left S_right D_cl D_kl P_all P_jr P_jb n) N l2 S_w S_l
    )

def f_sp_plan (N : Nat) (l1 : Int) (D_cl : Int) (D_kl : Int) (P_all : BitVec 64) (P_jr : BitVec 64) (P_jb : BitVec 64) (P_cells : Int → BitVec 64) (S_planned : Int) (S_cells : BitVec 64) (S_top : Int) (S_bottom : Int) (S_left : Int) (S_right : Int) (S_w : Int → Int) (S_l : Int → Int) : Option (Int × BitVec 64 × Int × Int × Int × Int × (Int → Int) × (Int → Int)) :=
  og (xR l1) <|
  og (xR S_planned) <|
  if (l1 : Int) = S_planned then (
    some (S_planned, S_cells, S_top, S_bottom, S_left, S_right, S_w, S_l)
  ) else (
    og (0 ≤ l1 ∧ l1 < 49) <|
    Option.bind (some ((P_cells l1) : BitVec 64)) fun S_cells_4 =>
    Option.bind (f_sp_frame N S_cells_4 S_top S_bottom S_left S_right) fun q_5 =>
    f_sp_plan_36 N l1 S_cells_4 q_5.1 q_5.2.1 q_5.2.2.1 q_5.2.2.2 D_cl D_kl P_all P_jr P_jb N q_5.1 S_w S_l
  )

def f_sp_cutPart (N : Nat) : Nat → Int → Int → Int → Int → Int → BitVec 64 → BitVec 64 → BitVec 64 → BitVec 64 → BitVec 64 → (Int → Int) → Option (BitVec 64 × BitVec 64)
  | 0, _, _, _, _, _, _, _, _, _, _, _ => none
  | d + 1, l2, l3, l4, l5, l6, D_cr, D_cb, P_jr, P_jb, S_cells, S_l =>
    let rc := f_sp_cutPart N d
    Option.bind (f_sp_place N l2 l3 l4 l5) fun q_1 =>
    og (0 ≤ q_1 ∧ q_1 < 784) <|
    Option.bind (some ((S_l q_1) : Int)) fun l7_3 =>
    og (xR l7_3) <|
    if (l7_3 : Int) = (-1) then (
      some (D_cr, D_cb)
    ) else (
      og (xR l6) <|
      if (l6 : Int) ≤ 14 then (
        Option.bind (f_ce_block N l2 l3 l4 l5) fun q_6 =>
        Option.bind (some ((S_cells &&& q_6) : BitVec 64)) fun l8_7 =>
        if (7 : Int) ≤ l7_3 then (
          Option.bind (some ((l7_3 - 7) : Int)) fun l10_8 =>
          Option.bind (f_sp_crossedRight N l8_7 l10_8 P_jr) fun q_9 =>
          Option.bind (some ((D_cr ||| q_9) : BitVec 64)) fun D_cr_10 =>
          Option.bind (rc l2 l3 l4 l10_8 (l6 + 1) D_cr_10 D_cb P_jr P_jb S_cells S_l) fun q_11 =>
          Option.bind (rc l2 l3 (l10_8 + 1) l5 (l6 + 1) q_11.1 q_11.2 P_jr P_jb S_cells S_l) fun q_12 =>
          some (q_12.1, q_12.2)
        ) else (
          Option.bind (f_sp_crossedBelow N l8_7 l7_3 P_jb) fun q_13 =>
          Option.bind (some ((D_cb ||| q_13) : BitVec 64)) fun D_cb_14 =>
          Option.bind (rc l2 l7_3 l4 l5 (l6 + 1) D_cr D_cb_14 P_jr P_jb S_cells S_l) fun q_15 =>
          Option.bind (rc (l7_3 + 1) l3 l4 l5 (l6 + 1) q_15.1 q_15.2 P_jr P_jb S_cells S_l) fun q_16 =>
          some (q_16.1, q_16.2)
        )
      ) else (
        some (D_cr, D_cb)
      )
    )

def f_sp_cut (N : Nat) (D_cr : BitVec 64) (D_cb : BitVec 64) (P_jr : BitVec 64) (P_jb : BitVec 64) (S_cells : BitVec 64) (S_top : Int) (S_bottom : Int) (S_left : Int) (S_right : Int) (S_l : Int → Int) : Option (BitVec 64 × BitVec 64) :=
  Option.bind (f_sp_cutPart N 20 S_top S_bottom S_left S_right 0 D_cr D_cb P_jr P_jb S_cells S_l) fun q_1 =>
  some (q_1.1, q_1.2)

def f_hi_remember (N : Nat) (D_rows : Int) (D_cols : Int) (D_cr : BitVec 64) (D_cb : BitVec 64) (D_cl : Int) (D_kl : Int) (D_col : Int → Int) (H_next : Int) (H_count : Int) (K_rows : Int → Int) (K_cols : Int → Int) (K_cr : Int → BitVec 64) (K_cb : Int → BitVec 64) (K_cl : Int → Int) (K_kl : Int → Int) (K_col : Int → Int → Int) : Option (Int × Int × (Int → Int) × (Int → Int) × (Int → BitVec 64) × (Int → BitVec 64) × (Int → Int) × (Int → Int) × (Int → Int → Int)) :=
  og (0 ≤ H_next ∧ H_next < 8) <|
  og (xR (H_count + 1)) <|
  some ((H_next + 1) % 8, min (H_count + 1) 8, upi K_rows H_next D_rows, upi K_cols H_next D_cols, upi K_cr H_next D_cr, upi K_cb H_next D_cb, upi K_cl H_next D_cl, upi K_kl H_next D_kl, upi K_col H_next (cpyi D_col (K_col H_next) 56))

def f_hi_restore (N : Nat) (D_rows : Int) (D_cols : Int) (D_cr : BitVec 64) (D_cb : BitVec 64) (D_cl : Int) (D_kl : Int) (D_col : Int → Int) (H_next : Int) (H_count : Int) (K_rows : Int → Int) (K_cols : Int → Int) (K_cr : Int → BitVec 64) (K_cb : Int → BitVec 64) (K_cl : Int → Int) (K_kl : Int → Int) (K_col : Int → Int → Int) : Option (Int × Int × BitVec 64 × BitVec 64 × Int × Int × (Int → Int) × Int × Int) :=
  og (0 ≤ H_next + 8 - 1 ∧ H_next + 8 - 1 < 2147483648) <|
  some (K_rows ((H_next + 8 - 1) % 8), K_cols ((H_next + 8 - 1) % 8), K_cr ((H_next + 8 - 1) % 8), K_cb ((H_next + 8 - 1) % 8), K_cl ((H_next + 8 - 1) % 8), K_kl ((H_next + 8 - 1) % 8), cpyi (K_col ((H_next + 8 - 1) % 8)) D_col 56, (H_next + 8 - 1) % 8, H_count - 1)

def f_co_hasOrder (N : Nat) (l1 : Int) : Option (Int) :=
  og (xR l1) <|
  if (l1 : Int) < 0 then (
    some 0
  ) else (
    if (3 : Int) ≤ l1 then (
      some 0
    ) else (
      some 1
    )
  )

def f_co_arrangeByNumber_2 (N : Nat) (P_count : Int) : Nat → Int → (Int → Int) → Option ((Int → Int))
  | 0, _, _ => none
  | n + 1, l1, C_seq =>
    og (xR l1) <|
    og (xR P_count) <|
    if (P_count : Int) ≤ l1 then (
      some C_seq
    ) else (
      og (0 ≤ l1 ∧ l1 < 49) <|
      Option.bind (some (upi C_seq l1 l1 : Int → Int)) fun C_seq_4 =>
      Option.bind (some (l1 + 1 : Int)) fun l1_5 =>
      f_co_arrangeByNumber_2 N P_count n l1_5 C_seq_4
    )

def f_co_arrangeByNumber (N : Nat) (P_count : Int) (C_seq : Int → Int) : Option ((Int → Int)) :=
  f_co_arrangeByNumber_2 N P_count N 0 C_seq

def f_co_mostNeighbours_8 (N : Nat) (l1 : BitVec 64) (P_count : Int) (P_near : Int → BitVec 64) : Nat → Int → Int → Int → Option (Int)
  | 0, _, _, _ => none
  | n + 1, l3, l4, l5 =>
    og (xR l5) <|
    og (xR P_count) <|
    if (P_count : Int) ≤ l5 then (
      some l3
    ) else (
      og (0 ≤ l5 ∧ l5 < 49) <|
      Option.bind (some ((popc (P_near l5)) : Int)) fun l6_4 =>
      og (0 ≤ l5 ∧ l5 < 64) <|
      Option.bind ((
        if ((l1 &&& (1#64 <<< (l5).toNat)) : BitVec 64) = 0#64 then (
          Option.bind (some (l5 + 1 : Int)) fun l5_6 =>
          some (l3, l4, l5_6)
        ) else (
          og (xR l6_4) <|
          og (xR l4) <|
          if (l6_4 : Int) ≤ l4 then (
            Option.bind (some (l5 + 1 : Int)) fun l5_9 =>
            some (l3, l4, l5_9)
          ) else (
            Option.bind (some (l5 + 1 : Int)) fun l5_10 =>
            some (l5, l6_4, l5_10)
          )
        )
      ) : Option (Int × Int × Int)) fun r_11 =>
      f_co_mostNeighbours_8 N l1 P_count P_near n r_11.1 r_11.2.1 r_11.2.2
    )

def f_co_mostNeighbours (N : Nat) (l1 : BitVec 64) (P_count : Int) (P_near : Int → BitVec 64) : Option (Int) :=
  f_co_mostNeighbours_8 N l1 P_count P_near N 0 (-1) 0

def f_co_arrangeByNeighbours_10 (N : Nat) (P_count : Int) (P_near : Int → BitVec 64) : Nat → BitVec 64 → Int → (Int → Int) → Option ((Int → Int))
  | 0, _, _, _ => none
  | n + 1, l1, l3, C_seq =>
    og (xR l3) <|
    og (xR P_count) <|
    if (P_count : Int) ≤ l3 then (
      some C_seq
    ) else (
      Option.bind (f_co_mostNeighbours N l1 P_count P_near) fun q_4 =>
      og (0 ≤ l3 ∧ l3 < 49) <|
      Option.bind (some (upi C_seq l3 q_4 : Int → Int)) fun C_seq_6 =>
      og (0 ≤ (C_seq_6 l3) ∧ (C_seq_6 l3) < 64) <|
      Option.bind (some ((l1 &&& ((1#64 <<< ((C_seq_6 l3)).toNat) ^^^ 18446744073709551615#64)) : BitVec 64)) fun l1_8 =>
      Option.bind (some (l3 + 1 : Int)) fun l3_9 =>
      f_co_arrangeByNeighbours_10 N P_count P_near n l1_8 l3_9 C_seq_6
    )

def f_co_arrangeByNeighbours (N : Nat) (P_count : Int) (P_near : Int → BitVec 64) (C_seq : Int → Int) : Option ((Int → Int)) :=
  Option.bind (f_pa_everyPane N P_count) fun q_1 =>
  f_co_arrangeByNeighbours_10 N P_count P_near N q_1 0 C_seq

def f_co_fewestNeighboursAmong_9 (N : Nat) (l1 : BitVec 64) (P_count : Int) (P_near : Int → BitVec 64) : Nat → Int → Int → Int → Option (Int)
  | 0, _, _, _ => none
  | n + 1, l3, l4, l5 =>
    og (xR l5) <|
    og (xR P_count) <|
    if (P_count : Int) ≤ l5 then (
      some l3
    ) else (
      og (0 ≤ l5 ∧ l5 < 49) <|
      Option.bind (some ((popc ((P_near l5) &&& l1)) : Int)) fun l6_4 =>
      og (0 ≤ l5 ∧ l5 < 64) <|
      Option.bind ((
        if ((l1 &&& (1#64 <<< (l5).toNat)) : BitVec 64) = 0#64 then (
          Option.bind (some (l5 + 1 : Int)) fun l5_6 =>
          some (l3, l4, l5_6)
        ) else (
          og (xR l6_4) <|
          og (xR l4) <|
          if (l4 : Int) ≤ l6_4 then (
            Option.bind (some (l5 + 1 : Int)) fun l5_9 =>
            some (l3, l4, l5_9)
          ) else (
            Option.bind (some (l5 + 1 : Int)) fun l5_10 =>
            some (l5, l6_4, l5_10)
          )
        )
      ) : Option (Int × Int × Int)) fun r_11 =>
      f_co_fewestNeighboursAmong_9 N l1 P_count P_near n r_11.1 r_11.2.1 r_11.2.2
    )

def f_co_fewestNeighboursAmong (N : Nat) (l1 : BitVec 64) (P_count : Int) (P_near : Int → BitVec 64) : Option (Int) :=
  f_co_fewestNeighboursAmong_9 N l1 P_count P_near N 0 49 0

def f_co_arrangeByRemoval_18 (N : Nat) (P_count : Int) (P_near : Int → BitVec 64) : Nat → BitVec 64 → Int → (Int → Int) → Option ((Int → Int))
  | 0, _, _, _ => none
  | n + 1, l1, l3, C_seq =>
    og (xR l3) <|
    if (l3 : Int) < 0 then (
      some C_seq
    ) else (
      Option.bind (f_co_fewestNeighboursAmong N l1 P_count P_near) fun q_4 =>
      og (0 ≤ l3 ∧ l3 < 49) <|
      Option.bind (some (upi C_seq l3 q_4 : Int → Int)) fun C_seq_6 =>
      og (0 ≤ (C_seq_6 l3) ∧ (C_seq_6 l3) < 64) <|
      Option.bind (some ((l1 &&& ((1#64 <<< ((C_seq_6 l3)).toNat) ^^^ 18446744073709551615#64)) : BitVec 64)) fun l1_8 =>
      Option.bind (some (l3 + (-1) : Int)) fun l3_9 =>
      f_co_arrangeByRemoval_18 N P_count P_near n l1_8 l3_9 C_seq_6
    )

def f_co_arrangeByRemoval (N : Nat) (P_count : Int) (P_near : Int → BitVec 64) (C_seq : Int → Int) : Option ((Int → Int)) :=
  Option.bind (f_pa_everyPane N P_count) fun q_1 =>
  Option.bind (some ((P_count - 1) : Int)) fun l3_2 =>
  f_co_arrangeByRemoval_18 N P_count P_near N q_1 l3_2 C_seq

def f_co_smallestFree_5 (N : Nat) (l1 : Int) (P_count : Int) (P_near : Int → BitVec 64) (C_given : Int → Int) : Nat → BitVec 64 → Int → Option (Int)
  | 0, _, _ => none
  | n + 1, l2, l4 =>
    og (xR l4) <|
    og (xR P_count) <|
    if (P_count : Int) ≤ l4 then (
      Option.bind (f_ce_numberOfFirst N (l2 ^^^ 18446744073709551615#64)) fun q_18 =>
      some q_18
    ) else (
      og (0 ≤ l1 ∧ l1 < 49) <|
      og (0 ≤ l4 ∧ l4 < 64) <|
      Option.bind ((
        if (((P_near l1) &&& (1#64 <<< (l4).toNat)) : BitVec 64) = 0#64 then (
          some 0
        ) else (
          some 1
        )
      ) : Option (Int)) fun r_21 =>
      og (xR r_21) <|
      Option.bind ((
        if (r_21 : Int) = 0 then (
          Option.bind (some (l4 + 1 : Int)) fun l4_23 =>
          some (l2, l4_23)
        ) else (
          og (0 ≤ l4 ∧ l4 < 49) <|
          og (xR (C_given l4)) <|
          if ((C_given l4) : Int) = (-1) then (
            Option.bind (some (l4 + 1 : Int)) fun l4_26 =>
            some (l2, l4_26)
          ) else (
            og (0 ≤ (C_given l4) ∧ (C_given l4) < 64) <|
            Option.bind (some ((l2 ||| (1#64 <<< ((C_given l4)).toNat)) : BitVec 64)) fun l2_28 =>
            Option.bind (some (l4 + 1 : Int)) fun l4_29 =>
            some (l2_28, l4_29)
          )
        )
      ) : Option (BitVec 64 × Int)) fun r_30 =>
      f_co_smallestFree_5 N l1 P_count P_near C_given n r_30.1 r_30.2
    )

def f_co_smallestFree (N : Nat) (l1 : Int) (P_count : Int) (P_near : Int → BitVec 64) (C_given : Int → Int) : Option (Int) :=
  f_co_smallestFree_5 N l1 P_count P_near C_given N (0#64) 0

def f_co_paint_58 (N : Nat) (C_seq : Int → Int) (P_count : Int) (P_near : Int → BitVec 64) : Nat → BitVec 64 → Int → (Int → Int) → Option (Int × (Int → Int) × (Int → Int))
  | 0, _, _, _ => none
  | n + 1, l2, l4, C_given =>
    og (xR l4) <|
    og (xR P_count) <|
    if (P_count : Int) ≤ l4 then (
      some ((popc l2), C_seq, C_given)
    ) else (
      og (0 ≤ l4 ∧ l4 < 49) <|
      Option.bind (some ((C_seq l4) : Int)) fun l5_14 =>
      Option.bind (f_co_smallestFree N l5_14 P_count P_near C_given) fun q_15 =>
      og (0 ≤ l5_14 ∧ l5_14 < 49) <|
      Option.bind (some (upi C_given l5_14 q_15 : Int → Int)) fun C_given_17 =>
      og (0 ≤ (C_given_17 l5_14) ∧ (C_given_17 l5_14) < 64) <|
      Option.bind (some ((l2 ||| (1#64 <<< ((C_given_17 l5_14)).toNat)) : BitVec 64)) fun l2_19 =>
      Option.bind (some (l4 + 1 : Int)) fun l4_20 =>
      f_co_paint_58 N C_seq P_count P_near n l2_19 l4_20 C_given_17
    )

def f_co_paint_29 (N : Nat) (C_seq : Int → Int) (P_count : Int) (P_near : Int → BitVec 64) : Nat → Int → (Int → Int) → Option (Int × (Int → Int) × (Int → Int))
  | 0, _, _ => none
  | n + 1, l2, C_given =>
    og (xR l2) <|
    og (xR P_count) <|
    if (P_count : Int) ≤ l2 then (
      f_co_paint_58 N C_seq P_count P_near N (0#64) 0 C_given
    ) else (
      og (0 ≤ l2 ∧ l2 < 49) <|
      Option.bind (some (upi C_given l2 (-1) : Int → Int)) fun C_given_9 =>
      Option.bind (some (l2 + 1 : Int)) fun l2_10 =>
      f_co_paint_29 N C_seq P_count P_near n l2_10 C_given_9
    )

def f_co_paint (N : Nat) (l1 : Int) (P_count : Int) (P_near : Int → BitVec 64) (C_seq : Int → Int) (C_given : Int → Int) : Option (Int × (Int → Int) × (Int → Int)) :=
  og (xR l1) <|
  Option.bind ((
    if (l1 : Int) = 0 then (
      Option.bind (f_co_arrangeByNumber N P_count C_seq) fun q_4 =>
      some q_4
    ) else (
      if (l1 : Int) = 1 then (
        Option.bind (f_co_arrangeByNeighbours N P_count P_near C_seq) fun q_3 =>
        some q_3
      ) else (
        Option.bind (f_co_arrangeByRemoval N P_count P_near C_seq) fun q_2 =>
        some q_2
      )
    )
  ) : Option ((Int → Int))) fun r_5 =>
  f_co_paint_29 N r_5 P_count P_near N 0 C_given

def f_gp_refresh (N : Nat) (D_rows : Int) (D_cols : Int) (D_cr : BitVec 64) (D_cb : BitVec 64) (D_col : Int → Int) (P_all : BitVec 64) (P_jr : BitVec 64) (P_jb : BitVec 64) (P_count : Int) (P_cells : Int → BitVec 64) (P_near : Int → BitVec 64) (S_planned : Int) : Option (BitVec 64 × BitVec 64 × BitVec 64 × Int × (Int → BitVec 64) × (Int → BitVec 64) × Int) :=
  Option.bind (f_pa_find N D_rows D_cols D_cr D_cb D_col P_all P_jr P_jb P_count P_cells P_near) fun q_1 =>
  Option.bind (f_sp_forget N S_planned) fun q_2 =>
  some (q_1.1, q_1.2.1, q_1.2.2.1, q_1.2.2.2.1, q_1.2.2.2.2.1, q_1.2.2.2.2.2, q_2)

def f_gp_flipCut (N : Nat) (l1 : Int) (l2 : Int) (l3 : Int) (D_rows : Int) (D_cols : Int) (D_cr : BitVec 64) (D_cb : BitVec 64) (D_cl : Int) (D_kl : Int) (D_col : Int → Int) (H_next : Int) (H_count : Int) (K_rows : Int → Int) (K_cols : Int → Int) (K_cr : Int → BitVec 64) (K_cb : Int → BitVec 64) (K_cl : Int → Int) (K_kl : Int → Int) (K_col : Int → Int → Int) (P_all : BitVec 64) (P_jr : BitVec 64) (P_jb : BitVec 64) (P_count : Int) (P_cells : Int → BitVec 64) (P_near : Int → BitVec 64) (S_planned : Int) : Option (Int × BitVec 64 × BitVec 64 × Int × Int × (Int → Int) × (Int → Int) × (Int → BitVec 64) × (Int → BitVec 64) × (Int → Int) × (Int → Int) × (Int → Int → Int) × BitVec 64 × BitVec 64 × BitVec 64 × Int × (Int → BitVec 64) × (Int → BitVec 64) × Int) :=
  Option.bind (f_hi_remember N D_rows D_cols D_cr D_cb D_cl D_kl D_col H_next H_count K_rows K_cols K_cr K_cb K_cl K_kl K_col) fun q_1 =>
  Option.bind (f_dr_flip N l1 l2 l3 D_cr D_cb) fun q_2 =>
  Option.bind (f_gp_refresh N D_rows D_cols q_2.1 q_2.2 D_col P_all P_jr P_jb P_count P_cells P_near S_planned) fun q_3 =>
  Option.bind (f_dr_countCuts N q_2.1 q_2.2) fun q_4 =>
  some (q_4, q_2.1, q_2.2, q_1.1, q_1.2.1, q_1.2.2.1, q_1.2.2.2.1, q_1.2.2.2.2.1, q_1.2.2.2.2.2.1, q_1.2.2.2.2.2.2.1, q_1.2.2.2.2.2.2.2.1, q_1.2.2.2.2.2.2.2.2, q_3.1, q_3.2.1, q_3.2.2.1, q_3.2.2.2.1, q_3.2.2.2.2.1, q_3.2.2.2.2.2.1, q_3.2.2.2.2.2.2)

def f_gp_appendCharacter (N : Nat) (l1 : Int) (T_len : Int) (T_ch : Int → Int) : Option (Int × Int × (Int → Int)) :=
  og (xR l1) <|
  if (l1 : Int) < 0 then (
    some ((-1), T_len, T_ch)
  ) else (
    if (l1 : Int) ≤ 255 then (
      Option.bind (f_te_append N l1 T_len T_ch) fun q_2 =>
      og (xR q_2.1) <|
      if (q_2.1 : Int) = 0 then (
        some ((-3), q_2.2.1, q_2.2.2)
      ) else (
        some (q_2.2.1, q_2.2.1, q_2.2.2)
      )
    ) else (
      some ((-1), T_len, T_ch)
    )
  )

def f_gp_clearText (N : Nat) (T_len : Int) : Option (Int × Int) :=
  some (T_len, 0)

def f_gp_loadDrawing (N : Nat) (T_len : Int) (T_ch : Int → Int) (D_rows : Int) (D_cols : Int) (D_cr : BitVec 64) (D_cb : BitVec 64) (D_cl : Int) (D_kl : Int) (D_col : Int → Int) (H_next : Int) (H_count : Int) (K_rows : Int → Int) (K_cols : Int → Int) (K_cr : Int → BitVec 64) (K_cb : Int → BitVec 64) (K_cl : Int → Int) (K_kl : Int → Int) (K_col : Int → Int → Int) (P_all : BitVec 64) (P_jr : BitVec 64) (P_jb : BitVec 64) (P_count : Int) (P_cells : Int → BitVec 64) (P_near : Int → BitVec 64) (S_planned : Int) : Option (Int × Int × Int × Int × BitVec 64 × BitVec 64 × (Int → Int) × Int × Int × (Int → Int) × (Int → Int) × (Int → BitVec 64) × (Int → BitVec 64) × (Int → Int) × (Int → Int) × (Int → Int → Int) × BitVec 64 × BitVec 64 × BitVec 64 × Int × (Int → BitVec 64) × (Int → BitVec 64) × Int) :=
  Option.bind (f_te_errorOffset N T_len T_ch) fun q_1 =>
  og (xR q_1) <|
  if (q_1 : Int) = (-1) then (
    Option.bind (f_hi_remember N D_rows D_cols D_cr D_cb D_cl D_kl D_col H_next H_count K_rows K_cols K_cr K_cb K_cl K_kl K_col) fun q_3 =>
    Option.bind (f_te_copyTo N T_len T_ch D_rows D_cols D_col) fun q_4 =>
    Option.bind (f_gp_refresh N q_4.1 q_4.2.1 (0#64) (0#64) q_4.2.2 P_all P_jr P_jb P_count P_cells P_near S_planned) fun q_5 =>
    some (q_5.2.2.2.1, 0, q_4.1, q_4.2.1, 0#64, 0#64, q_4.2.2, q_3.1, q_3.2.1, q_3.2.2.1, q_3.2.2.2.1, q_3.2.2.2.2.1, q_3.2.2.2.2.2.1, q_3.2.2.2.2.2.2.1, q_3.2.2.2.2.2.2.2.1, q_3.2.2.2.2.2.2.2.2, q_5.1, q_5.2.1, q_5.2.2.1, q_5.2.2.2.1, q_5.2.2.2.2.1, q_5.2.2.2.2.2.1, q_5.2.2.2.2.2.2)
  ) else (
    some (((-10) - q_1), T_len, D_rows, D_cols, D_cr, D_cb, D_col, H_next, H_count, K_rows, K_cols, K_cr, K_cb, K_cl, K_kl, K_col, P_all, P_jr, P_jb, P_count, P_cells, P_near, S_planned)
  )

def f_gp_setColour (N : Nat) (l1 : Int) (l2 : Int) (l3 : Int) (D_rows : Int) (D_cols : Int) (D_cr : BitVec 64) (D_cb : BitVec 64) (D_cl : Int) (D_kl : Int) (D_col : Int → Int) (H_next : Int) (H_count : Int) (K_rows : Int → Int) (K_cols : Int → Int) (K_cr : Int → BitVec 64) (K_cb : Int → BitVec 64) (K_cl : Int → Int) (K_kl : Int → Int) (K_col : Int → Int → Int) (P_all : BitVec 64) (P_jr : BitVec 64) (P_jb : BitVec 64) (P_count : Int) (P_cells : Int → BitVec 64) (P_near : Int → BitVec 64) (S_planned : Int) : Option (Int × (Int → Int) × Int × Int × (Int → Int) × (Int → Int) × (Int → BitVec 64) × (Int → BitVec 64) × (Int → Int) × (Int → Int) × (Int → Int → Int) × BitVec 64 × BitVec 64 × BitVec 64 × Int × (Int → BitVec 64) × (Int → BitVec 64) × Int) :=
  Option.bind (f_dr_hasCell N l1 l2 D_rows D_cols) fun q_1 =>
  og (xR q_1) <|
  if (q_1 : Int) = 0 then (
    some ((-1), D_col, H_next, H_count, K_rows, K_cols, K_cr, K_cb, K_cl, K_kl, K_col, P_all, P_jr, P_jb, P_count, P_cells, P_near, S_planned)
  ) else (
    og (xR l3) <|
    if (l3 : Int) < 0 then (
      some ((-1), D_col, H_next, H_count, K_rows, K_cols, K_cr, K_cb, K_cl, K_kl, K_col, P_all, P_jr, P_jb, P_count, P_cells, P_near, S_planned)
    ) else (
      if (l3 : Int) ≤ 5 then (
        Option.bind (f_ce_number N l1 l2) fun q_4 =>
        og (0 ≤ q_4 ∧ q_4 < 56) <|
        Option.bind (some ((D_col q_4) : Int)) fun l5_6 =>
        og (xR l5_6) <|
        if (l5_6 : Int) = l3 then (
          some ((-2), D_col, H_next, H_count, K_rows, K_cols, K_cr, K_cb, K_cl, K_kl, K_col, P_all, P_jr, P_jb, P_count, P_cells, P_near, S_planned)
        ) else (
          Option.bind (f_hi_remember N D_rows D_cols D_cr D_cb D_cl D_kl D_col H_next H_count K_rows K_cols K_cr K_cb K_cl K_kl K_col) fun q_8 =>
          Option.bind (some (upi D_col q_4 l3 : Int → Int)) fun D_col_9 =>
          Option.bind (f_gp_refresh N D_rows D_cols D_cr D_cb D_col_9 P_all P_jr P_jb P_count P_cells P_near S_planned) fun q_10 =>
          some (l5_6, D_col_9, q_8.1, q_8.2.1, q_8.2.2.1, q_8.2.2.2.1, q_8.2.2.2.2.1, q_8.2.2.2.2.2.1, q_8.2.2.2.2.2.2.1, q_8.2.2.2.2.2.2.2.1, q_8.2.2.2.2.2.2.2.2, q_10.1, q_10.2.1, q_10.2.2.1, q_10.2.2.2.1, q_10.2.2.2.2.1, q_10.2.2.2.2.2.1, q_10.2.2.2.2.2.2)
        )
      ) else (
        some ((-1), D_col, H_next, H_count, K_rows, K_cols, K_cr, K_cb, K_cl, K_kl, K_col, P_all, P_jr, P_jb, P_count, P_cells, P_near, S_planned)
      )
    )
  )

def f_gp_rows (N : Nat) (D_rows : Int) : Option (Int) :=
  some D_rows

def f_gp_columns (N : Nat) (D_cols : Int) : Option (Int) :=
  some D_cols

def f_gp_colourAt (N : Nat) (l1 : Int) (l2 : Int) (D_rows : Int) (D_cols : Int) (D_col : Int → Int) : Option (Int) :=
  Option.bind (f_dr_hasCell N l1 l2 D_rows D_cols) fun q_1 =>
  og (xR q_1) <|
  if (q_1 : Int) = 0 then (
    some (-1)
  ) else (
    Option.bind (f_ce_number N l1 l2) fun q_3 =>
    og (0 ≤ q_3 ∧ q_3 < 56) <|
    some (D_col q_3)
  )

def f_gp_addCut (N : Nat) (l1 : Int) (l2 : Int) (l3 : Int) (D_rows : Int) (D_cols : Int) (D_cr : BitVec 64) (D_cb : BitVec 64) (D_cl : Int) (D_kl : Int) (D_col : Int → Int) (H_next : Int) (H_count : Int) (K_rows : Int → Int) (K_cols : Int → Int) (K_cr : Int → BitVec 64) (K_cb : Int → BitVec 64) (K_cl : Int → Int) (K_kl : Int → Int) (K_col : Int → Int → Int) (P_all : BitVec 64) (P_jr : BitVec 64) (P_jb : BitVec 64) (P_count : Int) (P_cells : Int → BitVec 64) (P_near : Int → BitVec 64) (S_planned : Int) : Option (Int × BitVec 64 × BitVec 64 × Int × Int × (Int → Int) × (Int → Int) × (Int → BitVec 64) × (Int → BitVec 64) × (Int → Int) × (Int → Int) × (Int → Int → Int) × BitVec 64 × BitVec 64 × BitVec 64 × Int × (Int → BitVec 64) × (Int → BitVec 64) × Int) :=
  Option.bind (f_dr_hasPair N l1 l2 l3 D_rows D_cols) fun q_1 =>
  og (xR q_1) <|
  if (q_1 : Int) = 0 then (
    some ((-1), D_cr, D_cb, H_next, H_count, K_rows, K_cols, K_cr, K_cb, K_cl, K_kl, K_col, P_all, P_jr, P_jb, P_count, P_cells, P_near, S_planned)
  ) else (
    Option.bind (f_dr_hasCut N l1 l2 l3 D_cr D_cb) fun q_3 =>
    og (xR q_3) <|
    if (q_3 : Int) = 0 then (
      Option.bind (f_gp_flipCut N l1 l2 l3 D_rows D_cols D_cr D_cb D_cl D_kl D_col H_next H_count K_rows K_cols K_cr K_cb K_cl K_kl K_col P_all P_jr P_jb P_count P_cells P_near S_planned) fun q_5 =>
      some (q_5.1, q_5.2.1, q_5.2.2.1, q_5.2.2.2.1, q_5.2.2.2.2.1, q_5.2.2.2.2.2.1, q_5.2.2.2.2.2.2.1, q_5.2.2.2.2.2.2.2.1, q_5.2.2.2.2.2.2.2.2.1, q_5.2.2.2.2.2.2.2.2.2.1, q_5.2.2.2.2.2.2.2.2.2.2.1, q_5.2.2.2.2.2.2.2.2.2.2.2.1, q_5.2.2.2.2.2.2.2.2.2.2.2.2.1, q_5.2.2.2.2.2.2.2.2.2.2.2.2.2.1, q_5.2.2.2.2.2.2.2.2.2.2.2.2.2.2.1, q_5.2.2.2.2.2.2.2.2.2.2.2.2.2.2.2.1, q_5.2.2.2.2.2.2.2.2.2.2.2.2.2.2.2.2.1, q_5.2.2.2.2.2.2.2.2.2.2.2.2.2.2.2.2.2.1, q_5.2.2.2.2.2.2.2.2.2.2.2.2.2.2.2.2.2.2)
    ) else (
      some ((-2), D_cr, D_cb, H_next, H_count, K_rows, K_cols, K_cr, K_cb, K_cl, K_kl, K_col, P_all, P_jr, P_jb, P_count, P_cells, P_near, S_planned)
    )
  )

def f_gp_removeCut (N : Nat) (l1 : Int) (l2 : Int) (l3 : Int) (D_rows : Int) (D_cols : Int) (D_cr : BitVec 64) (D_cb : BitVec 64) (D_cl : Int) (D_kl : Int) (D_col : Int → Int) (H_next : Int) (H_count : Int) (K_rows : Int → Int) (K_cols : Int → Int) (K_cr : Int → BitVec 64) (K_cb : Int → BitVec 64) (K_cl : Int → Int) (K_kl : Int → Int) (K_col : Int → Int → Int) (P_all : BitVec 64) (P_jr : BitVec 64) (P_jb : BitVec 64) (P_count : Int) (P_cells : Int → BitVec 64) (P_near : Int → BitVec 64) (S_planned : Int) : Option (Int × BitVec 64 × BitVec 64 × Int × Int × (Int → Int) × (Int → Int) × (Int → BitVec 64) × (Int → BitVec 64) × (Int → Int) × (Int → Int) × (Int → Int → Int) × BitVec 64 × BitVec 64 × BitVec 64 × Int × (Int → BitVec 64) × (Int → BitVec 64) × Int) :=
  Option.bind (f_dr_hasPair N l1 l2 l3 D_rows D_cols) fun q_1 =>
  og (xR q_1) <|
  if (q_1 : Int) = 0 then (
    some ((-1), D_cr, D_cb, H_next, H_count, K_rows, K_cols, K_cr, K_cb, K_cl, K_kl, K_col, P_all, P_jr, P_jb, P_count, P_cells, P_near, S_planned)
  ) else (
    Option.bind (f_dr_hasCut N l1 l2 l3 D_cr D_cb) fun q_3 =>
    og (xR q_3) <|
    if (q_3 : Int) = 0 then (
      some ((-2), D_cr, D_cb, H_next, H_count, K_rows, K_cols, K_cr, K_cb, K_cl, K_kl, K_col, P_all, P_jr, P_jb, P_count, P_cells, P_near, S_planned)
    ) else (
      Option.bind (f_gp_flipCut N l1 l2 l3 D_rows D_cols D_cr D_cb D_cl D_kl D_col H_next H_count K_rows K_cols K_cr K_cb K_cl K_kl K_col P_all P_jr P_jb P_count P_cells P_near S_planned) fun q_5 =>
      some (q_5.1, q_5.2.1, q_5.2.2.1, q_5.2.2.2.1, q_5.2.2.2.2.1, q_5.2.2.2.2.2.1, q_5.2.2.2.2.2.2.1, q_5.2.2.2.2.2.2.2.1, q_5.2.2.2.2.2.2.2.2.1, q_5.2.2.2.2.2.2.2.2.2.1, q_5.2.2.2.2.2.2.2.2.2.2.1, q_5.2.2.2.2.2.2.2.2.2.2.2.1, q_5.2.2.2.2.2.2.2.2.2.2.2.2.1, q_5.2.2.2.2.2.2.2.2.2.2.2.2.2.1, q_5.2.2.2.2.2.2.2.2.2.2.2.2.2.2.1, q_5.2.2.2.2.2.2.2.2.2.2.2.2.2.2.2.1, q_5.2.2.2.2.2.2.2.2.2.2.2.2.2.2.2.2.1, q_5.2.2.2.2.2.2.2.2.2.2.2.2.2.2.2.2.2.1, q_5.2.2.2.2.2.2.2.2.2.2.2.2.2.2.2.2.2.2)
    )
  )

def f_gp_looseCuts (N : Nat) (D_cr : BitVec 64) (D_cb : BitVec 64) (P_count : Int) (P_cells : Int → BitVec 64) : Option (Int) :=
  Option.bind (f_pa_looseRight N D_cr P_count P_cells) fun q_1 =>
  Option.bind (f_pa_looseBelow N D_cb P_count P_cells) fun q_2 =>
  some ((popc q_1) + (popc q_2))

def f_gp_removeLooseCuts_31 (N : Nat) (D_rows : Int) (D_cols : Int) (D_cl : Int) (D_kl : Int) (D_col : Int → Int) (l1 : BitVec 64) (l3 : BitVec 64) (D_cr : BitVec 64) (D_cb : BitVec 64) (H_next : Int) (H_count : Int) (K_rows : Int → Int) (K_cols : Int → Int) (K_cr : Int → BitVec 64) (K_cb : Int → BitVec 64) (K_cl : Int → Int) (K_kl : Int → Int) (K_col : Int → Int → Int) (P_all : BitVec 64) (P_jr : BitVec 64) (P_jb : BitVec 64) (P_count : Int) (P_cells : Int → BitVec 64) (P_near : Int → BitVec 64) (S_planned : Int) : Option (Int × BitVec 64 × BitVec 64 × Int × Int × (Int → Int) × (Int → Int) × (Int → BitVec 64) × (Int → BitVec 64) × (Int → Int) × (Int → Int) × (Int → Int → Int) × BitVec 64 × BitVec 64 × BitVec 64 × Int × (Int → BitVec 64) × (Int → BitVec 64) × Int) :=
  Option.bind (f_hi_remember N D_rows D_cols D_cr D_cb D_cl D_kl D_col H_next H_count K_rows K_cols K_cr K_cb K_cl K_kl K_col) fun q_3 =>
  Option.bind (some ((D_cr &&& (l1 ^^^ 18446744073709551615#64)) : BitVec 64)) fun D_cr_4 =>
  Option.bind (some ((D_cb &&& (l3 ^^^ 18446744073709551615#64)) : BitVec 64)) fun D_cb_5 =>
  Option.bind (f_gp_refresh N D_rows D_cols D_cr_4 D_cb_5 D_col P_all P_jr P_jb P_count P_cells P_near S_planned) fun q_6 =>
  some (((popc l1) + (popc l3)), D_cr_4, D_cb_5, q_3.1, q_3.2.1, q_3.2.2.1, q_3.2.2.2.1, q_3.2.2.2.2.1, q_3.2.2.2.2.2.1, q_3.2.2.2.2.2.2.1, q_3.2.2.2.2.2.2.2.1, q_3.2.2.2.2.2.2.2.2, q_6.1, q_6.2.1, q_6.2.2.1, q_6.2.2.2.1, q_6.2.2.2.2.1, q_6.2.2.2.2.2.1, q_6.2.2.2.2.2.2)

def f_gp_removeLooseCuts (N : Nat) (D_rows : Int) (D_cols : Int) (D_cr : BitVec 64) (D_cb : BitVec 64) (D_cl : Int) (D_kl : Int) (D_col : Int → Int) (H_next : Int) (H_count : Int) (K_rows : Int → Int) (K_cols : Int → Int) (K_cr : Int → BitVec 64) (K_cb : Int → BitVec 64) (K_cl : Int → Int) (K_kl : Int → Int) (K_col : Int → Int → Int) (P_all : BitVec 64) (P_jr : BitVec 64) (P_jb : BitVec 64) (P_count : Int) (P_cells : Int → BitVec 64) (P_near : Int → BitVec 64) (S_planned : Int) : Option (Int × BitVec 64 × BitVec 64 × Int × Int × (Int → Int) × (Int → Int) × (Int → BitVec 64) × (Int → BitVec 64) × (Int → Int) × (Int → Int) × (Int → Int → Int) × BitVec 64 × BitVec 64 × BitVec 64 × Int × (Int → BitVec 64) × (Int → BitVec 64) × Int) :=
  Option.bind (f_pa_looseRight N D_cr P_count P_cells) fun q_1 =>
  Option.bind (f_pa_looseBelow N D_cb P_count P_cells) fun q_2 =>
  if (q_1 : BitVec 64) = 0#64 then (
    if (q_2 : BitVec 64) = 0#64 then (
      some ((-2), D_cr, D_cb, H_next, H_count, K_rows, K_cols, K_cr, K_cb, K_cl, K_kl, K_col, P_all, P_jr, P_jb, P_count, P_cells, P_near, S_planned)
    ) else (
      f_gp_removeLooseCuts_31 N D_rows D_cols D_cl D_kl D_col q_1 q_2 D_cr D_cb H_next H_count K_rows K_cols K_cr K_cb K_cl K_kl K_col P_all P_jr P_jb P_count P_cells P_near S_planned
    )
  ) else (
    f_gp_removeLooseCuts_31 N D_rows D_cols D_cl D_kl D_col q_1 q_2 D_cr D_cb H_next H_count K_rows K_cols K_cr K_cb K_cl K_kl K_col P_all P_jr P_jb P_count P_cells P_near S_planned
  )

def f_gp_paneCount (N : Nat) (P_count : Int) : Option (Int) :=
  some P_count

def f_gp_paneAt (N : Nat) (l1 : Int) (l2 : Int) (D_rows : Int) (D_cols : Int) (P_count : Int) (P_cells : Int → BitVec 64) : Option (Int) :=
  Option.bind (f_dr_hasCell N l1 l2 D_rows D_cols) fun q_1 =>
  og (xR q_1) <|
  if (q_1 : Int) = 0 then (
    some (-1)
  ) else (
    Option.bind (f_ce_only N l1 l2) fun q_3 =>
    Option.bind (f_pa_numberOf N q_3 P_count P_cells) fun q_4 =>
    some q_4
  )

def f_gp_paneSize (N : Nat) (l1 : Int) (P_count : Int) (P_cells : Int → BitVec 64) : Option (Int) :=
  Option.bind (f_pa_hasPane N l1 P_count) fun q_1 =>
  og (xR q_1) <|
  if (q_1 : Int) = 0 then (
    some (-1)
  ) else (
    og (0 ≤ l1 ∧ l1 < 49) <|
    some (popc (P_cells l1))
  )

def f_gp_innerCorners (N : Nat) (l1 : Int) (P_count : Int) (P_cells : Int → BitVec 64) : Option (Int) :=
  Option.bind (f_pa_hasPane N l1 P_count) fun q_1 =>
  og (xR q_1) <|
  if (q_1 : Int) = 0 then (
    some (-1)
  ) else (
    og (0 ≤ l1 ∧ l1 < 49) <|
    Option.bind (f_ce_countInnerCorners N (P_cells l1)) fun q_4 =>
    some q_4
  )

def f_gp_holes (N : Nat) (l1 : Int) (P_all : BitVec 64) (P_count : Int) (P_cells : Int → BitVec 64) : Option (Int) :=
  Option.bind (f_pa_hasPane N l1 P_count) fun q_1 =>
  og (xR q_1) <|
  if (q_1 : Int) = 0 then (
    some (-1)
  ) else (
    og (0 ≤ l1 ∧ l1 < 49) <|
    Option.bind (f_ce_countHoles N (P_cells l1) P_all) fun q_4 =>
    some q_4
  )

def f_gp_canBeCut (N : Nat) (l1 : Int) (D_cl : Int) (D_kl : Int) (P_all : BitVec 64) (P_count : Int) (P_cells : Int → BitVec 64) : Option (Int) :=
  Option.bind (f_pa_hasPane N l1 P_count) fun q_1 =>
  og (xR q_1) <|
  if (q_1 : Int) = 0 then (
    some (-1)
  ) else (
    og (0 ≤ l1 ∧ l1 < 49) <|
    Option.bind (f_pa_isEasy N (P_cells l1) D_cl D_kl P_all) fun q_4 =>
    og (xR q_4) <|
    if (q_4 : Int) = 0 then (
      some 0
    ) else (
      some 1
    )
  )

def f_gp_cuttableCount_4 (N : Nat) (D_cl : Int) (D_kl : Int) (P_all : BitVec 64) (P_count : Int) (P_cells : Int → BitVec 64) : Nat → Int → Int → Option (Int)
  | 0, _, _ => none
  | n + 1, l1, l2 =>
    og (xR l2) <|
    og (xR P_count) <|
    if (P_count : Int) ≤ l2 then (
      some l1
    ) else (
      og (0 ≤ l2 ∧ l2 < 49) <|
      Option.bind (f_pa_isEasy N (P_cells l2) D_cl D_kl P_all) fun q_4 =>
      og (xR q_4) <|
      Option.bind ((
        if (q_4 : Int) = 0 then (
          Option.bind (some (l2 + 1 : Int)) fun l2_6 =>
          some (l1, l2_6)
        ) else (
          Option.bind (some (l1 + 1 : Int)) fun l1_7 =>
          Option.bind (some (l2 + 1 : Int)) fun l2_8 =>
          some (l1_7, l2_8)
        )
      ) : Option (Int × Int)) fun r_9 =>
      f_gp_cuttableCount_4 N D_cl D_kl P_all P_count P_cells n r_9.1 r_9.2
    )

def f_gp_cuttableCount (N : Nat) (D_cl : Int) (D_kl : Int) (P_all : BitVec 64) (P_count : Int) (P_cells : Int → BitVec 64) : Option (Int) :=
  f_gp_cuttableCount_4 N D_cl D_kl P_all P_count P_cells N 0 0

def f_gp_neighbourCount (N : Nat) (l1 : Int) (P_count : Int) (P_near : Int → BitVec 64) : Option (Int) :=
  Option.bind (f_pa_hasPane N l1 P_count) fun q_1 =>
  og (xR q_1) <|
  if (q_1 : Int) = 0 then (
    some (-1)
  ) else (
    og (0 ≤ l1 ∧ l1 < 49) <|
    some (popc (P_near l1))
  )

def f_gp_leadLength (N : Nat) (P_all : BitVec 64) (P_count : Int) (P_cells : Int → BitVec 64) : Option (Int) :=
  Option.bind (f_pa_measureLead N P_all P_count P_cells) fun q_1 =>
  some q_1

def f_gp_setCellLimit (N : Nat) (l1 : Int) (D_rows : Int) (D_cols : Int) (D_cr : BitVec 64) (D_cb : BitVec 64) (D_cl : Int) (D_kl : Int) (D_col : Int → Int) (H_next : Int) (H_count : Int) (K_rows : Int → Int) (K_cols : Int → Int) (K_cr : Int → BitVec 64) (K_cb : Int → BitVec 64) (K_cl : Int → Int) (K_kl : Int → Int) (K_col : Int → Int → Int) (P_all : BitVec 64) (P_jr : BitVec 64) (P_jb : BitVec 64) (P_count : Int) (P_cells : Int → BitVec 64) (P_near : Int → BitVec 64) (S_planned : Int) : Option (Int × Int × Int × Int × (Int → Int) × (Int → Int) × (Int → BitVec 64) × (Int → BitVec 64) × (Int → Int) × (Int → Int) × (Int → Int → Int) × BitVec 64 × BitVec 64 × BitVec 64 × Int × (Int → BitVec 64) × (Int → BitVec 64) × Int) :=
  og (xR l1) <|
  if (l1 : Int) < 1 then (
    some ((-1), D_cl, H_next, H_count, K_rows, K_cols, K_cr, K_cb, K_cl, K_kl, K_col, P_all, P_jr, P_jb, P_count, P_cells, P_near, S_planned)
  ) else (
    if (l1 : Int) ≤ 49 then (
      Option.bind (f_hi_remember N D_rows D_cols D_cr D_cb D_cl D_kl D_col H_next H_count K_rows K_cols K_cr K_cb K_cl K_kl K_col) fun q_2 =>
      Option.bind (f_gp_refresh N D_rows D_cols D_cr D_cb D_col P_all P_jr P_jb P_count P_cells P_near S_planned) fun q_3 =>
      some (D_cl, l1, q_2.1, q_2.2.1, q_2.2.2.1, q_2.2.2.2.1, q_2.2.2.2.2.1, q_2.2.2.2.2.2.1, q_2.2.2.2.2.2.2.1, q_2.2.2.2.2.2.2.2.1, q_2.2.2.2.2.2.2.2.2, q_3.1, q_3.2.1, q_3.2.2.1, q_3.2.2.2.1, q_3.2.2.2.2.1, q_3.2.2.2.2.2.1, q_3.2.2.2.2.2.2)
    ) else (
      some ((-1), D_cl, H_next, H_count, K_rows, K_cols, K_cr, K_cb, K_cl, K_kl, K_col, P_all, P_jr, P_jb, P_count, P_cells, P_near, S_planned)
    )
  )

def f_gp_setCornerLimit (N : Nat) (l1 : Int) (D_rows : Int) (D_cols : Int) (D_cr : BitVec 64) (D_cb : BitVec 64) (D_cl : Int) (D_kl : Int) (D_col : Int → Int) (H_next : Int) (H_count : Int) (K_rows : Int → Int) (K_cols : Int → Int) (K_cr : Int → BitVec 64) (K_cb : Int → BitVec 64) (K_cl : Int → Int) (K_kl : Int → Int) (K_col : Int → Int → Int) (P_all : BitVec 64) (P_jr : BitVec 64) (P_jb : BitVec 64) (P_count : Int) (P_cells : Int → BitVec 64) (P_near : Int → BitVec 64) (S_planned : Int) : Option (Int × Int × Int × Int × (Int → Int) × (Int → Int) × (Int → BitVec 64) × (Int → BitVec 64) × (Int → Int) × (Int → Int) × (Int → Int → Int) × BitVec 64 × BitVec 64 × BitVec 64 × Int × (Int → BitVec 64) × (Int → BitVec 64) × Int) :=
  og (xR l1) <|
  if (l1 : Int) < 0 then (
    some ((-1), D_kl, H_next, H_count, K_rows, K_cols, K_cr, K_cb, K_cl, K_kl, K_col, P_all, P_jr, P_jb, P_count, P_cells, P_near, S_planned)
  ) else (
    if (l1 : Int) ≤ 8 then (
      Option.bind (f_hi_remember N D_rows D_cols D_cr D_cb D_cl D_kl D_col H_next H_count K_rows K_cols K_cr K_cb K_cl K_kl K_col) fun q_2 =>
      Option.bind (f_gp_refresh N D_rows D_cols D_cr D_cb D_col P_all P_jr P_jb P_count P_cells P_near S_planned) fun q_3 =>
      some (D_kl, l1, q_2.1, q_2.2.1, q_2.2.2.1, q_2.2.2.2.1, q_2.2.2.2.2.1, q_2.2.2.2.2.2.1, q_2.2.2.2.2.2.2.1, q_2.2.2.2.2.2.2.2.1, q_2.2.2.2.2.2.2.2.2, q_3.1, q_3.2.1, q_3.2.2.1, q_3.2.2.2.1, q_3.2.2.2.2.1, q_3.2.2.2.2.2.1, q_3.2.2.2.2.2.2)
    ) else (
      some ((-1), D_kl, H_next, H_count, K_rows, K_cols, K_cr, K_cb, K_cl, K_kl, K_col, P_all, P_jr, P_jb, P_count, P_cells, P_near, S_planned)
    )
  )

def f_gp_splitPieces (N : Nat) (l1 : Int) (D_cl : Int) (D_kl : Int) (P_all : BitVec 64) (P_jr : BitVec 64) (P_jb : BitVec 64) (P_count : Int) (P_cells : Int → BitVec 64) (S_planned : Int) (S_cells : BitVec 64) (S_top : Int) (S_bottom : Int) (S_left : Int) (S_right : Int) (S_w : Int → Int) (S_l : Int → Int) : Option (Int × Int × BitVec 64 × Int × Int × Int × Int × (Int → Int) × (Int → Int)) :=
  Option.bind (f_pa_hasPane N l1 P_count) fun q_1 =>
  og (xR q_1) <|
  if (q_1 : Int) = 0 then (
    some ((-1), S_planned, S_cells, S_top, S_bottom, S_left, S_right, S_w, S_l)
  ) else (
    Option.bind (f_sp_plan N l1 D_cl D_kl P_all P_jr P_jb P_cells S_planned S_cells S_top S_bottom S_left S_right S_w S_l) fun q_3 =>
    Option.bind (f_sp_pieces N q_3.2.2.1 q_3.2.2.2.1 q_3.2.2.2.2.1 q_3.2.2.2.2.2.1 q_3.2.2.2.2.2.2.1) fun q_4 =>
    some (q_4, q_3.1, q_3.2.1, q_3.2.2.1, q_3.2.2.2.1, q_3.2.2.2.2.1, q_3.2.2.2.2.2.1, q_3.2.2.2.2.2.2.1, q_3.2.2.2.2.2.2.2)
  )

def f_gp_splitLead (N : Nat) (l1 : Int) (D_cl : Int) (D_kl : Int) (P_all : BitVec 64) (P_jr : BitVec 64) (P_jb : BitVec 64) (P_count : Int) (P_cells : Int → BitVec 64) (S_planned : Int) (S_cells : BitVec 64) (S_top : Int) (S_bottom : Int) (S_left : Int) (S_right : Int) (S_w : Int → Int) (S_l : Int → Int) : Option (Int × Int × BitVec 64 × Int × Int × Int × Int × (Int → Int) × (Int → Int)) :=
  Option.bind (f_pa_hasPane N l1 P_count) fun q_1 =>
  og (xR q_1) <|
  if (q_1 : Int) = 0 then (
    some ((-1), S_planned, S_cells, S_top, S_bottom, S_left, S_right, S_w, S_l)
  ) else (
    Option.bind (f_sp_plan N l1 D_cl D_kl P_all P_jr P_jb P_cells S_planned S_cells S_top S_bottom S_left S_right S_w S_l) fun q_3 =>
    Option.bind (f_sp_lead N q_3.2.2.1 q_3.2.2.2.1 q_3.2.2.2.2.1 q_3.2.2.2.2.2.1 q_3.2.2.2.2.2.2.1) fun q_4 =>
    some (q_4, q_3.1, q_3.2.1, q_3.2.2.1, q_3.2.2.2.1, q_3.2.2.2.2.1, q_3.2.2.2.2.2.1, q_3.2.2.2.2.2.2.1, q_3.2.2.2.2.2.2.2)
  )

def f_gp_applySplit (N : Nat) (l1 : Int) (D_rows : Int) (D_cols : Int) (D_cr : BitVec 64) (D_cb : BitVec 64) (D_cl : Int) (D_kl : Int) (D_col : Int → Int) (H_next : Int) (H_count : Int) (K_rows : Int → Int) (K_cols : Int → Int) (K_cr : Int → BitVec 64) (K_cb : Int → BitVec 64) (K_cl : Int → Int) (K_kl : Int → Int) (K_col : Int → Int → Int) (P_all : BitVec 64) (P_jr : BitVec 64) (P_jb : BitVec 64) (P_count : Int) (P_cells : Int → BitVec 64) (P_near : Int → BitVec 64) (S_planned : Int) (S_cells : BitVec 64) (S_top : Int) (S_bottom : Int) (S_left : Int) (S_right : Int) (S_w : Int → Int) (S_l : Int → Int) : Option (Int × BitVec 64 × BitVec 64 × Int × Int × (Int → Int) × (Int → Int) × (Int → BitVec 64) × (Int → BitVec 64) × (Int → Int) × (Int → Int) × (Int → Int → Int) × BitVec 64 × BitVec 64 × BitVec 64 × Int × (Int → BitVec 64) × (Int → BitVec 64) × Int × BitVec 64 × Int × Int × Int × Int × (Int → Int) × (Int → Int)) :=
  Option.bind (f_pa_hasPane N l1 P_count) fun q_1 =>
  og (xR q_1) <|
  if (q_1 : Int) = 0 then (
    some ((-1), D_cr, D_cb, H_next, H_count, K_rows, K_cols, K_cr, K_cb, K_cl, K_kl, K_col, P_all, P_jr, P_jb, P_count, P_cells, P_near, S_planned, S_cells, S_top, S_bottom, S_left, S_right, S_w, S_l)
  ) else (
    og (0 ≤ l1 ∧ l1 < 49) <|
    Option.bind (f_pa_isEasy N (P_cells l1) D_cl D_kl P_all) fun q_4 =>
    og (xR q_4) <|
    if (q_4 : Int) = 0 then (
      Option.bind (f_sp_plan N l1 D_cl D_kl P_all P_jr P_jb P_cells S_planned S_cells S_top S_bottom S_left S_right S_w S_l) fun q_6 =>
      Option.bind (f_hi_remember N D_rows D_cols D_cr D_cb D_cl D_kl D_col H_next H_count K_rows K_cols K_cr K_cb K_cl K_kl K_col) fun q_7 =>
      Option.bind (f_sp_cut N D_cr D_cb P_jr P_jb q_6.2.1 q_6.2.2.1 q_6.2.2.2.1 q_6.2.2.2.2.1 q_6.2.2.2.2.2.1 q_6.2.2.2.2.2.2.2) fun q_8 =>
      Option.bind (f_gp_refresh N D_rows D_cols q_8.1 q_8.2 D_col P_all P_jr P_jb P_count P_cells P_near q_6.1) fun q_9 =>
      some (q_9.2.2.2.1, q_8.1, q_8.2, q_7.1, q_7.2.1, q_7.2.2.1, q_7.2.2.2.1, q_7.2.2.2.2.1, q_7.2.2.2.2.2.1, q_7.2.2.2.2.2.2.1, q_7.2.2.2.2.2.2.2.1, q_7.2.2.2.2.2.2.2.2, q_9.1, q_9.2.1, q_9.2.2.1, q_9.2.2.2.1, q_9.2.2.2.2.1, q_9.2.2.2.2.2.1, q_9.2.2.2.2.2.2, q_6.2.1, q_6.2.2.1, q_6.2.2.2.1, q_6.2.2.2.2.1, q_6.2.2.2.2.2.1, q_6.2.2.2.2.2.2.1, q_6.2.2.2.2.2.2.2)
    ) else (
      some ((-2), D_cr, D_cb, H_next, H_count, K_rows, K_cols, K_cr, K_cb, K_cl, K_kl, K_col, P_all, P_jr, P_jb, P_count, P_cells, P_near, S_planned, S_cells, S_top, S_bottom, S_left, S_right, S_w, S_l)
    )
  )

def f_gp_equalNeighbours (N : Nat) (D_col : Int → Int) (P_count : Int) (P_cells : Int → BitVec 64) (P_near : Int → BitVec 64) : Option (Int) :=
  Option.bind (f_pa_countEqualNeighbours N D_col P_count P_cells P_near) fun q_1 =>
  some q_1

def f_gp_colourCount (N : Nat) (l1 : Int) (P_count : Int) (P_near : Int → BitVec 64) (C_seq : Int → Int) (C_given : Int → Int) : Option (Int × (Int → Int) × (Int → Int)) :=
  Option.bind (f_co_hasOrder N l1) fun q_1 =>
  og (xR q_1) <|
  if (q_1 : Int) = 0 then (
    some ((-1), C_seq, C_given)
  ) else (
    Option.bind (f_co_paint N l1 P_count P_near C_seq C_given) fun q_3 =>
    some (q_3.1, q_3.2.1, q_3.2.2)
  )

def f_gp_suggestedColour (N : Nat) (l1 : Int) (l2 : Int) (P_count : Int) (P_near : Int → BitVec 64) (C_seq : Int → Int) (C_given : Int → Int) : Option (Int × (Int → Int) × (Int → Int)) :=
  Option.bind (f_co_hasOrder N l1) fun q_1 =>
  og (xR q_1) <|
  if (q_1 : Int) = 0 then (
    some ((-1), C_seq, C_given)
  ) else (
    Option.bind (f_pa_hasPane N l2 P_count) fun q_3 =>
    og (xR q_3) <|
    if (q_3 : Int) = 0 then (
      some ((-1), C_seq, C_given)
    ) else (
      Option.bind (f_co_paint N l1 P_count P_near C_seq C_given) fun q_5 =>
      og (0 ≤ l2 ∧ l2 < 49) <|
      some ((q_5.2.2 l2), q_5.2.1, q_5.2.2)
    )
  )

def f_gp_bestOrder_13 (N : Nat) (P_count : Int) (P_near : Int → BitVec 64) : Nat → Int → Int → Int → (Int → Int) → (Int → Int) → Option (Int × (Int → Int) × (Int → Int))
  | 0, _, _, _, _, _ => none
  | n + 1, l1, l2, l3, C_seq, C_given =>
    og (xR l3) <|
    if (3 : Int) ≤ l3 then (
      some (l1, C_seq, C_given)
    ) else (
      Option.bind (f_co_paint N l3 P_count P_near C_seq C_given) fun q_3 =>
      og (xR q_3.1) <|
      og (xR l2) <|
      Option.bind ((
        if (l2 : Int) ≤ q_3.1 then (
          Option.bind (some (l3 + 1 : Int)) fun l3_6 =>
          some (l1, l2, l3_6)
        ) else (
          Option.bind (some (l3 + 1 : Int)) fun l3_7 =>
          some (l3, q_3.1, l3_7)
        )
      ) : Option (Int × Int × Int)) fun r_8 =>
      f_gp_bestOrder_13 N P_count P_near n r_8.1 r_8.2.1 r_8.2.2 q_3.2.1 q_3.2.2
    )

def f_gp_bestOrder (N : Nat) (P_count : Int) (P_near : Int → BitVec 64) (C_seq : Int → Int) (C_given : Int → Int) : Option (Int × (Int → Int) × (Int → Int)) :=
  Option.bind (f_co_paint N 0 P_count P_near C_seq C_given) fun q_1 =>
  f_gp_bestOrder_13 N P_count P_near N 0 q_1.1 1 q_1.2.1 q_1.2.2

def f_gp_largestClique (N : Nat) (P_count : Int) (P_near : Int → BitVec 64) : Option (Int) :=
  Option.bind (f_pa_measureClique N P_count P_near) fun q_1 =>
  some q_1

def f_gp_undo (N : Nat) (D_rows : Int) (D_cols : Int) (D_cr : BitVec 64) (D_cb : BitVec 64) (D_cl : Int) (D_kl : Int) (D_col : Int → Int) (H_next : Int) (H_count : Int) (K_rows : Int → Int) (K_cols : Int → Int) (K_cr : Int → BitVec 64) (K_cb : Int → BitVec 64) (K_cl : Int → Int) (K_kl : Int → Int) (K_col : Int → Int → Int) (P_all : BitVec 64) (P_jr : BitVec 64) (P_jb : BitVec 64) (P_count : Int) (P_cells : Int → BitVec 64) (P_near : Int → BitVec 64) (S_planned : Int) : Option (Int × Int × Int × BitVec 64 × BitVec 64 × Int × Int × (Int → Int) × Int × Int × BitVec 64 × BitVec 64 × BitVec 64 × Int × (Int → BitVec 64) × (Int → BitVec 64) × Int) :=
  og (xR H_count) <|
  if (H_count : Int) = 0 then (
    some ((-2), D_rows, D_cols, D_cr, D_cb, D_cl, D_kl, D_col, H_next, H_count, P_all, P_jr, P_jb, P_count, P_cells, P_near, S_planned)
  ) else (
    Option.bind (f_hi_restore N D_rows D_cols D_cr D_cb D_cl D_kl D_col H_next H_count K_rows K_cols K_cr K_cb K_cl K_kl K_col) fun q_2 =>
    Option.bind (f_gp_refresh N q_2.1 q_2.2.1 q_2.2.2.1 q_2.2.2.2.1 q_2.2.2.2.2.2.2.1 P_all P_jr P_jb P_count P_cells P_near S_planned) fun q_3 =>
    some (q_2.2.2.2.2.2.2.2.2, q_2.1, q_2.2.1, q_2.2.2.1, q_2.2.2.2.1, q_2.2.2.2.2.1, q_2.2.2.2.2.2.1, q_2.2.2.2.2.2.2.1, q_2.2.2.2.2.2.2.2.1, q_2.2.2.2.2.2.2.2.2, q_3.1, q_3.2.1, q_3.2.2.1, q_3.2.2.2.1, q_3.2.2.2.2.1, q_3.2.2.2.2.2.1, q_3.2.2.2.2.2.2)
  )

def f_mo_in (N : Nat) (l0 : Int) (l1 : Int) (l2 : Int) : Option (Int) :=
  og (xR l0) <|
  og (xR l1) <|
  if (l0 : Int) < l1 then (
    some 0
  ) else (
    og (xR l2) <|
    if (l2 : Int) < l0 then (
      some 0
    ) else (
      some 1
    )
  )

def f_mo_isCell (N : Nat) (l1 : Int) (l2 : Int) (M_now : Int → Int) : Option (Int) :=
  Option.bind (f_mo_in N l1 0 ((M_now 0) - 1)) fun q_1 =>
  og (xR q_1) <|
  if (q_1 : Int) = 0 then (
    some 0
  ) else (
    Option.bind (f_mo_in N l2 0 ((M_now 1) - 1)) fun q_3 =>
    og (xR q_3) <|
    if (q_3 : Int) = 0 then (
      some 0
    ) else (
      some 1
    )
  )

def f_mo_save_52 (N : Nat) (M_edits : Int) (M_now : Int → Int) : Nat → Int → (Int → Int) → Option (Int × (Int → Int))
  | 0, _, _ => none
  | n + 1, l1, M_past =>
    og (xR l1) <|
    if (151 : Int) ≤ l1 then (
      Option.bind (some ((M_edits + 1) : Int)) fun M_edits_9 =>
      some (M_edits_9, M_past)
    ) else (
      og (0 ≤ l1 ∧ l1 < 151) <|
      og (0 ≤ ((151 * M_edits) + l1) ∧ ((151 * M_edits) + l1) < 1208) <|
      Option.bind (some (upi M_past ((151 * M_edits) + l1) (M_now l1) : Int → Int)) fun M_past_12 =>
      Option.bind (some (l1 + 1 : Int)) fun l1_13 =>
      f_mo_save_52 N M_edits M_now n l1_13 M_past_12
    )

def f_mo_save_11 (N : Nat) (M_edits : Int) (M_now : Int → Int) : Nat → Int → (Int → Int) → Option (Int × (Int → Int))
  | 0, _, _ => none
  | n + 1, l1, M_past =>
    og (xR l1) <|
    if (1057 : Int) ≤ l1 then (
      Option.bind (some ((M_edits - 1) : Int)) fun M_edits_3 =>
      f_mo_save_52 N M_edits_3 M_now N 0 M_past
    ) else (
      og (0 ≤ (l1 + 151) ∧ (l1 + 151) < 1208) <|
      og (0 ≤ l1 ∧ l1 < 1208) <|
      Option.bind (some (upi M_past l1 (M_past (l1 + 151)) : Int → Int)) fun M_past_6 =>
      Option.bind (some (l1 + 1 : Int)) fun l1_7 =>
      f_mo_save_11 N M_edits M_now n l1_7 M_past_6
    )

def f_mo_save (N : Nat) (M_edits : Int) (M_now : Int → Int) (M_past : Int → Int) : Option (Int × (Int → Int)) :=
  og (xR M_edits) <|
  if (M_edits : Int) = 8 then (
    f_mo_save_11 N M_edits M_now N 0 M_past
  ) else (
    f_mo_save_52 N M_edits M_now N 0 M_past
  )

def f_mo_undo_22 (N : Nat) (M_edits : Int) (M_past : Int → Int) : Nat → Int → (Int → Int) → Option (Int × Int × (Int → Int))
  | 0, _, _ => none
  | n + 1, l1, M_now =>
    og (xR l1) <|
    if (151 : Int) ≤ l1 then (
      some (M_edits, M_edits, M_now)
    ) else (
      og (0 ≤ ((151 * M_edits) + l1) ∧ ((151 * M_edits) + l1) < 1208) <|
      og (0 ≤ l1 ∧ l1 < 151) <|
      Option.bind (some (upi M_now l1 (M_past ((151 * M_edits) + l1)) : Int → Int)) fun M_now_6 =>
      Option.bind (some (l1 + 1 : Int)) fun l1_7 =>
      f_mo_undo_22 N M_edits M_past n l1_7 M_now_6
    )

def f_mo_undo (N : Nat) (M_edits : Int) (M_now : Int → Int) (M_past : Int → Int) : Option (Int × Int × (Int → Int)) :=
  og (xR M_edits) <|
  if (M_edits : Int) = 0 then (
    some ((-2), M_edits, M_now)
  ) else (
    Option.bind (some ((M_edits - 1) : Int)) fun M_edits_2 =>
    f_mo_undo_22 N M_edits_2 M_past N 0 M_now
  )

def f_mo_changed (N : Nat) (l1 : Int) (l2 : Int) (M_edits : Int) (M_now : Int → Int) (M_past : Int → Int) : Option (Int × Int × (Int → Int) × (Int → Int)) :=
  Option.bind (f_mo_save N M_edits M_now M_past) fun q_1 =>
  og (0 ≤ l1 ∧ l1 < 151) <|
  Option.bind (some ((M_now l1) : Int)) fun l3_3 =>
  Option.bind (some (upi M_now l1 l2 : Int → Int)) fun M_now_4 =>
  some (l3_3, q_1.1, M_now_4, q_1.2)

def f_mo_appendCharacter (N : Nat) (l1 : Int) (M_typed : Int) (M_text : Int → Int) : Option (Int × Int × (Int → Int)) :=
  Option.bind (f_mo_in N l1 0 255) fun q_1 =>
  og (xR q_1) <|
  if (q_1 : Int) = 0 then (
    some ((-1), M_typed, M_text)
  ) else (
    og (xR M_typed) <|
    if (M_typed : Int) = 80 then (
      some ((-3), M_typed, M_text)
    ) else (
      og (0 ≤ M_typed ∧ M_typed < 80) <|
      Option.bind (some (upi M_text M_typed l1 : Int → Int)) fun M_text_5 =>
      Option.bind (some ((M_typed + 1) : Int)) fun M_typed_6 =>
      some (M_typed_6, M_typed_6, M_text_5)
    )
  )

def f_mo_clearText (N : Nat) (M_typed : Int) : Option (Int × Int) :=
  some (M_typed, 0)

def f_mo_reads_170 (N : Nat) (M_typed : Int) (M_readRows : Int) (M_readColumns : Int) (M_read : Int → Int) : Option (Int × Int × Int × (Int → Int)) :=
  some (M_typed, M_readRows, M_readColumns, M_read)

def f_mo_reads_131 (N : Nat) (M_typed : Int) (M_text : Int → Int) (k14 : Int → Int → Int → Int → (Int → Int) → Option (Int × Int × Int × (Int → Int))) (l1 : Int) (l2 : Int) (M_readRows : Int) (M_readColumns : Int) (M_read : Int → Int) : Option (Int × Int × Int × (Int → Int)) :=
  Option.bind (some ((M_readRows + 1) : Int)) fun M_readRows_48 =>
  Option.bind (some (l2 + 1 : Int)) fun l2_49 =>
  k14 0 l2_49 M_readRows_48 l1 M_read

def f_mo_reads_106 (N : Nat) (M_typed : Int) (M_text : Int → Int) (k14 : Int → Int → Int → Int → (Int → Int) → Option (Int × Int × Int × (Int → Int))) (l1 : Int) (l2 : Int) (l3 : Int) (M_readRows : Int) (M_readColumns : Int) (M_read : Int → Int) : Option (Int × Int × Int × (Int → Int)) :=
  og (xR l3) <|
  if (l3 : Int) = 59 then (
    og (xR l1) <|
    if (l1 : Int) ≤ 0 then (
      some (l2, M_readRows, M_readColumns, M_read)
    ) else (
      og (xR M_readRows) <|
      if (M_readRows : Int) = 0 then (
        f_mo_reads_131 N M_typed M_text k14 l1 l2 M_readRows M_readColumns M_read
      ) else (
        og (xR M_readColumns) <|
        if (l1 : Int) = M_readColumns then (
          f_mo_reads_131 N M_typed M_text k14 l1 l2 M_readRows M_readColumns M_read
        ) else (
          some (l2, M_readRows, M_readColumns, M_read)
        )
      )
    )
  ) else (
    some (l2, M_readRows, M_readColumns, M_read)
  )

def f_mo_reads_14 (N : Nat) (M_typed : Int) (M_text : Int → Int) : Nat → Int → Int → Int → Int → (Int → Int) → Option (Int × Int × Int × (Int → Int))
  | 0, _, _, _, _, _ => none
  | n + 1, l1, l2, M_readRows, M_readColumns, M_read =>
    og (xR l2) <|
    og (xR M_typed) <|
    if (M_typed : Int) ≤ l2 then (
      og (xR M_readRows) <|
      if (M_readRows : Int) = 0 then (
        f_mo_reads_170 N M_typed M_readRows M_readColumns M_read
      ) else (
        og (xR l1) <|
        if (l1 : Int) ≤ 0 then (
          some ((-1), M_readRows, M_readColumns, M_read)
        ) else (
          f_mo_reads_170 N M_typed M_readRows M_readColumns M_read
        )
      )
    ) else (
      og (0 ≤ l2 ∧ l2 < 80) <|
      Option.bind (some ((M_text l2) : Int)) fun l3_31 =>
      og (xR M_readRows) <|
      Option.bind ((
        if (M_readRows : Int) = 0 then (
          some 7
        ) else (
          some M_readColumns
        )
      ) : Option (Int)) fun r_33 =>
      og (xR l3_31) <|
      if (l3_31 : Int) = 32 then (
        Option.bind (some (l2 + 1 : Int)) fun l2_43 =>
        f_mo_reads_14 N M_typed M_text n l1 l2_43 M_readRows M_readColumns M_read
      ) else (
        Option.bind (f_mo_in N l3_31 48 53) fun q_35 =>
        og (xR q_35) <|
        if (q_35 : Int) = 0 then (
          f_mo_reads_106 N M_typed M_text (f_mo_reads_14 N M_typed M_text n) l1 l2 l3_31 M_readRows M_readColumns M_read
        ) else (
          if (7 : Int) ≤ M_readRows then (
            f_mo_reads_106 N M_typed M_text (f_mo_reads_14 N M_typed M_text n) l1 l2 l3_31 M_readRows M_readColumns M_read
          ) else (
            og (xR l1) <|
            og (xR r_33) <|
            if (r_33 : Int) ≤ l1 then (
              f_mo_reads_106 N M_typed M_text (f_mo_reads_14 N M_typed M_text n) l1 l2 l3_31 M_readRows M_readColumns M_read
            ) else (
              og (0 ≤ ((7 * M_readRows) + l1) ∧ ((7 * M_readRows) + l1) < 49) <|
              Option.bind (some (upi M_read ((7 * M_readRows) + l1) (l3_31 - 48) : Int → Int)) fun M_read_40 =>
              Option.bind (some (l1 + 1 : Int)) fun l1_41 =>
              Option.bind (some (l2 + 1 : Int)) fun l2_42 =>
              f_mo_reads_14 N M_typed M_text n l1_41 l2_42 M_readRows M_readColumns M_read_40
            )
          )
        )
      )
    )

def f_mo_reads (N : Nat) (M_typed : Int) (M_readRows : Int) (M_readColumns : Int) (M_text : Int → Int) (M_read : Int → Int) : Option (Int × Int × Int × (Int → Int)) :=
  f_mo_reads_14 N M_typed M_text N 0 0 0 0 M_read

def f_mo_step (N : Nat) (l0 : Int) : Option (Int) :=
  og (xR l0) <|
  if (l0 : Int) = 0 then (
    some 1
  ) else (
    some 7
  )

def f_mo_hasNext (N : Nat) (l1 : Int) (l2 : Int) (M_now : Int → Int) : Option (Int) :=
  og (xR l2) <|
  if (l2 : Int) = 0 then (
    og (0 ≤ l1 ∧ l1 < 2147483648) <|
    og (xR ((l1 % 7) + 1)) <|
    og (xR (M_now 1)) <|
    if ((M_now 1) : Int) ≤ ((l1 % 7) + 1) then (
      some 0
    ) else (
      some 1
    )
  ) else (
    og (0 ≤ l1 ∧ l1 < 2147483648) <|
    og (xR ((l1 / 7) + 1)) <|
    og (xR (M_now 0)) <|
    if ((M_now 0) : Int) ≤ ((l1 / 7) + 1) then (
      some 0
    ) else (
      some 1
    )
  )

def f_mo_joins (N : Nat) (l1 : Int) (l2 : Int) (M_now : Int → Int) : Option (Int) :=
  Option.bind (f_mo_hasNext N l1 l2 M_now) fun q_1 =>
  og (xR q_1) <|
  if (q_1 : Int) = 0 then (
    some 0
  ) else (
    og (0 ≤ (4 + l1) ∧ (4 + l1) < 151) <|
    Option.bind (f_mo_step N l2) fun q_4 =>
    og (0 ≤ ((4 + l1) + q_4) ∧ ((4 + l1) + q_4) < 151) <|
    og (xR (M_now (4 + l1))) <|
    og (xR (M_now ((4 + l1) + q_4))) <|
    if ((M_now (4 + l1)) : Int) = (M_now ((4 + l1) + q_4)) then (
      og (0 ≤ ((53 + (49 * l2)) + l1) ∧ ((53 + (49 * l2)) + l1) < 151) <|
      og (xR (M_now ((53 + (49 * l2)) + l1))) <|
      if ((M_now ((53 + (49 * l2)) + l1)) : Int) = 0 then (
        some 1
      ) else (
        some 0
      )
    ) else (
      some 0
    )
  )

def f_mo_isCut (N : Nat) (l1 : Int) (l2 : Int) (l3 : Int) (M_now : Int → Int) : Option (Int) :=
  Option.bind (f_mo_isCell N l1 l2 M_now) fun q_1 =>
  og (xR q_1) <|
  if (q_1 : Int) = 0 then (
    some 0
  ) else (
    Option.bind (f_mo_in N l3 0 1) fun q_3 =>
    og (xR q_3) <|
    if (q_3 : Int) = 0 then (
      some 0
    ) else (
      Option.bind (f_mo_hasNext N ((7 * l1) + l2) l3 M_now) fun q_5 =>
      og (xR q_5) <|
      if (q_5 : Int) = 0 then (
        some 0
      ) else (
        some 1
      )
    )
  )

def f_mo_cuts_4 (N : Nat) (M_now : Int → Int) : Nat → Int → Int → Option (Int)
  | 0, _, _ => none
  | n + 1, l1, l2 =>
    og (xR l2) <|
    if (98 : Int) ≤ l2 then (
      some l1
    ) else (
      og (0 ≤ (53 + l2) ∧ (53 + l2) < 151) <|
      Option.bind (some ((l1 + (M_now (53 + l2))) : Int)) fun l1_3 =>
      Option.bind (some (l2 + 1 : Int)) fun l2_4 =>
      f_mo_cuts_4 N M_now n l1_3 l2_4
    )

def f_mo_cuts (N : Nat) (M_now : Int → Int) : Option (Int) :=
  f_mo_cuts_4 N M_now N 0 0

def f_mo_addCut (N : Nat) (l1 : Int) (l2 : Int) (l3 : Int) (M_edits : Int) (M_now : Int → Int) (M_past : Int → Int) : Option (Int × Int × (Int → Int) × (Int → Int)) :=
  Option.bind (f_mo_isCut N l1 l2 l3 M_now) fun q_1 =>
  og (xR q_1) <|
  if (q_1 : Int) = 0 then (
    some ((-1), M_edits, M_now, M_past)
  ) else (
    Option.bind (some ((((53 + (49 * l3)) + (7 * l1)) + l2) : Int)) fun l4_3 =>
    og (0 ≤ l4_3 ∧ l4_3 < 151) <|
    og (xR (M_now l4_3)) <|
    if ((M_now l4_3) : Int) = 1 then (
      some ((-2), M_edits, M_now, M_past)
    ) else (
      Option.bind (f_mo_changed N l4_3 1 M_edits M_now M_past) fun q_6 =>
      Option.bind (f_mo_cuts N q_6.2.2.1) fun q_7 =>
      some (q_7, q_6.2.1, q_6.2.2.1, q_6.2.2.2)
    )
  )

def f_mo_removeCut (N : Nat) (l1 : Int) (l2 : Int) (l3 : Int) (M_edits : Int) (M_now : Int → Int) (M_past : Int → Int) : Option (Int × Int × (Int → Int) × (Int → Int)) :=
  Option.bind (f_mo_isCut N l1 l2 l3 M_now) fun q_1 =>
  og (xR q_1) <|
  if (q_1 : Int) = 0 then (
    some ((-1), M_edits, M_now, M_past)
  ) else (
    Option.bind (some ((((53 + (49 * l3)) + (7 * l1)) + l2) : Int)) fun l4_3 =>
    og (0 ≤ l4_3 ∧ l4_3 < 151) <|
    og (xR (M_now l4_3)) <|
    if ((M_now l4_3) : Int) = 0 then (
      some ((-2), M_edits, M_now, M_past)
    ) else (
      Option.bind (f_mo_changed N l4_3 0 M_edits M_now M_past) fun q_6 =>
      Option.bind (f_mo_cuts N q_6.2.2.1) fun q_7 =>
      some (q_7, q_6.2.1, q_6.2.2.1, q_6.2.2.2)
    )
  )

def f_mo_spread_36 (N : Nat) (l3 : Int) (l5 : Int) (l6 : Int) (M_top : Int) (M_bottom : Int) (M_left : Int) (M_right : Int) (M_now : Int → Int) (k17 : Int → Int → (Int → Int) → (Int → Int) → Option (Int × (Int → Int) × (Int → Int))) : Nat → Int → Int → (Int → Int) → (Int → Int) → Option (Int × (Int → Int) × (Int → Int))
  | 0, _, _, _, _ => none
  | n + 1, l4, l7, M_queue, M_marks =>
    og (xR l7) <|
    if (4 : Int) ≤ l7 then (
      Option.bind (some (l5 + 1 : Int)) fun l5_53 =>
      k17 l4 l5_53 M_queue M_marks
    ) else (
      og (0 ≤ l7 ∧ l7 < 2147483648) <|
      Option.bind (some ((l7 % 2) : Int)) fun l8_55 =>
      Option.bind ((
        if (2 : Int) ≤ l7 then (
          Option.bind (f_mo_step N l8_55) fun q_56 =>
          some (l6 - q_56)
        ) else (
          Option.bind (f_mo_step N l8_55) fun q_57 =>
          some (l6 + q_57)
        )
      ) : Option (Int)) fun r_58 =>
      Option.bind ((
        if (l7 : Int) = 0 then (
          og (0 ≤ l6 ∧ l6 < 2147483648) <|
          og (xR (l6 % 7)) <|
          og (xR M_right) <|
          if (M_right : Int) ≤ (l6 % 7) then (
            some 0
          ) else (
            some 1
          )
        ) else (
          if (l7 : Int) = 1 then (
            og (0 ≤ l6 ∧ l6 < 2147483648) <|
            og (xR (l6 / 7)) <|
            og (xR M_bottom) <|
            if (M_bottom : Int) ≤ (l6 / 7) then (
              some 0
            ) else (
              some 1
            )
          ) else (
            if (l7 : Int) = 2 then (
              og (0 ≤ l6 ∧ l6 < 2147483648) <|
              og (xR (l6 % 7)) <|
              og (xR M_left) <|
              if ((l6 % 7) : Int) ≤ M_left then (
                some 0
              ) else (
                some 1
              )
            ) else (
              og (0 ≤ l6 ∧ l6 < 2147483648) <|
              og (xR (l6 / 7)) <|
              og (xR M_top) <|
              if ((l6 / 7) : Int) ≤ M_top then (
                some 0
              ) else (
                some 1
              )
            )
          )
        )
      ) : Option (Int)) fun r_71 =>
      og (xR r_71) <|
      if (r_71 : Int) = 0 then (
        Option.bind (some (l7 + 1 : Int)) fun l7_73 =>
        f_mo_spread_36 N l3 l5 l6 M_top M_bottom M_left M_right M_now k17 n l4 l7_73 M_queue M_marks
      ) else (
        Option.bind ((
          if (2 : Int) ≤ l7 then (
            some r_58
          ) else (
            some l6
          )
        ) : Option (Int)) fun r_74 =>
        Option.bind (f_mo_joins N r_74 l8_55 M_now) fun q_75 =>
        og (xR q_75) <|
        Option.bind ((
          if (q_75 : Int) = 0 then (
            Option.bind (some (l7 + 1 : Int)) fun l7_77 =>
            some (l4, l7_77, M_queue, M_marks)
          ) else (
            og (0 ≤ r_58 ∧ r_58 < 49) <|
            og (xR (M_marks r_58)) <|
            if (0 : Int) ≤ (M_marks r_58) then (
              Option.bind (some (l7 + 1 : Int)) fun l7_80 =>
              some (l4, l7_80, M_queue, M_marks)
            ) else (
              Option.bind (some (upi M_marks r_58 l3 : Int → Int)) fun M_marks_81 =>
              og (0 ≤ l4 ∧ l4 < 49) <|
              Option.bind (some (upi M_queue l4 r_58 : Int → Int)) fun M_queue_83 =>
              Option.bind (some (l4 + 1 : Int)) fun l4_84 =>
              Option.bind (some (l7 + 1 : Int)) fun l7_85 =>
              some (l4_84, l7_85, M_queue_83, M_marks_81)
            )
          )
        ) : Option (Int × Int × (Int → Int) × (Int → Int))) fun r_86 =>
        f_mo_spread_36 N l3 l5 l6 M_top M_bottom M_left M_right M_now k17 n r_86.1 r_86.2.1 r_86.2.2.1 r_86.2.2.2
      )
    )

def f_mo_spread_17 (N : Nat) (l3 : Int) (M_top : Int) (M_bottom : Int) (M_left : Int) (M_right : Int) (M_now : Int → Int) : Nat → Int → Int → (Int → Int) → (Int → Int) → Option (Int × (Int → Int) × (Int → Int))
  | 0, _, _, _, _ => none
  | n + 1, l4, l5, M_queue, M_marks =>
    og (xR l5) <|
    og (xR l4) <|
    if (l4 : Int) ≤ l5 then (
      some (l4, M_queue, M_marks)
    ) else (
      og (0 ≤ l5 ∧ l5 < 49) <|
      Option.bind (some ((M_queue l5) : Int)) fun l6_51 =>
      f_mo_spread_36 N l3 l5 l6_51 M_top M_bottom M_left M_right M_now (f_mo_spread_17 N l3 M_top M_bottom M_left M_right M_now n) N l4 0 M_queue M_marks
    )

def f_mo_spread (N : Nat) (l2 : Int) (l3 : Int) (M_top : Int) (M_bottom : Int) (M_left : Int) (M_right : Int) (M_now : Int → Int) (M_queue : Int → Int) (M_marks : Int → Int) : Option (Int × (Int → Int) × (Int → Int)) :=
  og (0 ≤ l2 ∧ l2 < 49) <|
  Option.bind (some (upi M_marks l2 l3 : Int → Int)) fun M_marks_46 =>
  Option.bind (some (upi M_queue 0 l2 : Int → Int)) fun M_queue_47 =>
  f_mo_spread_17 N l3 M_top M_bottom M_left M_right M_now N 1 0 M_queue_47 M_marks_46

def f_mo_wholeDrawing (N : Nat) (M_top : Int) (M_bottom : Int) (M_left : Int) (M_right : Int) (M_now : Int → Int) : Option (Int × Int × Int × Int) :=
  Option.bind (some (((M_now 0) - 1) : Int)) fun M_bottom_1 =>
  Option.bind (some (((M_now 1) - 1) : Int)) fun M_right_2 =>
  some (0, M_bottom_1, 0, M_right_2)

def f_mo_findPanes_32 (N : Nat) (M_top : Int) (M_bottom : Int) (M_left : Int) (M_right : Int) (M_now : Int → Int) : Nat → Int → Int → (Int → Int) → (Int → Int) → (Int → Int) → Option (Int × Int × Int × Int × Int × (Int → Int) × (Int → Int) × (Int → Int))
  | 0, _, _, _, _, _ => none
  | n + 1, l1, M_panes, M_queue, M_pane, M_size =>
    og (xR l1) <|
    if (49 : Int) ≤ l1 then (
      some (M_top, M_bottom, M_left, M_right, M_panes, M_queue, M_pane, M_size)
    ) else (
      og (0 ≤ l1 ∧ l1 < 2147483648) <|
      Option.bind (f_mo_isCell N (l1 / 7) (l1 % 7) M_now) fun q_8 =>
      og (xR q_8) <|
      Option.bind ((
        if (q_8 : Int) = 0 then (
          Option.bind (some (l1 + 1 : Int)) fun l1_10 =>
          some (l1_10, M_panes, M_queue, M_pane, M_size)
        ) else (
          og (0 ≤ l1 ∧ l1 < 49) <|
          og (xR (M_pane l1)) <|
          if (0 : Int) ≤ (M_pane l1) then (
            Option.bind (some (l1 + 1 : Int)) fun l1_13 =>
            some (l1_13, M_panes, M_queue, M_pane, M_size)
          ) else (
            Option.bind (f_mo_spread N l1 M_panes M_top M_bottom M_left M_right M_now M_queue M_pane) fun q_14 =>
            og (0 ≤ M_panes ∧ M_panes < 49) <|
            Option.bind (some (upi M_size M_panes q_14.1 : Int → Int)) fun M_size_16 =>
            Option.bind (some ((M_panes + 1) : Int)) fun M_panes_17 =>
            Option.bind (some (l1 + 1 : Int)) fun l1_18 =>
            some (l1_18, M_panes_17, q_14.2.1, q_14.2.2, M_size_16)
          )
        )
      ) : Option (Int × Int × (Int → Int) × (Int → Int) × (Int → Int))) fun r_19 =>
      f_mo_findPanes_32 N M_top M_bottom M_left M_right M_now n r_19.1 r_19.2.1 r_19.2.2.1 r_19.2.2.2.1 r_19.2.2.2.2
    )

def f_mo_findPanes_11 (N : Nat) (M_top : Int) (M_bottom : Int) (M_left : Int) (M_right : Int) (M_panes : Int) (M_queue : Int → Int) (M_size : Int → Int) (M_now : Int → Int) : Nat → Int → (Int → Int) → Option (Int × Int × Int × Int × Int × (Int → Int) × (Int → Int) × (Int → Int))
  | 0, _, _ => none
  | n + 1, l1, M_pane =>
    og (xR l1) <|
    if (49 : Int) ≤ l1 then (
      f_mo_findPanes_32 N M_top M_bottom M_left M_right M_now N 0 M_panes M_queue M_pane M_size
    ) else (
      og (0 ≤ l1 ∧ l1 < 49) <|
      Option.bind (some (upi M_pane l1 (-1) : Int → Int)) fun M_pane_4 =>
      Option.bind (some (l1 + 1 : Int)) fun l1_5 =>
      f_mo_findPanes_11 N M_top M_bottom M_left M_right M_panes M_queue M_size M_now n l1_5 M_pane_4
    )

def f_mo_findPanes (N : Nat) (M_top : Int) (M_bottom : Int) (M_left : Int) (M_right : Int) (M_panes : Int) (M_now : Int → Int) (M_queue : Int → Int) (M_pane : Int → Int) (M_size : Int → Int) : Option (Int × Int × Int × Int × Int × (Int → Int) × (Int → Int) × (Int → Int)) :=
  Option.bind (f_mo_wholeDrawing N M_top M_bottom M_left M_right M_now) fun q_1 =>
  f_mo_findPanes_11 N q_1.1 q_1.2.1 q_1.2.2.1 q_1.2.2.2 0 M_queue M_size M_now N 0 M_pane

def f_mo_loadDrawing_41 (N : Nat) (M_edits : Int) (M_typed : Int) (M_readRows : Int) (M_readColumns : Int) (M_top : Int) (M_bottom : Int) (M_left : Int) (M_right : Int) (M_panes : Int) (M_past : Int → Int) (M_read : Int → Int) (M_queue : Int → Int) (M_pane : Int → Int) (M_size : Int → Int) : Nat → Int → (Int → Int) → Option (Int × Int × Int × Int × Int × Int × Int × Int × Int × Int × (Int → Int) × (Int → Int) × (Int → Int) × (Int → Int) × (Int → Int) × (Int → Int))
  | 0, _, _ => none
  | n + 1, l2, M_now =>
    og (xR l2) <|
    if (49 : Int) ≤ l2 then (
      Option.bind (f_mo_findPanes N M_top M_bottom M_left M_right M_panes M_now M_queue M_pane M_size) fun q_30 =>
      some (q_30.2.2.2.2.1, M_edits, 0, M_readRows, M_readColumns, q_30.1, q_30.2.1, q_30.2.2.1, q_30.2.2.2.1, q_30.2.2.2.2.1, M_now, M_past, M_read, q_30.2.2.2.2.2.1, q_30.2.2.2.2.2.2.1, q_30.2.2.2.2.2.2.2)
    ) else (
      og (0 ≤ l2 ∧ l2 < 2147483648) <|
      og (xR (l2 / 7)) <|
      og (xR M_readRows) <|
      Option.bind ((
        if (M_readRows : Int) ≤ (l2 / 7) then (
          some 0
        ) else (
          og (xR (l2 % 7)) <|
          og (xR M_readColumns) <|
          if (M_readColumns : Int) ≤ (l2 % 7) then (
            some 0
          ) else (
            some 1
          )
        )
      ) : Option (Int)) fun r_36 =>
      og (xR r_36) <|
      Option.bind ((
        if (r_36 : Int) = 0 then (
          some 0
        ) else (
          og (0 ≤ l2 ∧ l2 < 49) <|
          some (M_read l2)
        )
      ) : Option (Int)) fun r_39 =>
      og (0 ≤ (4 + l2) ∧ (4 + l2) < 151) <|
      Option.bind (some (upi M_now (4 + l2) r_39 : Int → Int)) fun M_now_41 =>
      og (0 ≤ (53 + l2) ∧ (53 + l2) < 151) <|
      Option.bind (some (upi M_now_41 (53 + l2) 0 : Int → Int)) fun M_now_43 =>
      og (0 ≤ (102 + l2) ∧ (102 + l2) < 151) <|
      Option.bind (some (upi M_now_43 (102 + l2) 0 : Int → Int)) fun M_now_45 =>
      Option.bind (some (l2 + 1 : Int)) fun l2_46 =>
      f_mo_loadDrawing_41 N M_edits M_typed M_readRows M_readColumns M_top M_bottom M_left M_right M_panes M_past M_read M_queue M_pane M_size n l2_46 M_now_45
    )

def f_mo_loadDrawing (N : Nat) (M_edits : Int) (M_typed : Int) (M_readRows : Int) (M_readColumns : Int) (M_top : Int) (M_bottom : Int) (M_left : Int) (M_right : Int) (M_panes : Int) (M_now : Int → Int) (M_past : Int → Int) (M_text : Int → Int) (M_read : Int → Int) (M_queue : Int → Int) (M_pane : Int → Int) (M_size : Int → Int) : Option (Int × Int × Int × Int × Int × Int × Int × Int × Int × Int × (Int → Int) × (Int → Int) × (Int → Int) × (Int → Int) × (Int → Int) × (Int → Int)) :=
  Option.bind (f_mo_reads N M_typed M_readRows M_readColumns M_text M_read) fun q_24 =>
  og (xR q_24.1) <|
  if (q_24.1 : Int) = (-1) then (
    Option.bind (f_mo_save N M_edits M_now M_past) fun q_26 =>
    Option.bind (some (upi M_now 0 q_24.2.1 : Int → Int)) fun M_now_27 =>
    Option.bind (some (upi M_now_27 1 q_24.2.2.1 : Int → Int)) fun M_now_28 =>
    f_mo_loadDrawing_41 N q_26.1 M_typed q_24.2.1 q_24.2.2.1 M_top M_bottom M_left M_right M_panes q_26.2 q_24.2.2.2 M_queue M_pane M_size N 0 M_now_28
  ) else (
    some (((-10) - q_24.1), M_edits, M_typed, q_24.2.1, q_24.2.2.1, M_top, M_bottom, M_left, M_right, M_panes, M_now, M_past, q_24.2.2.2, M_queue, M_pane, M_size)
  )

def f_mo_setColour (N : Nat) (l1 : Int) (l2 : Int) (l3 : Int) (M_edits : Int) (M_now : Int → Int) (M_past : Int → Int) : Option (Int × Int × (Int → Int) × (Int → Int)) :=
  Option.bind (f_mo_isCell N l1 l2 M_now) fun q_1 =>
  og (xR q_1) <|
  if (q_1 : Int) = 0 then (
    some ((-1), M_edits, M_now, M_past)
  ) else (
    Option.bind (f_mo_in N l3 0 5) fun q_3 =>
    og (xR q_3) <|
    if (q_3 : Int) = 0 then (
      some ((-1), M_edits, M_now, M_past)
    ) else (
      Option.bind (some (((4 + (7 * l1)) + l2) : Int)) fun l4_5 =>
      og (0 ≤ l4_5 ∧ l4_5 < 151) <|
      og (xR (M_now l4_5)) <|
      og (xR l3) <|
      if ((M_now l4_5) : Int) = l3 then (
        some ((-2), M_edits, M_now, M_past)
      ) else (
        Option.bind (f_mo_changed N l4_5 l3 M_edits M_now M_past) fun q_9 =>
        some (q_9.1, q_9.2.1, q_9.2.2.1, q_9.2.2.2)
      )
    )
  )

def f_mo_rows (N : Nat) (M_now : Int → Int) : Option (Int) :=
  some (M_now 0)

def f_mo_columns (N : Nat) (M_now : Int → Int) : Option (Int) :=
  some (M_now 1)

def f_mo_colourAt (N : Nat) (l1 : Int) (l2 : Int) (M_now : Int → Int) : Option (Int) :=
  Option.bind (f_mo_isCell N l1 l2 M_now) fun q_1 =>
  og (xR q_1) <|
  if (q_1 : Int) = 0 then (
    some (-1)
  ) else (
    og (0 ≤ ((4 + (7 * l1)) + l2) ∧ ((4 + (7 * l1)) + l2) < 151) <|
    some (M_now ((4 + (7 * l1)) + l2))
  )

def f_mo_isPane (N : Nat) (l1 : Int) (M_top : Int) (M_bottom : Int) (M_left : Int) (M_right : Int) (M_panes : Int) (M_now : Int → Int) (M_queue : Int → Int) (M_pane : Int → Int) (M_size : Int → Int) : Option (Int × Int × Int × Int × Int × Int × (Int → Int) × (Int → Int) × (Int → Int)) :=
  Option.bind (f_mo_findPanes N M_top M_bottom M_left M_right M_panes M_now M_queue M_pane M_size) fun q_1 =>
  Option.bind (f_mo_in N l1 0 (q_1.2.2.2.2.1 - 1)) fun q_2 =>
  og (q_2 = 0 ∨ q_2 = 1) <|
  some (q_2, q_1.1, q_1.2.1, q_1.2.2.1, q_1.2.2.2.1, q_1.2.2.2.2.1, q_1.2.2.2.2.2.1, q_1.2.2.2.2.2.2.1, q_1.2.2.2.2.2.2.2)

def f_mo_corners_21 (N : Nat) (l2 : Int) (l4 : Int) (M_now : Int → Int) (M_marks : Int → Int) (k5 : Int → Int → Option (Int)) : Nat → Int → Int → Option (Int)
  | 0, _, _ => none
  | n + 1, l3, l5 =>
    og (xR (l5 + 1)) <|
    og (xR (M_now 1)) <|
    if ((M_now 1) : Int) ≤ (l5 + 1) then (
      Option.bind (some (l4 + 1 : Int)) fun l4_32 =>
      k5 l3 l4_32
    ) else (
      Option.bind (some (((7 * l4) + l5) : Int)) fun l6_33 =>
      og (0 ≤ l6_33 ∧ l6_33 < 49) <|
      og (xR (M_marks l6_33)) <|
      og (xR l2) <|
      Option.bind ((
        if ((M_marks l6_33) : Int) = l2 then (
          some 1
        ) else (
          some 0
        )
      ) : Option (Int)) fun r_37 =>
      og (0 ≤ (l6_33 + 1) ∧ (l6_33 + 1) < 49) <|
      og (xR (M_marks (l6_33 + 1))) <|
      Option.bind ((
        if ((M_marks (l6_33 + 1)) : Int) = l2 then (
          some 1
        ) else (
          some 0
        )
      ) : Option (Int)) fun r_40 =>
      og (0 ≤ (l6_33 + 7) ∧ (l6_33 + 7) < 49) <|
      og (xR (M_marks (l6_33 + 7))) <|
      Option.bind ((
        if ((M_marks (l6_33 + 7)) : Int) = l2 then (
          some 1
        ) else (
          some 0
        )
      ) : Option (Int)) fun r_43 =>
      og (0 ≤ ((l6_33 + 7) + 1) ∧ ((l6_33 + 7) + 1) < 49) <|
      og (xR (M_marks ((l6_33 + 7) + 1))) <|
      Option.bind ((
        if ((M_marks ((l6_33 + 7) + 1)) : Int) = l2 then (
          some 1
        ) else (
          some 0
        )
      ) : Option (Int)) fun r_46 =>
      Option.bind (some ((((r_37 + r_40) + r_43) + r_46) : Int)) fun l7_47 =>
      og (xR l7_47) <|
      Option.bind ((
        if (l7_47 : Int) = 3 then (
          some 1
        ) else (
          some 0
        )
      ) : Option (Int)) fun r_49 =>
      Option.bind (some ((l3 + r_49) : Int)) fun l3_50 =>
      Option.bind (some (l5 + 1 : Int)) fun l5_51 =>
      f_mo_corners_21 N l2 l4 M_now M_marks k5 n l3_50 l5_51
    )

def f_mo_corners_5 (N : Nat) (l2 : Int) (M_now : Int → Int) (M_marks : Int → Int) : Nat → Int → Int → Option (Int)
  | 0, _, _ => none
  | n + 1, l3, l4 =>
    og (xR (l4 + 1)) <|
    og (xR (M_now 0)) <|
    if ((M_now 0) : Int) ≤ (l4 + 1) then (
      some l3
    ) else (
      f_mo_corners_21 N l2 l4 M_now M_marks (f_mo_corners_5 N l2 M_now M_marks n) N l3 0
    )

def f_mo_corners (N : Nat) (l2 : Int) (M_now : Int → Int) (M_marks : Int → Int) : Option (Int) :=
  f_mo_corners_5 N l2 M_now M_marks N 0 0

def f_mo_isEdge (N : Nat) (l1 : Int) (M_now : Int → Int) : Option (Int) :=
  og (0 ≤ l1 ∧ l1 < 2147483648) <|
  Option.bind (some ((l1 / 7) : Int)) fun l2_2 =>
  Option.bind (some ((l1 % 7) : Int)) fun l3_3 =>
  og (xR l2_2) <|
  if (l2_2 : Int) = 0 then (
    some 1
  ) else (
    og (xR l3_3) <|
    if (l3_3 : Int) = 0 then (
      some 1
    ) else (
      og (xR ((M_now 0) - 1)) <|
      if (l2_2 : Int) = ((M_now 0) - 1) then (
        some 1
      ) else (
        og (xR ((M_now 1) - 1)) <|
        if (l3_3 : Int) = ((M_now 1) - 1) then (
          some 1
        ) else (
          some 0
        )
      )
    )
  )

def f_mo_isHole_83 (N : Nat) (l2 : Int) (l4 : Int) (l6 : Int) (l7 : Int) (l8 : Int) (M_now : Int → Int) (M_marks : Int → Int) (k23 : Int → Int → Int → (Int → Int) → (Int → Int) → Option (Int × (Int → Int) × (Int → Int))) : Nat → Int → Int → (Int → Int) → (Int → Int) → Option (Int × (Int → Int) × (Int → Int))
  | 0, _, _, _, _ => none
  | n + 1, l5, l9, M_queue, M_seen =>
    og (xR l9) <|
    if (9 : Int) ≤ l9 then (
      Option.bind (some (l6 + 1 : Int)) fun l6_16 =>
      k23 l4 l5 l6_16 M_queue M_seen
    ) else (
      og (0 ≤ l9 ∧ l9 < 2147483648) <|
      Option.bind (some (((((7 * ((l7 + (l9 / 3)) - 1)) + l8) + (l9 % 3)) - 1) : Int)) fun l10_18 =>
      Option.bind (f_mo_isCell N ((l7 + (l9 / 3)) - 1) ((l8 + (l9 % 3)) - 1) M_now) fun q_19 =>
      og (xR q_19) <|
      Option.bind ((
        if (q_19 : Int) = 0 then (
          Option.bind (some (l9 + 1 : Int)) fun l9_21 =>
          some (l5, l9_21, M_queue, M_seen)
        ) else (
          og (0 ≤ l10_18 ∧ l10_18 < 49) <|
          og (xR (M_marks l10_18)) <|
          og (xR l2) <|
          if ((M_marks l10_18) : Int) = l2 then (
            Option.bind (some (l9 + 1 : Int)) fun l9_25 =>
            some (l5, l9_25, M_queue, M_seen)
          ) else (
            og (xR (M_seen l10_18)) <|
            if ((M_seen l10_18) : Int) = 0 then (
              Option.bind (some (upi M_seen l10_18 1 : Int → Int)) fun M_seen_28 =>
              og (0 ≤ l5 ∧ l5 < 49) <|
              Option.bind (some (upi M_queue l5 l10_18 : Int → Int)) fun M_queue_30 =>
              Option.bind (some (l5 + 1 : Int)) fun l5_31 =>
              Option.bind (some (l9 + 1 : Int)) fun l9_32 =>
              some (l5_31, l9_32, M_queue_30, M_seen_28)
            ) else (
              Option.bind (some (l9 + 1 : Int)) fun l9_27 =>
              some (l5, l9_27, M_queue, M_seen)
            )
          )
        )
      ) : Option (Int × Int × (Int → Int) × (Int → Int))) fun r_33 =>
      f_mo_isHole_83 N l2 l4 l6 l7 l8 M_now M_marks k23 n r_33.1 r_33.2.1 r_33.2.2.1 r_33.2.2.2
    )

def f_mo_isHole_23 (N : Nat) (l2 : Int) (M_now : Int → Int) (M_marks : Int → Int) : Nat → Int → Int → Int → (Int → Int) → (Int → Int) → Option (Int × (Int → Int) × (Int → Int))
  | 0, _, _, _, _, _ => none
  | n + 1, l4, l5, l6, M_queue, M_seen =>
    og (xR l6) <|
    og (xR l5) <|
    if (l5 : Int) ≤ l6 then (
      og (l4 = 0 ∨ l4 = 1) <|
      some (l4, M_queue, M_seen)
    ) else (
      og (0 ≤ l6 ∧ l6 < 49) <|
      og (0 ≤ (M_queue l6) ∧ (M_queue l6) < 2147483648) <|
      Option.bind (some (((M_queue l6) / 7) : Int)) fun l7_9 =>
      Option.bind (some (((M_queue l6) % 7) : Int)) fun l8_10 =>
      og (xR l4) <|
      Option.bind ((
        if (l4 : Int) = 0 then (
          some 0
        ) else (
          Option.bind (f_mo_isEdge N (M_queue l6) M_now) fun q_12 =>
          og (xR q_12) <|
          if (q_12 : Int) = 0 then (
            some 1
          ) else (
            some 0
          )
        )
      ) : Option (Int)) fun r_14 =>
      f_mo_isHole_83 N l2 r_14 l6 l7_9 l8_10 M_now M_marks (f_mo_isHole_23 N l2 M_now M_marks n) N l5 0 M_queue M_seen
    )

def f_mo_isHole (N : Nat) (l2 : Int) (l3 : Int) (M_now : Int → Int) (M_queue : Int → Int) (M_seen : Int → Int) (M_marks : Int → Int) : Option (Int × (Int → Int) × (Int → Int)) :=
  og (0 ≤ l3 ∧ l3 < 49) <|
  Option.bind (some (upi M_seen l3 1 : Int → Int)) fun M_seen_2 =>
  Option.bind (some (upi M_queue 0 l3 : Int → Int)) fun M_queue_3 =>
  f_mo_isHole_23 N l2 M_now M_marks N 1 1 0 M_queue_3 M_seen_2

def f_mo_holesOf_26 (N : Nat) (l2 : Int) (M_now : Int → Int) (M_marks : Int → Int) : Nat → Int → Int → (Int → Int) → (Int → Int) → Option (Int × (Int → Int) × (Int → Int))
  | 0, _, _, _, _ => none
  | n + 1, l3, l4, M_queue, M_seen =>
    og (xR l4) <|
    if (49 : Int) ≤ l4 then (
      some (l3, M_queue, M_seen)
    ) else (
      og (0 ≤ l4 ∧ l4 < 2147483648) <|
      Option.bind (f_mo_isCell N (l4 / 7) (l4 % 7) M_now) fun q_27 =>
      og (xR q_27) <|
      if (q_27 : Int) = 0 then (
        Option.bind (some (l4 + 1 : Int)) fun l4_29 =>
        f_mo_holesOf_26 N l2 M_now M_marks n l3 l4_29 M_queue M_seen
      ) else (
        og (0 ≤ l4 ∧ l4 < 49) <|
        og (xR (M_marks l4)) <|
        og (xR l2) <|
        if ((M_marks l4) : Int) = l2 then (
          Option.bind (some (l4 + 1 : Int)) fun l4_33 =>
          f_mo_holesOf_26 N l2 M_now M_marks n l3 l4_33 M_queue M_seen
        ) else (
          og (xR (M_seen l4)) <|
          if ((M_seen l4) : Int) = 0 then (
            Option.bind (f_mo_isHole N l2 l4 M_now M_queue M_seen M_marks) fun q_36 =>
            og (xR q_36.1) <|
            Option.bind ((
              if (q_36.1 : Int) = 0 then (
                some 0
              ) else (
                some 1
              )
            ) : Option (Int)) fun r_38 =>
            Option.bind (some ((l3 + r_38) : Int)) fun l3_39 =>
            Option.bind (some (l4 + 1 : Int)) fun l4_40 =>
            f_mo_holesOf_26 N l2 M_now M_marks n l3_39 l4_40 q_36.2.1 q_36.2.2
          ) else (
            Option.bind (some (l4 + 1 : Int)) fun l4_35 =>
            f_mo_holesOf_26 N l2 M_now M_marks n l3 l4_35 M_queue M_seen
          )
        )
      )
    )

def f_mo_holesOf_2 (N : Nat) (l2 : Int) (M_queue : Int → Int) (M_now : Int → Int) (M_marks : Int → Int) : Nat → Int → (Int → Int) → Option (Int × (Int → Int) × (Int → Int))
  | 0, _, _ => none
  | n + 1, l3, M_seen =>
    og (xR l3) <|
    if (49 : Int) ≤ l3 then (
      f_mo_holesOf_26 N l2 M_now M_marks N 0 0 M_queue M_seen
    ) else (
      og (0 ≤ l3 ∧ l3 < 49) <|
      Option.bind (some (upi M_seen l3 0 : Int → Int)) fun M_seen_23 =>
      Option.bind (some (l3 + 1 : Int)) fun l3_24 =>
      f_mo_holesOf_2 N l2 M_queue M_now M_marks n l3_24 M_seen_23
    )

def f_mo_holesOf (N : Nat) (l2 : Int) (M_now : Int → Int) (M_queue : Int → Int) (M_seen : Int → Int) (M_marks : Int → Int) : Option (Int × (Int → Int) × (Int → Int)) :=
  f_mo_holesOf_2 N l2 M_queue M_now M_marks N 0 M_seen

def f_mo_isEasy (N : Nat) (l2 : Int) (l3 : Int) (M_now : Int → Int) (M_queue : Int → Int) (M_seen : Int → Int) (M_marks : Int → Int) : Option (Int × (Int → Int) × (Int → Int)) :=
  og (xR l3) <|
  og (xR (M_now 2)) <|
  if ((M_now 2) : Int) < l3 then (
    some (0, M_queue, M_seen)
  ) else (
    Option.bind (f_mo_corners N l2 M_now M_marks) fun q_3 =>
    og (xR q_3) <|
    og (xR (M_now 3)) <|
    if ((M_now 3) : Int) < q_3 then (
      some (0, M_queue, M_seen)
    ) else (
      if (l3 : Int) < 8 then (
        some (1, M_queue, M_seen)
      ) else (
        Option.bind (f_mo_holesOf N l2 M_now M_queue M_seen M_marks) fun q_6 =>
        og (xR q_6.1) <|
        if (q_6.1 : Int) = 0 then (
          some (1, q_6.2.1, q_6.2.2)
        ) else (
          some (0, q_6.2.1, q_6.2.2)
        )
      )
    )
  )

def f_mo_canCut (N : Nat) (l1 : Int) (M_now : Int → Int) (M_queue : Int → Int) (M_pane : Int → Int) (M_size : Int → Int) (M_seen : Int → Int) : Option (Int × (Int → Int) × (Int → Int)) :=
  og (0 ≤ l1 ∧ l1 < 49) <|
  Option.bind (f_mo_isEasy N l1 (M_size l1) M_now M_queue M_seen M_pane) fun q_2 =>
  og (q_2.1 = 0 ∨ q_2.1 = 1) <|
  some (q_2.1, q_2.2.1, q_2.2.2)

def f_mo_paneCount (N : Nat) (M_top : Int) (M_bottom : Int) (M_left : Int) (M_right : Int) (M_panes : Int) (M_now : Int → Int) (M_queue : Int → Int) (M_pane : Int → Int) (M_size : Int → Int) : Option (Int × Int × Int × Int × Int × Int × (Int → Int) × (Int → Int) × (Int → Int)) :=
  Option.bind (f_mo_findPanes N M_top M_bottom M_left M_right M_panes M_now M_queue M_pane M_size) fun q_1 =>
  some (q_1.2.2.2.2.1, q_1.1, q_1.2.1, q_1.2.2.1, q_1.2.2.2.1, q_1.2.2.2.2.1, q_1.2.2.2.2.2.1, q_1.2.2.2.2.2.2.1, q_1.2.2.2.2.2.2.2)

def f_mo_paneAt (N : Nat) (l1 : Int) (l2 : Int) (M_top : Int) (M_bottom : Int) (M_left : Int) (M_right : Int) (M_panes : Int) (M_now : Int → Int) (M_queue : Int → Int) (M_pane : Int → Int) (M_size : Int → Int) : Option (Int × Int × Int × Int × Int × Int × (Int → Int) × (Int → Int) × (Int → Int)) :=
  Option.bind (f_mo_findPanes N M_top M_bottom M_left M_right M_panes M_now M_queue M_pane M_size) fun q_1 =>
  Option.bind (f_mo_isCell N l1 l2 M_now) fun q_2 =>
  og (xR q_2) <|
  if (q_2 : Int) = 0 then (
    some ((-1), q_1.1, q_1.2.1, q_1.2.2.1, q_1.2.2.2.1, q_1.2.2.2.2.1, q_1.2.2.2.2.2.1, q_1.2.2.2.2.2.2.1, q_1.2.2.2.2.2.2.2)
  ) else (
    og (0 ≤ ((7 * l1) + l2) ∧ ((7 * l1) + l2) < 49) <|
    some ((q_1.2.2.2.2.2.2.1 ((7 * l1) + l2)), q_1.1, q_1.2.1, q_1.2.2.1, q_1.2.2.2.1, q_1.2.2.2.2.1, q_1.2.2.2.2.2.1, q_1.2.2.2.2.2.2.1, q_1.2.2.2.2.2.2.2)
  )

def f_mo_paneSize (N : Nat) (l1 : Int) (M_top : Int) (M_bottom : Int) (M_left : Int) (M_right : Int) (M_panes : Int) (M_now : Int → Int) (M_queue : Int → Int) (M_pane : Int → Int) (M_size : Int → Int) : Option (Int × Int × Int × Int × Int × Int × (Int → Int) × (Int → Int) × (Int → Int)) :=
  Option.bind (f_mo_isPane N l1 M_top M_bottom M_left M_right M_panes M_now M_queue M_pane M_size) fun q_1 =>
  og (xR q_1.1) <|
  if (q_1.1 : Int) = 0 then (
    some ((-1), q_1.2.1, q_1.2.2.1, q_1.2.2.2.1, q_1.2.2.2.2.1, q_1.2.2.2.2.2.1, q_1.2.2.2.2.2.2.1, q_1.2.2.2.2.2.2.2.1, q_1.2.2.2.2.2.2.2.2)
  ) else (
    og (0 ≤ l1 ∧ l1 < 49) <|
    some ((q_1.2.2.2.2.2.2.2.2 l1), q_1.2.1, q_1.2.2.1, q_1.2.2.2.1, q_1.2.2.2.2.1, q_1.2.2.2.2.2.1, q_1.2.2.2.2.2.2.1, q_1.2.2.2.2.2.2.2.1, q_1.2.2.2.2.2.2.2.2)
  )

def f_mo_innerCorners (N : Nat) (l1 : Int) (M_top : Int) (M_bottom : Int) (M_left : Int) (M_right : Int) (M_panes : Int) (M_now : Int → Int) (M_queue : Int → Int) (M_pane : Int → Int) (M_size : Int → Int) : Option (Int × Int × Int × Int × Int × Int × (Int → Int) × (Int → Int) × (Int → Int)) :=
  Option.bind (f_mo_isPane N l1 M_top M_bottom M_left M_right M_panes M_now M_queue M_pane M_size) fun q_1 =>
  og (xR q_1.1) <|
  if (q_1.1 : Int) = 0 then (
    some ((-1), q_1.2.1, q_1.2.2.1, q_1.2.2.2.1, q_1.2.2.2.2.1, q_1.2.2.2.2.2.1, q_1.2.2.2.2.2.2.1, q_1.2.2.2.2.2.2.2.1, q_1.2.2.2.2.2.2.2.2)
  ) else (
    Option.bind (f_mo_corners N l1 M_now q_1.2.2.2.2.2.2.2.1) fun q_3 =>
    some (q_3, q_1.2.1, q_1.2.2.1, q_1.2.2.2.1, q_1.2.2.2.2.1, q_1.2.2.2.2.2.1, q_1.2.2.2.2.2.2.1, q_1.2.2.2.2.2.2.2.1, q_1.2.2.2.2.2.2.2.2)
  )

def f_mo_holes (N : Nat) (l1 : Int) (M_top : Int) (M_bottom : Int) (M_left : Int) (M_right : Int) (M_panes : Int) (M_now : Int → Int) (M_queue : Int → Int) (M_pane : Int → Int) (M_size : Int → Int) (M_seen : Int → Int) : Option (Int × Int × Int × Int × Int × Int × (Int → Int) × (Int → Int) × (Int → Int) × (Int → Int)) :=
  Option.bind (f_mo_isPane N l1 M_top M_bottom M_left M_right M_panes M_now M_queue M_pane M_size) fun q_1 =>
  og (xR q_1.1) <|
  if (q_1.1 : Int) = 0 then (
    some ((-1), q_1.2.1, q_1.2.2.1, q_1.2.2.2.1, q_1.2.2.2.2.1, q_1.2.2.2.2.2.1, q_1.2.2.2.2.2.2.1, q_1.2.2.2.2.2.2.2.1, q_1.2.2.2.2.2.2.2.2, M_seen)
  ) else (
    Option.bind (f_mo_holesOf N l1 M_now q_1.2.2.2.2.2.2.1 M_seen q_1.2.2.2.2.2.2.2.1) fun q_3 =>
    some (q_3.1, q_1.2.1, q_1.2.2.1, q_1.2.2.2.1, q_1.2.2.2.2.1, q_1.2.2.2.2.2.1, q_3.2.1, q_1.2.2.2.2.2.2.2.1, q_1.2.2.2.2.2.2.2.2, q_3.2.2)
  )

def f_mo_canBeCut (N : Nat) (l1 : Int) (M_top : Int) (M_bottom : Int) (M_left : Int) (M_right : Int) (M_panes : Int) (M_now : Int → Int) (M_queue : Int → Int) (M_pane : Int → Int) (M_size : Int → Int) (M_seen : Int → Int) : Option (Int × Int × Int × Int × Int × Int × (Int → Int) × (Int → Int) × (Int → Int) × (Int → Int)) :=
  Option.bind (f_mo_isPane N l1 M_top M_bottom M_left M_right M_panes M_now M_queue M_pane M_size) fun q_1 =>
  og (xR q_1.1) <|
  if (q_1.1 : Int) = 0 then (
    some ((-1), q_1.2.1, q_1.2.2.1, q_1.2.2.2.1, q_1.2.2.2.2.1, q_1.2.2.2.2.2.1, q_1.2.2.2.2.2.2.1, q_1.2.2.2.2.2.2.2.1, q_1.2.2.2.2.2.2.2.2, M_seen)
  ) else (
    Option.bind (f_mo_canCut N l1 M_now q_1.2.2.2.2.2.2.1 q_1.2.2.2.2.2.2.2.1 q_1.2.2.2.2.2.2.2.2 M_seen) fun q_3 =>
    og (xR q_3.1) <|
    if (q_3.1 : Int) = 0 then (
      some (0, q_1.2.1, q_1.2.2.1, q_1.2.2.2.1, q_1.2.2.2.2.1, q_1.2.2.2.2.2.1, q_3.2.1, q_1.2.2.2.2.2.2.2.1, q_1.2.2.2.2.2.2.2.2, q_3.2.2)
    ) else (
      some (1, q_1.2.1, q_1.2.2.1, q_1.2.2.2.1, q_1.2.2.2.2.1, q_1.2.2.2.2.2.1, q_3.2.1, q_1.2.2.2.2.2.2.2.1, q_1.2.2.2.2.2.2.2.2, q_3.2.2)
    )
  )

def f_mo_cuttableCount_8 (N : Nat) (M_top : Int) (M_bottom : Int) (M_left : Int) (M_right : Int) (M_panes : Int) (M_pane : Int → Int) (M_size : Int → Int) (M_now : Int → Int) : Nat → Int → Int → (Int → Int) → (Int → Int) → Option (Int × Int × Int × Int × Int × Int × (Int → Int) × (Int → Int) × (Int → Int) × (Int → Int))
  | 0, _, _, _, _ => none
  | n + 1, l1, l2, M_queue, M_seen =>
    og (xR l2) <|
    og (xR M_panes) <|
    if (M_panes : Int) ≤ l2 then (
      some (l1, M_top, M_bottom, M_left, M_right, M_panes, M_queue, M_pane, M_size, M_seen)
    ) else (
      Option.bind (f_mo_canCut N l2 M_now M_queue M_pane M_size M_seen) fun q_12 =>
      og (xR q_12.1) <|
      Option.bind ((
        if (q_12.1 : Int) = 0 then (
          some 0
        ) else (
          some 1
        )
      ) : Option (Int)) fun r_14 =>
      Option.bind (some ((l1 + r_14) : Int)) fun l1_15 =>
      Option.bind (some (l2 + 1 : Int)) fun l2_16 =>
      f_mo_cuttableCount_8 N M_top M_bottom M_left M_right M_panes M_pane M_size M_now n l1_15 l2_16 q_12.2.1 q_12.2.2
    )

def f_mo_cuttableCount (N : Nat) (M_top : Int) (M_bottom : Int) (M_left : Int) (M_right : Int) (M_panes : Int) (M_now : Int → Int) (M_queue : Int → Int) (M_pane : Int → Int) (M_size : Int → Int) (M_seen : Int → Int) : Option (Int × Int × Int × Int × Int × Int × (Int → Int) × (Int → Int) × (Int → Int) × (Int → Int)) :=
  Option.bind (f_mo_findPanes N M_top M_bottom M_left M_right M_panes M_now M_queue M_pane M_size) fun q_9 =>
  f_mo_cuttableCount_8 N q_9.1 q_9.2.1 q_9.2.2.1 q_9.2.2.2.1 q_9.2.2.2.2.1 q_9.2.2.2.2.2.2.1 q_9.2.2.2.2.2.2.2 M_now N 0 0 q_9.2.2.2.2.2.1 M_seen

def f_mo_isLoose (N : Nat) (l1 : Int) (M_now : Int → Int) (M_pane : Int → Int) : Option (Int) :=
  og (0 ≤ l1 ∧ l1 < 2147483648) <|
  Option.bind (some ((l1 % 49) : Int)) fun l2_2 =>
  og (0 ≤ (53 + l1) ∧ (53 + l1) < 151) <|
  og (xR (M_now (53 + l1))) <|
  if ((M_now (53 + l1)) : Int) = 1 then (
    og (0 ≤ l2_2 ∧ l2_2 < 49) <|
    Option.bind (f_mo_step N (l1 / 49)) fun q_6 =>
    og (0 ≤ (l2_2 + q_6) ∧ (l2_2 + q_6) < 49) <|
    og (xR (M_pane l2_2)) <|
    og (xR (M_pane (l2_2 + q_6))) <|
    if ((M_pane l2_2) : Int) = (M_pane (l2_2 + q_6)) then (
      some 1
    ) else (
      some 0
    )
  ) else (
    some 0
  )

def f_mo_looseCuts_8 (N : Nat) (M_top : Int) (M_bottom : Int) (M_left : Int) (M_right : Int) (M_panes : Int) (M_queue : Int → Int) (M_pane : Int → Int) (M_size : Int → Int) (M_now : Int → Int) : Nat → Int → Int → Option (Int × Int × Int × Int × Int × Int × (Int → Int) × (Int → Int) × (Int → Int))
  | 0, _, _ => none
  | n + 1, l1, l2 =>
    og (xR l2) <|
    if (98 : Int) ≤ l2 then (
      some (l1, M_top, M_bottom, M_left, M_right, M_panes, M_queue, M_pane, M_size)
    ) else (
      Option.bind (f_mo_isLoose N l2 M_now M_pane) fun q_10 =>
      og (xR q_10) <|
      Option.bind ((
        if (q_10 : Int) = 0 then (
          some 0
        ) else (
          some 1
        )
      ) : Option (Int)) fun r_12 =>
      Option.bind (some ((l1 + r_12) : Int)) fun l1_13 =>
      Option.bind (some (l2 + 1 : Int)) fun l2_14 =>
      f_mo_looseCuts_8 N M_top M_bottom M_left M_right M_panes M_queue M_pane M_size M_now n l1_13 l2_14
    )

def f_mo_looseCuts (N : Nat) (M_top : Int) (M_bottom : Int) (M_left : Int) (M_right : Int) (M_panes : Int) (M_now : Int → Int) (M_queue : Int → Int) (M_pane : Int → Int) (M_size : Int → Int) : Option (Int × Int × Int × Int × Int × Int × (Int → Int) × (Int → Int) × (Int → Int)) :=
  Option.bind (f_mo_findPanes N M_top M_bottom M_left M_right M_panes M_now M_queue M_pane M_size) fun q_8 =>
  f_mo_looseCuts_8 N q_8.1 q_8.2.1 q_8.2.2.1 q_8.2.2.2.1 q_8.2.2.2.2.1 q_8.2.2.2.2.2.1 q_8.2.2.2.2.2.2.1 q_8.2.2.2.2.2.2.2 M_now N 0 0

def f_mo_removeLooseCuts_18 (N : Nat) (l1 : Int) (M_edits : Int) (M_top : Int) (M_bottom : Int) (M_left : Int) (M_right : Int) (M_panes : Int) (M_past : Int → Int) (M_queue : Int → Int) (M_pane : Int → Int) (M_size : Int → Int) : Nat → Int → (Int → Int) → Option (Int × Int × Int × Int × Int × Int × Int × (Int → Int) × (Int → Int) × (Int → Int) × (Int → Int) × (Int → Int))
  | 0, _, _ => none
  | n + 1, l2, M_now =>
    og (xR l2) <|
    if (98 : Int) ≤ l2 then (
      some (l1, M_edits, M_top, M_bottom, M_left, M_right, M_panes, M_now, M_past, M_queue, M_pane, M_size)
    ) else (
      Option.bind (f_mo_isLoose N l2 M_now M_pane) fun q_16 =>
      og (xR q_16) <|
      Option.bind ((
        if (q_16 : Int) = 0 then (
          og (0 ≤ (53 + l2) ∧ (53 + l2) < 151) <|
          some (M_now (53 + l2))
        ) else (
          some 0
        )
      ) : Option (Int)) fun r_19 =>
      og (0 ≤ (53 + l2) ∧ (53 + l2) < 151) <|
      Option.bind (some (upi M_now (53 + l2) r_19 : Int → Int)) fun M_now_21 =>
      Option.bind (some (l2 + 1 : Int)) fun l2_22 =>
      f_mo_removeLooseCuts_18 N l1 M_edits M_top M_bottom M_left M_right M_panes M_past M_queue M_pane M_size n l2_22 M_now_21
    )

def f_mo_removeLooseCuts (N : Nat) (M_edits : Int) (M_top : Int) (M_bottom : Int) (M_left : Int) (M_right : Int) (M_panes : Int) (M_now : Int → Int) (M_past : Int → Int) (M_queue : Int → Int) (M_pane : Int → Int) (M_size : Int → Int) : Option (Int × Int × Int × Int × Int × Int × Int × (Int → Int) × (Int → Int) × (Int → Int) × (Int → Int) × (Int → Int)) :=
  Option.bind (f_mo_looseCuts N M_top M_bottom M_left M_right M_panes M_now M_queue M_pane M_size) fun q_12 =>
  og (xR q_12.1) <|
  if (q_12.1 : Int) = 0 then (
    some ((-2), M_edits, q_12.2.1, q_12.2.2.1, q_12.2.2.2.1, q_12.2.2.2.2.1, q_12.2.2.2.2.2.1, M_now, M_past, q_12.2.2.2.2.2.2.1, q_12.2.2.2.2.2.2.2.1, q_12.2.2.2.2.2.2.2.2)
  ) else (
    Option.bind (f_mo_save N M_edits M_now M_past) fun q_14 =>
    f_mo_removeLooseCuts_18 N q_12.1 q_14.1 q_12.2.1 q_12.2.2.1 q_12.2.2.2.1 q_12.2.2.2.2.1 q_12.2.2.2.2.2.1 q_14.2 q_12.2.2.2.2.2.2.1 q_12.2.2.2.2.2.2.2.1 q_12.2.2.2.2.2.2.2.2 N 0 M_now
  )

def f_mo_findNear_182 (N : Nat) (l1 : Int) (l2 : Int) (M_top : Int) (M_bottom : Int) (M_left : Int) (M_right : Int) (M_panes : Int) (M_queue : Int → Int) (M_pane : Int → Int) (M_size : Int → Int) (M_near : Int → Int) (k165 : Int → (Int → Int) → Option (Int × Int × Int × Int × Int × Int × (Int → Int) × (Int → Int) × (Int → Int) × (Int → Int) × (Int → Int))) : Nat → Int → (Int → Int) → Option (Int × Int × Int × Int × Int × Int × (Int → Int) × (Int → Int) × (Int → Int) × (Int → Int) × (Int → Int))
  | 0, _, _ => none
  | n + 1, l3, M_nearMany =>
    og (xR l3) <|
    og (xR M_panes) <|
    if (M_panes : Int) ≤ l3 then (
      Option.bind (some (l2 + 1 : Int)) fun l2_91 =>
      k165 l2_91 M_nearMany
    ) else (
      og (0 ≤ l2 ∧ l2 < 49) <|
      og (0 ≤ ((49 * l2) + l3) ∧ ((49 * l2) + l3) < 2401) <|
      og (xR (M_near ((49 * l2) + l3))) <|
      Option.bind ((
        if ((M_near ((49 * l2) + l3)) : Int) = 0 then (
          some 0
        ) else (
          some 1
        )
      ) : Option (Int)) fun r_95 =>
      Option.bind (some (upi M_nearMany l2 ((M_nearMany l2) + r_95) : Int → Int)) fun M_nearMany_96 =>
      Option.bind (some (l3 + 1 : Int)) fun l3_97 =>
      f_mo_findNear_182 N l1 l2 M_top M_bottom M_left M_right M_panes M_queue M_pane M_size M_near k165 n l3_97 M_nearMany_96
    )

def f_mo_findNear_165 (N : Nat) (l1 : Int) (M_top : Int) (M_bottom : Int) (M_left : Int) (M_right : Int) (M_panes : Int) (M_queue : Int → Int) (M_pane : Int → Int) (M_size : Int → Int) (M_near : Int → Int) : Nat → Int → (Int → Int) → Option (Int × Int × Int × Int × Int × Int × (Int → Int) × (Int → Int) × (Int → Int) × (Int → Int) × (Int → Int))
  | 0, _, _ => none
  | n + 1, l2, M_nearMany =>
    og (xR l2) <|
    og (xR M_panes) <|
    if (M_panes : Int) ≤ l2 then (
      some (l1, M_top, M_bottom, M_left, M_right, M_panes, M_queue, M_pane, M_size, M_near, M_nearMany)
    ) else (
      og (0 ≤ l2 ∧ l2 < 49) <|
      Option.bind (some (upi M_nearMany l2 0 : Int → Int)) fun M_nearMany_88 =>
      f_mo_findNear_182 N l1 l2 M_top M_bottom M_left M_right M_panes M_queue M_pane M_size M_near (f_mo_findNear_165 N l1 M_top M_bottom M_left M_right M_panes M_queue M_pane M_size M_near n) N 0 M_nearMany_88
    )

def f_mo_findNear_30 (N : Nat) (M_top : Int) (M_bottom : Int) (M_left : Int) (M_right : Int) (M_panes : Int) (M_queue : Int → Int) (M_pane : Int → Int) (M_size : Int → Int) (M_nearMany : Int → Int) (M_now : Int → Int) : Nat → Int → Int → (Int → Int) → Option (Int × Int × Int × Int × Int × Int × (Int → Int) × (Int → Int) × (Int → Int) × (Int → Int) × (Int → Int))
  | 0, _, _, _ => none
  | n + 1, l1, l2, M_near =>
    og (xR l2) <|
    if (98 : Int) ≤ l2 then (
      f_mo_findNear_165 N l1 M_top M_bottom M_left M_right M_panes M_queue M_pane M_size M_near N 0 M_nearMany
    ) else (
      og (0 ≤ l2 ∧ l2 < 2147483648) <|
      Option.bind (some ((l2 % 49) : Int)) fun l3_59 =>
      og (0 ≤ l3_59 ∧ l3_59 < 2147483648) <|
      Option.bind (f_mo_isCell N (l3_59 / 7) (l3_59 % 7) M_now) fun q_61 =>
      og (xR q_61) <|
      if (q_61 : Int) = 0 then (
        Option.bind (some (l2 + 1 : Int)) fun l2_63 =>
        f_mo_findNear_30 N M_top M_bottom M_left M_right M_panes M_queue M_pane M_size M_nearMany M_now n l1 l2_63 M_near
      ) else (
        Option.bind (f_mo_hasNext N l3_59 (l2 / 49) M_now) fun q_64 =>
        og (xR q_64) <|
        if (q_64 : Int) = 0 then (
          Option.bind (some (l2 + 1 : Int)) fun l2_66 =>
          f_mo_findNear_30 N M_top M_bottom M_left M_right M_panes M_queue M_pane M_size M_nearMany M_now n l1 l2_66 M_near
        ) else (
          og (0 ≤ l3_59 ∧ l3_59 < 49) <|
          Option.bind (some ((M_pane l3_59) : Int)) fun l4_68 =>
          Option.bind (f_mo_step N (l2 / 49)) fun q_69 =>
          og (0 ≤ (l3_59 + q_69) ∧ (l3_59 + q_69) < 49) <|
          Option.bind (some ((M_pane (l3_59 + q_69)) : Int)) fun l5_71 =>
          og (xR l4_68) <|
          og (xR l5_71) <|
          Option.bind ((
            if (l4_68 : Int) = l5_71 then (
              some 0
            ) else (
              some 1
            )
          ) : Option (Int)) fun r_74 =>
          Option.bind (some ((l1 + r_74) : Int)) fun l1_75 =>
          Option.bind ((
            if (l4_68 : Int) = l5_71 then (
              some 0
            ) else (
              some 1
            )
          ) : Option (Int)) fun r_76 =>
          og (0 ≤ ((49 * l4_68) + l5_71) ∧ ((49 * l4_68) + l5_71) < 2401) <|
          og (r_76 = 0 ∨ r_76 = 1) <|
          Option.bind (some (upi M_near ((49 * l4_68) + l5_71) r_76 : Int → Int)) fun M_near_79 =>
          Option.bind ((
            if (l4_68 : Int) = l5_71 then (
              some 0
            ) else (
              some 1
            )
          ) : Option (Int)) fun r_80 =>
          og (0 ≤ ((49 * l5_71) + l4_68) ∧ ((49 * l5_71) + l4_68) < 2401) <|
          og (r_80 = 0 ∨ r_80 = 1) <|
          Option.bind (some (upi M_near_79 ((49 * l5_71) + l4_68) r_80 : Int → Int)) fun M_near_83 =>
          Option.bind (some (l2 + 1 : Int)) fun l2_84 =>
          f_mo_findNear_30 N M_top M_bottom M_left M_right M_panes M_queue M_pane M_size M_nearMany M_now n l1_75 l2_84 M_near_83
        )
      )
    )

def f_mo_findNear_6 (N : Nat) (M_top : Int) (M_bottom : Int) (M_left : Int) (M_right : Int) (M_panes : Int) (M_queue : Int → Int) (M_pane : Int → Int) (M_size : Int → Int) (M_nearMany : Int → Int) (M_now : Int → Int) : Nat → Int → (Int → Int) → Option (Int × Int × Int × Int × Int × Int × (Int → Int) × (Int → Int) × (Int → Int) × (Int → Int) × (Int → Int))
  | 0, _, _ => none
  | n + 1, l1, M_near =>
    og (xR l1) <|
    if (2401 : Int) ≤ l1 then (
      f_mo_findNear_30 N M_top M_bottom M_left M_right M_panes M_queue M_pane M_size M_nearMany M_now N 0 0 M_near
    ) else (
      og (0 ≤ l1 ∧ l1 < 2401) <|
      Option.bind (some (upi M_near l1 0 : Int → Int)) fun M_near_55 =>
      Option.bind (some (l1 + 1 : Int)) fun l1_56 =>
      f_mo_findNear_6 N M_top M_bottom M_left M_right M_panes M_queue M_pane M_size M_nearMany M_now n l1_56 M_near_55
    )

def f_mo_findNear (N : Nat) (M_top : Int) (M_bottom : Int) (M_left : Int) (M_right : Int) (M_panes : Int) (M_now : Int → Int) (M_queue : Int → Int) (M_pane : Int → Int) (M_size : Int → Int) (M_near : Int → Int) (M_nearMany : Int → Int) : Option (Int × Int × Int × Int × Int × Int × (Int → Int) × (Int → Int) × (Int → Int) × (Int → Int) × (Int → Int)) :=
  Option.bind (f_mo_findPanes N M_top M_bottom M_left M_right M_panes M_now M_queue M_pane M_size) fun q_52 =>
  f_mo_findNear_6 N q_52.1 q_52.2.1 q_52.2.2.1 q_52.2.2.2.1 q_52.2.2.2.2.1 q_52.2.2.2.2.2.1 q_52.2.2.2.2.2.2.1 q_52.2.2.2.2.2.2.2 M_nearMany M_now N 0 M_near

def f_mo_neighbourCount (N : Nat) (l1 : Int) (M_top : Int) (M_bottom : Int) (M_left : Int) (M_right : Int) (M_panes : Int) (M_now : Int → Int) (M_queue : Int → Int) (M_pane : Int → Int) (M_size : Int → Int) (M_near : Int → Int) (M_nearMany : Int → Int) : Option (Int × Int × Int × Int × Int × Int × (Int → Int) × (Int → Int) × (Int → Int) × (Int → Int) × (Int → Int)) :=
  Option.bind (f_mo_findNear N M_top M_bottom M_left M_right M_panes M_now M_queue M_pane M_size M_near M_nearMany) fun q_1 =>
  Option.bind (f_mo_in N l1 0 (q_1.2.2.2.2.2.1 - 1)) fun q_2 =>
  og (xR q_2) <|
  if (q_2 : Int) = 0 then (
    some ((-1), q_1.2.1, q_1.2.2.1, q_1.2.2.2.1, q_1.2.2.2.2.1, q_1.2.2.2.2.2.1, q_1.2.2.2.2.2.2.1, q_1.2.2.2.2.2.2.2.1, q_1.2.2.2.2.2.2.2.2.1, q_1.2.2.2.2.2.2.2.2.2.1, q_1.2.2.2.2.2.2.2.2.2.2)
  ) else (
    og (0 ≤ l1 ∧ l1 < 49) <|
    some ((q_1.2.2.2.2.2.2.2.2.2.2 l1), q_1.2.1, q_1.2.2.1, q_1.2.2.2.1, q_1.2.2.2.2.1, q_1.2.2.2.2.2.1, q_1.2.2.2.2.2.2.1, q_1.2.2.2.2.2.2.2.1, q_1.2.2.2.2.2.2.2.2.1, q_1.2.2.2.2.2.2.2.2.2.1, q_1.2.2.2.2.2.2.2.2.2.2)
  )

def f_mo_leadLength (N : Nat) (M_top : Int) (M_bottom : Int) (M_left : Int) (M_right : Int) (M_panes : Int) (M_now : Int → Int) (M_queue : Int → Int) (M_pane : Int → Int) (M_size : Int → Int) (M_near : Int → Int) (M_nearMany : Int → Int) : Option (Int × Int × Int × Int × Int × Int × (Int → Int) × (Int → Int) × (Int → Int) × (Int → Int) × (Int → Int)) :=
  Option.bind (f_mo_findNear N M_top M_bottom M_left M_right M_panes M_now M_queue M_pane M_size M_near M_nearMany) fun q_1 =>
  some (q_1.1, q_1.2.1, q_1.2.2.1, q_1.2.2.2.1, q_1.2.2.2.2.1, q_1.2.2.2.2.2.1, q_1.2.2.2.2.2.2.1, q_1.2.2.2.2.2.2.2.1, q_1.2.2.2.2.2.2.2.2.1, q_1.2.2.2.2.2.2.2.2.2.1, q_1.2.2.2.2.2.2.2.2.2.2)

def f_mo_setCellLimit (N : Nat) (l1 : Int) (M_edits : Int) (M_now : Int → Int) (M_past : Int → Int) : Option (Int × Int × (Int → Int) × (Int → Int)) :=
  Option.bind (f_mo_in N l1 1 49) fun q_1 =>
  og (xR q_1) <|
  if (q_1 : Int) = 0 then (
    some ((-1), M_edits, M_now, M_past)
  ) else (
    Option.bind (f_mo_changed N 2 l1 M_edits M_now M_past) fun q_3 =>
    some (q_3.1, q_3.2.1, q_3.2.2.1, q_3.2.2.2)
  )

def f_mo_setCornerLimit (N : Nat) (l1 : Int) (M_edits : Int) (M_now : Int → Int) (M_past : Int → Int) : Option (Int × Int × (Int → Int) × (Int → Int)) :=
  Option.bind (f_mo_in N l1 0 8) fun q_1 =>
  og (xR q_1) <|
  if (q_1 : Int) = 0 then (
    some ((-1), M_edits, M_now, M_past)
  ) else (
    Option.bind (f_mo_changed N 3 l1 M_edits M_now M_past) fun q_3 =>
    some (q_3.1, q_3.2.1, q_3.2.2.1, q_3.2.2.2)
  )

def f_mo_box (N : Nat) (l0 : Int) (l1 : Int) (l2 : Int) (l3 : Int) : Option (Int) :=
  some ((((((l0 * 7) + l1) * 7) + l2) * 7) + l3)

def f_mo_easyMany_144 (N : Nat) (l2 : Int) (l3 : Int) (M_queue : Int → Int) (M_fragment : Int → Int) (M_seen : Int → Int) : Option (Int × (Int → Int) × (Int → Int) × (Int → Int)) :=
  og (xR l3) <|
  if (l3 : Int) = 0 then (
    some ((-1), M_queue, M_fragment, M_seen)
  ) else (
    some (l2, M_queue, M_fragment, M_seen)
  )

def f_mo_easyMany_28 (N : Nat) (l1 : Int) (M_top : Int) (M_bottom : Int) (M_left : Int) (M_right : Int) (M_now : Int → Int) (M_pane : Int → Int) : Nat → Int → Int → Int → (Int → Int) → (Int → Int) → (Int → Int) → Option (Int × (Int → Int) × (Int → Int) × (Int → Int))
  | 0, _, _, _, _, _, _ => none
  | n + 1, l2, l3, l4, M_queue, M_fragment, M_seen =>
    og (xR l4) <|
    if (49 : Int) ≤ l4 then (
      f_mo_easyMany_144 N l2 l3 M_queue M_fragment M_seen
    ) else (
      og (xR l3) <|
      if (l3 : Int) = 0 then (
        f_mo_easyMany_144 N l2 l3 M_queue M_fragment M_seen
      ) else (
        og (0 ≤ l4 ∧ l4 < 2147483648) <|
        Option.bind (f_mo_in N (l4 / 7) M_top M_bottom) fun q_32 =>
        og (xR q_32) <|
        Option.bind ((
          if (q_32 : Int) = 0 then (
            some 0
          ) else (
            Option.bind (f_mo_in N (l4 % 7) M_left M_right) fun q_34 =>
            og (xR q_34) <|
            if (q_34 : Int) = 0 then (
              some 0
            ) else (
              og (0 ≤ l4 ∧ l4 < 49) <|
              og (xR (M_pane l4)) <|
              og (xR l1) <|
              if ((M_pane l4) : Int) = l1 then (
                og (xR (M_fragment l4)) <|
                if (0 : Int) ≤ (M_fragment l4) then (
                  some 0
                ) else (
                  some 1
                )
              ) else (
                some 0
              )
            )
          )
        ) : Option (Int)) fun r_40 =>
        og (xR r_40) <|
        Option.bind ((
          if (r_40 : Int) = 0 then (
            Option.bind (some (l4 + 1 : Int)) fun l4_42 =>
            some (l2, l3, l4_42, M_queue, M_fragment, M_seen)
          ) else (
            Option.bind (f_mo_spread N l4 l2 M_top M_bottom M_left M_right M_now M_queue M_fragment) fun q_43 =>
            Option.bind (f_mo_isEasy N l2 q_43.1 M_now q_43.2.1 M_seen q_43.2.2) fun q_44 =>
            Option.bind (some (l2 + 1 : Int)) fun l2_45 =>
            Option.bind (some (l4 + 1 : Int)) fun l4_46 =>
            some (l2_45, q_44.1, l4_46, q_44.2.1, q_43.2.2, q_44.2.2)
          )
        ) : Option (Int × Int × Int × (Int → Int) × (Int → Int) × (Int → Int))) fun r_47 =>
        f_mo_easyMany_28 N l1 M_top M_bottom M_left M_right M_now M_pane n r_47.1 r_47.2.1 r_47.2.2.1 r_47.2.2.2.1 r_47.2.2.2.2.1 r_47.2.2.2.2.2
      )
    )

def f_mo_easyMany_2 (N : Nat) (l1 : Int) (M_queue : Int → Int) (M_seen : Int → Int) (M_top : Int) (M_bottom : Int) (M_left : Int) (M_right : Int) (M_now : Int → Int) (M_pane : Int → Int) : Nat → Int → (Int → Int) → Option (Int × (Int → Int) × (Int → Int) × (Int → Int))
  | 0, _, _ => none
  | n + 1, l2, M_fragment =>
    og (xR l2) <|
    if (49 : Int) ≤ l2 then (
      f_mo_easyMany_28 N l1 M_top M_bottom M_left M_right M_now M_pane N 0 1 0 M_queue M_fragment M_seen
    ) else (
      og (0 ≤ l2 ∧ l2 < 49) <|
      Option.bind (some (upi M_fragment l2 (-1) : Int → Int)) fun M_fragment_27 =>
      Option.bind (some (l2 + 1 : Int)) fun l2_28 =>
      f_mo_easyMany_2 N l1 M_queue M_seen M_top M_bottom M_left M_right M_now M_pane n l2_28 M_fragment_27
    )

def f_mo_easyMany (N : Nat) (l1 : Int) (M_top : Int) (M_bottom : Int) (M_left : Int) (M_right : Int) (M_now : Int → Int) (M_queue : Int → Int) (M_pane : Int → Int) (M_fragment : Int → Int) (M_seen : Int → Int) : Option (Int × (Int → Int) × (Int → Int) × (Int → Int)) :=
  f_mo_easyMany_2 N l1 M_queue M_seen M_top M_bottom M_left M_right M_now M_pane N 0 M_fragment

def f_mo_apartBelow_6 (N : Nat) (l1 : Int) (l2 : Int) (l4 : Int) (M_now : Int → Int) (M_pane : Int → Int) : Nat → Int → Int → Option (Int)
  | 0, _, _ => none
  | n + 1, l5, l6 =>
    og (xR l6) <|
    og (xR l4) <|
    if (l4 : Int) < l6 then (
      some l5
    ) else (
      og (0 ≤ ((7 * l2) + l6) ∧ ((7 * l2) + l6) < 49) <|
      og (xR (M_pane ((7 * l2) + l6))) <|
      og (xR l1) <|
      Option.bind ((
        if ((M_pane ((7 * l2) + l6)) : Int) = l1 then (
          Option.bind (f_mo_joins N ((7 * l2) + l6) 1 M_now) fun q_16 =>
          og (xR q_16) <|
          if (q_16 : Int) = 0 then (
            some 0
          ) else (
            some 1
          )
        ) else (
          some 0
        )
      ) : Option (Int)) fun r_18 =>
      Option.bind (some ((l5 + r_18) : Int)) fun l5_19 =>
      Option.bind (some (l6 + 1 : Int)) fun l6_20 =>
      f_mo_apartBelow_6 N l1 l2 l4 M_now M_pane n l5_19 l6_20
    )

def f_mo_apartBelow (N : Nat) (l1 : Int) (l2 : Int) (l3 : Int) (l4 : Int) (M_now : Int → Int) (M_pane : Int → Int) : Option (Int) :=
  f_mo_apartBelow_6 N l1 l2 l4 M_now M_pane N 0 l3

def f_mo_apartRight_6 (N : Nat) (l1 : Int) (l2 : Int) (l4 : Int) (M_now : Int → Int) (M_pane : Int → Int) : Nat → Int → Int → Option (Int)
  | 0, _, _ => none
  | n + 1, l5, l6 =>
    og (xR l6) <|
    og (xR l4) <|
    if (l4 : Int) < l6 then (
      some l5
    ) else (
      og (0 ≤ ((7 * l6) + l2) ∧ ((7 * l6) + l2) < 49) <|
      og (xR (M_pane ((7 * l6) + l2))) <|
      og (xR l1) <|
      Option.bind ((
        if ((M_pane ((7 * l6) + l2)) : Int) = l1 then (
          Option.bind (f_mo_joins N ((7 * l6) + l2) 0 M_now) fun q_16 =>
          og (xR q_16) <|
          if (q_16 : Int) = 0 then (
            some 0
          ) else (
            some 1
          )
        ) else (
          some 0
        )
      ) : Option (Int)) fun r_18 =>
      Option.bind (some ((l5 + r_18) : Int)) fun l5_19 =>
      Option.bind (some (l6 + 1 : Int)) fun l6_20 =>
      f_mo_apartRight_6 N l1 l2 l4 M_now M_pane n l5_19 l6_20
    )

def f_mo_apartRight (N : Nat) (l1 : Int) (l2 : Int) (l3 : Int) (l4 : Int) (M_now : Int → Int) (M_pane : Int → Int) : Option (Int) :=
  f_mo_apartRight_6 N l1 l2 l4 M_now M_pane N 0 l3

def f_mo_tries_78 (N : Nat) (l1 : Int) (l2 : Int) (l6 : Int) (l7 : Int) (M_pieces : Int → Int) (M_leads : Int → Int) (M_line : Int → Int) : Option ((Int → Int) × (Int → Int) × (Int → Int)) :=
  og (0 ≤ l1 ∧ l1 < 2401) <|
  Option.bind (some (upi M_pieces l1 l6 : Int → Int)) fun M_pieces_12 =>
  Option.bind (some (upi M_leads l1 l7 : Int → Int)) fun M_leads_13 =>
  Option.bind (some (upi M_line l1 l2 : Int → Int)) fun M_line_14 =>
  some (M_pieces_12, M_leads_13, M_line_14)

def f_mo_tries (N : Nat) (l1 : Int) (l2 : Int) (l3 : Int) (l4 : Int) (l5 : Int) (M_pieces : Int → Int) (M_leads : Int → Int) (M_line : Int → Int) : Option ((Int → Int) × (Int → Int) × (Int → Int)) :=
  og (0 ≤ l3 ∧ l3 < 2401) <|
  og (0 ≤ l4 ∧ l4 < 2401) <|
  Option.bind (some (((M_pieces l3) + (M_pieces l4)) : Int)) fun l6_3 =>
  Option.bind (some ((((M_leads l3) + (M_leads l4)) + l5) : Int)) fun l7_4 =>
  og (0 ≤ l1 ∧ l1 < 2401) <|
  og (xR (M_line l1)) <|
  if ((M_line l1) : Int) = (-1) then (
    f_mo_tries_78 N l1 l2 l6_3 l7_4 M_pieces M_leads M_line
  ) else (
    og (xR l6_3) <|
    og (xR (M_pieces l1)) <|
    if (l6_3 : Int) < (M_pieces l1) then (
      f_mo_tries_78 N l1 l2 l6_3 l7_4 M_pieces M_leads M_line
    ) else (
      if (l6_3 : Int) = (M_pieces l1) then (
        og (xR l7_4) <|
        og (xR (M_leads l1)) <|
        if ((M_leads l1) : Int) ≤ l7_4 then (
          some (M_pieces, M_leads, M_line)
        ) else (
          f_mo_tries_78 N l1 l2 l6_3 l7_4 M_pieces M_leads M_line
        )
      ) else (
        some (M_pieces, M_leads, M_line)
      )
    )
  )

def f_mo_layBox_140 (N : Nat) (l1 : Int) (l2 : Int) (l3 : Int) (l4 : Int) (l5 : Int) (l6 : Int) (M_queue : Int → Int) (M_fragment : Int → Int) (M_seen : Int → Int) (M_now : Int → Int) (M_pane : Int → Int) : Nat → Int → (Int → Int) → (Int → Int) → (Int → Int) → Option ((Int → Int) × (Int → Int) × (Int → Int) × (Int → Int) × (Int → Int) × (Int → Int))
  | 0, _, _, _, _ => none
  | n + 1, l8, M_pieces, M_leads, M_line =>
    og (xR l8) <|
    og (xR l5) <|
    if (l5 : Int) ≤ l8 then (
      some (M_queue, M_fragment, M_seen, M_pieces, M_leads, M_line)
    ) else (
      Option.bind (f_mo_box N l2 l3 l4 l8) fun q_17 =>
      Option.bind (f_mo_box N l2 l3 (l8 + 1) l5) fun q_18 =>
      Option.bind (f_mo_apartRight N l1 l8 l2 l3 M_now M_pane) fun q_19 =>
      Option.bind (f_mo_tries N l6 (7 + l8) q_17 q_18 q_19 M_pieces M_leads M_line) fun q_20 =>
      Option.bind (some (l8 + 1 : Int)) fun l8_21 =>
      f_mo_layBox_140 N l1 l2 l3 l4 l5 l6 M_queue M_fragment M_seen M_now M_pane n l8_21 q_20.1 q_20.2.1 q_20.2.2
    )

def f_mo_layBox_75 (N : Nat) (l1 : Int) (l2 : Int) (l3 : Int) (l4 : Int) (l5 : Int) (l6 : Int) (M_queue : Int → Int) (M_fragment : Int → Int) (M_seen : Int → Int) (M_now : Int → Int) (M_pane : Int → Int) : Nat → Int → (Int → Int) → (Int → Int) → (Int → Int) → Option ((Int → Int) × (Int → Int) × (Int → Int) × (Int → Int) × (Int → Int) × (Int → Int))
  | 0, _, _, _, _ => none
  | n + 1, l8, M_pieces, M_leads, M_line =>
    og (xR l8) <|
    og (xR l3) <|
    if (l3 : Int) ≤ l8 then (
      f_mo_layBox_140 N l1 l2 l3 l4 l5 l6 M_queue M_fragment M_seen M_now M_pane N l4 M_pieces M_leads M_line
    ) else (
      Option.bind (f_mo_box N l2 l8 l4 l5) fun q_10 =>
      Option.bind (f_mo_box N (l8 + 1) l3 l4 l5) fun q_11 =>
      Option.bind (f_mo_apartBelow N l1 l8 l4 l5 M_now M_pane) fun q_12 =>
      Option.bind (f_mo_tries N l6 l8 q_10 q_11 q_12 M_pieces M_leads M_line) fun q_13 =>
      Option.bind (some (l8 + 1 : Int)) fun l8_14 =>
      f_mo_layBox_75 N l1 l2 l3 l4 l5 l6 M_queue M_fragment M_seen M_now M_pane n l8_14 q_13.1 q_13.2.1 q_13.2.2
    )

def f_mo_layBox (N : Nat) (l1 : Int) (M_top : Int) (M_bottom : Int) (M_left : Int) (M_right : Int) (M_now : Int → Int) (M_queue : Int → Int) (M_pane : Int → Int) (M_fragment : Int → Int) (M_seen : Int → Int) (M_pieces : Int → Int) (M_leads : Int → Int) (M_line : Int → Int) : Option ((Int → Int) × (Int → Int) × (Int → Int) × (Int → Int) × (Int → Int) × (Int → Int)) :=
  Option.bind (f_mo_box N M_top M_bottom M_left M_right) fun q_1 =>
  Option.bind (f_mo_easyMany N l1 M_top M_bottom M_left M_right M_now M_queue M_pane M_fragment M_seen) fun q_2 =>
  og (0 ≤ q_1 ∧ q_1 < 2401) <|
  Option.bind (some (upi M_line q_1 (-1) : Int → Int)) fun M_line_4 =>
  Option.bind (some (upi M_pieces q_1 q_2.1 : Int → Int)) fun M_pieces_5 =>
  Option.bind (some (upi M_leads q_1 0 : Int → Int)) fun M_leads_6 =>
  og (xR q_2.1) <|
  if (q_2.1 : Int) = (-1) then (
    f_mo_layBox_75 N l1 M_top M_bottom M_left M_right q_1 q_2.2.1 q_2.2.2.1 q_2.2.2.2 M_now M_pane N M_top M_pieces_5 M_leads_6 M_line_4
  ) else (
    some (q_2.2.1, q_2.2.2.1, q_2.2.2.2, M_pieces_5, M_leads_6, M_line_4)
  )

def f_mo_layPlan_161 (N : Nat) (l1 : Int) (l2 : Int) (l3 : Int) (l4 : Int) (l5 : Int) (l6 : Int) (l7 : Int) (l8 : Int) (M_now : Int → Int) (M_pane : Int → Int) (k124 : Int → Int → Int → Int → Int → (Int → Int) → (Int → Int) → (Int → Int) → (Int → Int) → (Int → Int) → (Int → Int) → Option (Int × Int × Int × Int × Int × (Int → Int) × (Int → Int) × (Int → Int) × (Int → Int) × (Int → Int) × (Int → Int))) (k135 : Int → Int → Int → Int → Int → (Int → Int) → (Int → Int) → (Int → Int) → (Int → Int) → (Int → Int) → (Int → Int) → Option (Int × Int × Int × Int × Int × (Int → Int) × (Int → Int) × (Int → Int) × (Int → Int) × (Int → Int) × (Int → Int))) (k148 : Int → Int → Int → Int → Int → (Int → Int) → (Int → Int) → (Int → Int) → (Int → Int) → (Int → Int) → (Int → Int) → Option (Int × Int × Int × Int × Int × (Int → Int) × (Int → Int) × (Int → Int) × (Int → Int) × (Int → Int) × (Int → Int))) : Nat → Int → Int → Int → Int → Int → (Int → Int) → (Int → Int) → (Int → Int) → (Int → Int) → (Int → Int) → (Int → Int) → Option (Int × Int × Int × Int × Int × (Int → Int) × (Int → Int) × (Int → Int) × (Int → Int) × (Int → Int) × (Int → Int))
  | 0, _, _, _, _, _, _, _, _, _, _, _ => none
  | n + 1, l9, M_top, M_bottom, M_left, M_right, M_queue, M_fragment, M_seen, M_pieces, M_leads, M_line =>
    og (xR (l9 + l7)) <|
    og (xR l5) <|
    if (l5 : Int) < (l9 + l7) then (
      Option.bind (some (l8 + 1 : Int)) fun l8_71 =>
      k148 l8_71 M_top M_bottom M_left M_right M_queue M_fragment M_seen M_pieces M_leads M_line
    ) else (
      Option.bind (some ((l8 + l6) : Int)) fun M_bottom_72 =>
      Option.bind (some ((l9 + l7) : Int)) fun M_right_73 =>
      Option.bind (f_mo_layBox N l1 l8 M_bottom_72 l9 M_right_73 M_now M_queue M_pane M_fragment M_seen M_pieces M_leads M_line) fun q_74 =>
      Option.bind (some (l9 + 1 : Int)) fun l9_75 =>
      f_mo_layPlan_161 N l1 l2 l3 l4 l5 l6 l7 l8 M_now M_pane k124 k135 k148 n l9_75 l8 M_bottom_72 l9 M_right_73 q_74.1 q_74.2.1 q_74.2.2.1 q_74.2.2.2.1 q_74.2.2.2.2.1 q_74.2.2.2.2.2
    )

def f_mo_layPlan_148 (N : Nat) (l1 : Int) (l2 : Int) (l3 : Int) (l4 : Int) (l5 : Int) (l6 : Int) (l7 : Int) (M_now : Int → Int) (M_pane : Int → Int) (k124 : Int → Int → Int → Int → Int → (Int → Int) → (Int → Int) → (Int → Int) → (Int → Int) → (Int → Int) → (Int → Int) → Option (Int × Int × Int × Int × Int × (Int → Int) × (Int → Int) × (Int → Int) × (Int → Int) × (Int → Int) × (Int → Int))) (k135 : Int → Int → Int → Int → Int → (Int → Int) → (Int → Int) → (Int → Int) → (Int → Int) → (Int → Int) → (Int → Int) → Option (Int × Int × Int × Int × Int × (Int → Int) × (Int → Int) × (Int → Int) × (Int → Int) × (Int → Int) × (Int → Int))) : Nat → Int → Int → Int → Int → Int → (Int → Int) → (Int → Int) → (Int → Int) → (Int → Int) → (Int → Int) → (Int → Int) → Option (Int × Int × Int × Int × Int × (Int → Int) × (Int → Int) × (Int → Int) × (Int → Int) × (Int → Int) × (Int → Int))
  | 0, _, _, _, _, _, _, _, _, _, _, _ => none
  | n + 1, l8, M_top, M_bottom, M_left, M_right, M_queue, M_fragment, M_seen, M_pieces, M_leads, M_line =>
    og (xR (l8 + l6)) <|
    og (xR l3) <|
    if (l3 : Int) < (l8 + l6) then (
      Option.bind (some (l7 + 1 : Int)) fun l7_68 =>
      k135 l7_68 M_top M_bottom M_left M_right M_queue M_fragment M_seen M_pieces M_leads M_line
    ) else (
      f_mo_layPlan_161 N l1 l2 l3 l4 l5 l6 l7 l8 M_now M_pane k124 k135 (f_mo_layPlan_148 N l1 l2 l3 l4 l5 l6 l7 M_now M_pane k124 k135 n) N l4 M_top M_bottom M_left M_right M_queue M_fragment M_seen M_pieces M_leads M_line
    )

def f_mo_layPlan_135 (N : Nat) (l1 : Int) (l2 : Int) (l3 : Int) (l4 : Int) (l5 : Int) (l6 : Int) (M_now : Int → Int) (M_pane : Int → Int) (k124 : Int → Int → Int → Int → Int → (Int → Int) → (Int → Int) → (Int → Int) → (Int → Int) → (Int → Int) → (Int → Int) → Option (Int × Int × Int × Int × Int × (Int → Int) × (Int → Int) × (Int → Int) × (Int → Int) × (Int → Int) × (Int → Int))) : Nat → Int → Int → Int → Int → Int → (Int → Int) → (Int → Int) → (Int → Int) → (Int → Int) → (Int → Int) → (Int → Int) → Option (Int × Int × Int × Int × Int × (Int → Int) × (Int → Int) × (Int → Int) × (Int → Int) × (Int → Int) × (Int → Int))
  | 0, _, _, _, _, _, _, _, _, _, _, _ => none
  | n + 1, l7, M_top, M_bottom, M_left, M_right, M_queue, M_fragment, M_seen, M_pieces, M_leads, M_line =>
    og (xR l7) <|
    og (xR (l5 - l4)) <|
    if ((l5 - l4) : Int) < l7 then (
      Option.bind (some (l6 + 1 : Int)) fun l6_65 =>
      k124 l6_65 M_top M_bottom M_left M_right M_queue M_fragment M_seen M_pieces M_leads M_line
    ) else (
      f_mo_layPlan_148 N l1 l2 l3 l4 l5 l6 l7 M_now M_pane k124 (f_mo_layPlan_135 N l1 l2 l3 l4 l5 l6 M_now M_pane k124 n) N l2 M_top M_bottom M_left M_right M_queue M_fragment M_seen M_pieces M_leads M_line
    )

def f_mo_layPlan_124 (N : Nat) (l1 : Int) (l2 : Int) (l3 : Int) (l4 : Int) (l5 : Int) (M_now : Int → Int) (M_pane : Int → Int) : Nat → Int → Int → Int → Int → Int → (Int → Int) → (Int → Int) → (Int → Int) → (Int → Int) → (Int → Int) → (Int → Int) → Option (Int × Int × Int × Int × Int × (Int → Int) × (Int → Int) × (Int → Int) × (Int → Int) × (Int → Int) × (Int → Int))
  | 0, _, _, _, _, _, _, _, _, _, _, _ => none
  | n + 1, l6, M_top, M_bottom, M_left, M_right, M_queue, M_fragment, M_seen, M_pieces, M_leads, M_line =>
    og (xR l6) <|
    og (xR (l3 - l2)) <|
    if ((l3 - l2) : Int) < l6 then (
      Option.bind (f_mo_box N l2 l3 l4 l5) fun q_62 =>
      some (q_62, M_top, M_bottom, M_left, M_right, M_queue, M_fragment, M_seen, M_pieces, M_leads, M_line)
    ) else (
      f_mo_layPlan_135 N l1 l2 l3 l4 l5 l6 M_now M_pane (f_mo_layPlan_124 N l1 l2 l3 l4 l5 M_now M_pane n) N 0 M_top M_bottom M_left M_right M_queue M_fragment M_seen M_pieces M_leads M_line
    )

def f_mo_layPlan_15 (N : Nat) (l1 : Int) (M_top : Int) (M_bottom : Int) (M_left : Int) (M_right : Int) (M_queue : Int → Int) (M_fragment : Int → Int) (M_seen : Int → Int) (M_pieces : Int → Int) (M_leads : Int → Int) (M_line : Int → Int) (M_now : Int → Int) (M_pane : Int → Int) : Nat → Int → Int → Int → Int → Int → Option (Int × Int × Int × Int × Int × (Int → Int) × (Int → Int) × (Int → Int) × (Int → Int) × (Int → Int) × (Int → Int))
  | 0, _, _, _, _, _ => none
  | n + 1, l2, l3, l4, l5, l6 =>
    og (xR l6) <|
    if (49 : Int) ≤ l6 then (
      f_mo_layPlan_124 N l1 l2 l3 l4 l5 M_now M_pane N 0 M_top M_bottom M_left M_right M_queue M_fragment M_seen M_pieces M_leads M_line
    ) else (
      og (0 ≤ l6 ∧ l6 < 49) <|
      og (xR (M_pane l6)) <|
      og (xR l1) <|
      if ((M_pane l6) : Int) = l1 then (
        og (0 ≤ l6 ∧ l6 < 2147483648) <|
        og (xR (l6 / 7)) <|
        og (xR l2) <|
        Option.bind ((
          if (l2 : Int) ≤ (l6 / 7) then (
            some l2
          ) else (
            some (l6 / 7)
          )
        ) : Option (Int)) fun r_49 =>
        og (xR l3) <|
        Option.bind ((
          if ((l6 / 7) : Int) ≤ l3 then (
            some l3
          ) else (
            some (l6 / 7)
          )
        ) : Option (Int)) fun r_51 =>
        og (xR (l6 % 7)) <|
        og (xR l4) <|
        Option.bind ((
          if (l4 : Int) ≤ (l6 % 7) then (
            some l4
          ) else (
            some (l6 % 7)
          )
        ) : Option (Int)) fun r_54 =>
        og (xR l5) <|
        Option.bind ((
          if ((l6 % 7) : Int) ≤ l5 then (
            Option.bind (some (l6 + 1 : Int)) fun l6_56 =>
            some (l5, l6_56)
          ) else (
            Option.bind (some ((l6 % 7) : Int)) fun l5_57 =>
            Option.bind (some (l6 + 1 : Int)) fun l6_58 =>
            some (l5_57, l6_58)
          )
        ) : Option (Int × Int)) fun r_59 =>
        f_mo_layPlan_15 N l1 M_top M_bottom M_left M_right M_queue M_fragment M_seen M_pieces M_leads M_line M_now M_pane n r_49 r_51 r_54 r_59.1 r_59.2
      ) else (
        Option.bind (some (l6 + 1 : Int)) fun l6_45 =>
        f_mo_layPlan_15 N l1 M_top M_bottom M_left M_right M_queue M_fragment M_seen M_pieces M_leads M_line M_now M_pane n l2 l3 l4 l5 l6_45
      )
    )

def f_mo_layPlan (N : Nat) (l1 : Int) (M_top : Int) (M_bottom : Int) (M_left : Int) (M_right : Int) (M_now : Int → Int) (M_queue : Int → Int) (M_pane : Int → Int) (M_fragment : Int → Int) (M_seen : Int → Int) (M_pieces : Int → Int) (M_leads : Int → Int) (M_line : Int → Int) : Option (Int × Int × Int × Int × Int × (Int → Int) × (Int → Int) × (Int → Int) × (Int → Int) × (Int → Int) × (Int → Int)) :=
  f_mo_layPlan_15 N l1 M_top M_bottom M_left M_right M_queue M_fragment M_seen M_pieces M_leads M_line M_now M_pane N 7 0 7 0 0

def f_mo_splitPieces (N : Nat) (l1 : Int) (M_top : Int) (M_bottom : Int) (M_left : Int) (M_right : Int) (M_panes : Int) (M_now : Int → Int) (M_queue : Int → Int) (M_pane : Int → Int) (M_fragment : Int → Int) (M_size : Int → Int) (M_seen : Int → Int) (M_pieces : Int → Int) (M_leads : Int → Int) (M_line : Int → Int) : Option (Int × Int × Int × Int × Int × Int × (Int → Int) × (Int → Int) × (Int → Int) × (Int → Int) × (Int → Int) × (Int → Int) × (Int → Int) × (Int → Int)) :=
  Option.bind (f_mo_isPane N l1 M_top M_bottom M_left M_right M_panes M_now M_queue M_pane M_size) fun q_1 =>
  og (xR q_1.1) <|
  if (q_1.1 : Int) = 0 then (
    some ((-1), q_1.2.1, q_1.2.2.1, q_1.2.2.2.1, q_1.2.2.2.2.1, q_1.2.2.2.2.2.1, q_1.2.2.2.2.2.2.1, q_1.2.2.2.2.2.2.2.1, M_fragment, q_1.2.2.2.2.2.2.2.2, M_seen, M_pieces, M_leads, M_line)
  ) else (
    Option.bind (f_mo_canCut N l1 M_now q_1.2.2.2.2.2.2.1 q_1.2.2.2.2.2.2.2.1 q_1.2.2.2.2.2.2.2.2 M_seen) fun q_3 =>
    og (xR q_3.1) <|
    if (q_3.1 : Int) = 0 then (
      Option.bind (f_mo_layPlan N l1 q_1.2.1 q_1.2.2.1 q_1.2.2.2.1 q_1.2.2.2.2.1 M_now q_3.2.1 q_1.2.2.2.2.2.2.2.1 M_fragment q_3.2.2 M_pieces M_leads M_line) fun q_5 =>
      og (0 ≤ q_5.1 ∧ q_5.1 < 2401) <|
      some ((q_5.2.2.2.2.2.2.2.2.1 q_5.1), q_5.2.1, q_5.2.2.1, q_5.2.2.2.1, q_5.2.2.2.2.1, q_1.2.2.2.2.2.1, q_5.2.2.2.2.2.1, q_1.2.2.2.2.2.2.2.1, q_5.2.2.2.2.2.2.1, q_1.2.2.2.2.2.2.2.2, q_5.2.2.2.2.2.2.2.1, q_5.2.2.2.2.2.2.2.2.1, q_5.2.2.2.2.2.2.2.2.2.1, q_5.2.2.2.2.2.2.2.2.2.2)
    ) else (
      some (1, q_1.2.1, q_1.2.2.1, q_1.2.2.2.1, q_1.2.2.2.2.1, q_1.2.2.2.2.2.1, q_3.2.1, q_1.2.2.2.2.2.2.2.1, M_fragment, q_1.2.2.2.2.2.2.2.2, q_3.2.2, M_pieces, M_leads, M_line)
    )
  )

def f_mo_splitLead (N : Nat) (l1 : Int) (M_top : Int) (M_bottom : Int) (M_left : Int) (M_right : Int) (M_panes : Int) (M_now : Int → Int) (M_queue : Int → Int) (M_pane : Int → Int) (M_fragment : Int → Int) (M_size : Int → Int) (M_seen : Int → Int) (M_pieces : Int → Int) (M_leads : Int → Int) (M_line : Int → Int) : Option (Int × Int × Int × Int × Int × Int × (Int → Int) × (Int → Int) × (Int → Int) × (Int → Int) × (Int → Int) × (Int → Int) × (Int → Int) × (Int → Int)) :=
  Option.bind (f_mo_isPane N l1 M_top M_bottom M_left M_right M_panes M_now M_queue M_pane M_size) fun q_1 =>
  og (xR q_1.1) <|
  if (q_1.1 : Int) = 0 then (
    some ((-1), q_1.2.1, q_1.2.2.1, q_1.2.2.2.1, q_1.2.2.2.2.1, q_1.2.2.2.2.2.1, q_1.2.2.2.2.2.2.1, q_1.2.2.2.2.2.2.2.1, M_fragment, q_1.2.2.2.2.2.2.2.2, M_seen, M_pieces, M_leads, M_line)
  ) else (
    Option.bind (f_mo_canCut N l1 M_now q_1.2.2.2.2.2.2.1 q_1.2.2.2.2.2.2.2.1 q_1.2.2.2.2.2.2.2.2 M_seen) fun q_3 =>
    og (xR q_3.1) <|
    if (q_3.1 : Int) = 0 then (
      Option.bind (f_mo_layPlan N l1 q_1.2.1 q_1.2.2.1 q_1.2.2.2.1 q_1.2.2.2.2.1 M_now q_3.2.1 q_1.2.2.2.2.2.2.2.1 M_fragment q_3.2.2 M_pieces M_leads M_line) fun q_5 =>
      og (0 ≤ q_5.1 ∧ q_5.1 < 2401) <|
      some ((q_5.2.2.2.2.2.2.2.2.2.1 q_5.1), q_5.2.1, q_5.2.2.1, q_5.2.2.2.1, q_5.2.2.2.2.1, q_1.2.2.2.2.2.1, q_5.2.2.2.2.2.1, q_1.2.2.2.2.2.2.2.1, q_5.2.2.2.2.2.2.1, q_1.2.2.2.2.2.2.2.2, q_5.2.2.2.2.2.2.2.1, q_5.2.2.2.2.2.2.2.2.1, q_5.2.2.2.2.2.2.2.2.2.1, q_5.2.2.2.2.2.2.2.2.2.2)
    ) else (
      some (0, q_1.2.1, q_1.2.2.1, q_1.2.2.2.1, q_1.2.2.2.2.1, q_1.2.2.2.2.2.1, q_3.2.1, q_1.2.2.2.2.2.2.2.1, M_fragment, q_1.2.2.2.2.2.2.2.2, q_3.2.2, M_pieces, M_leads, M_line)
    )
  )

def f_mo_cutBy_185 (N : Nat) (l1 : Int) (l3 : Int) (l4 : Int) (l5 : Int) (l6 : Int) (l7 : Int) (l8 : Int) (l9 : Int) (l11 : Int) (M_waiting : Int → Int) (M_pane : Int → Int) (k94 : Int → (Int → Int) → Option (Int × (Int → Int) × (Int → Int))) (l12 : Int) (t1 : Int) (t2 : Int) (M_now : Int → Int) : Option (Int × (Int → Int) × (Int → Int)) :=
  og (0 ≤ t1 ∧ t1 < 151) <|
  Option.bind (some (upi M_now t1 t2 : Int → Int)) fun M_now_78 =>
  Option.bind (some (l12 + 1 : Int)) fun l12_79 =>
  k94 l12_79 M_now_78

def f_mo_cutBy_169 (N : Nat) (l1 : Int) (l3 : Int) (l4 : Int) (l5 : Int) (l6 : Int) (l7 : Int) (l8 : Int) (l9 : Int) (l11 : Int) (M_waiting : Int → Int) (M_pane : Int → Int) (k94 : Int → (Int → Int) → Option (Int × (Int → Int) × (Int → Int))) (l12 : Int) (l13 : Int) (t1 : Int) (M_now : Int → Int) : Option (Int × (Int → Int) × (Int → Int)) :=
  og (0 ≤ ((53 + (49 * l9)) + l13) ∧ ((53 + (49 * l9)) + l13) < 151) <|
  f_mo_cutBy_185 N l1 l3 l4 l5 l6 l7 l8 l9 l11 M_waiting M_pane k94 l12 t1 (M_now ((53 + (49 * l9)) + l13)) M_now

def f_mo_cutBy_94 (N : Nat) (l1 : Int) (l3 : Int) (l4 : Int) (l5 : Int) (l6 : Int) (l7 : Int) (l8 : Int) (l9 : Int) (l11 : Int) (M_waiting : Int → Int) (M_pane : Int → Int) : Nat → Int → (Int → Int) → Option (Int × (Int → Int) × (Int → Int))
  | 0, _, _ => none
  | n + 1, l12, M_now =>
    og (xR l12) <|
    og (xR l11) <|
    if (l11 : Int) < l12 then (
      og (xR l9) <|
      Option.bind ((
        if (l9 : Int) = 1 then (
          Option.bind (f_mo_box N l4 l8 l6 l7) fun q_61 =>
          some q_61
        ) else (
          Option.bind (f_mo_box N l4 l5 l6 l8) fun q_60 =>
          some q_60
        )
      ) : Option (Int)) fun r_63 =>
      og (0 ≤ l3 ∧ l3 < 128) <|
      Option.bind (some (upi M_waiting l3 r_63 : Int → Int)) fun M_waiting_66 =>
      Option.bind ((
        if (l9 : Int) = 1 then (
          Option.bind (f_mo_box N (l8 + 1) l5 l6 l7) fun q_68 =>
          some q_68
        ) else (
          Option.bind (f_mo_box N l4 l5 (l8 + 1) l7) fun q_67 =>
          some q_67
        )
      ) : Option (Int)) fun r_69 =>
      og (0 ≤ (l3 + 1) ∧ (l3 + 1) < 128) <|
      Option.bind (some (upi M_waiting_66 (l3 + 1) r_69 : Int → Int)) fun M_waiting_71 =>
      some ((l3 + 2), M_now, M_waiting_71)
    ) else (
      og (xR l9) <|
      Option.bind ((
        if (l9 : Int) = 1 then (
          some ((7 * l8) + l12)
        ) else (
          some ((7 * l12) + l8)
        )
      ) : Option (Int)) fun r_64 =>
      og (0 ≤ r_64 ∧ r_64 < 49) <|
      og (xR (M_pane r_64)) <|
      og (xR l1) <|
      if ((M_pane r_64) : Int) = l1 then (
        Option.bind (f_mo_joins N r_64 l9 M_now) fun q_75 =>
        og (xR q_75) <|
        if (q_75 : Int) = 0 then (
          f_mo_cutBy_169 N l1 l3 l4 l5 l6 l7 l8 l9 l11 M_waiting M_pane (f_mo_cutBy_94 N l1 l3 l4 l5 l6 l7 l8 l9 l11 M_waiting M_pane n) l12 r_64 ((53 + (49 * l9)) + r_64) M_now
        ) else (
          f_mo_cutBy_185 N l1 l3 l4 l5 l6 l7 l8 l9 l11 M_waiting M_pane (f_mo_cutBy_94 N l1 l3 l4 l5 l6 l7 l8 l9 l11 M_waiting M_pane n) l12 ((53 + (49 * l9)) + r_64) 1 M_now
        )
      ) else (
        f_mo_cutBy_169 N l1 l3 l4 l5 l6 l7 l8 l9 l11 M_waiting M_pane (f_mo_cutBy_94 N l1 l3 l4 l5 l6 l7 l8 l9 l11 M_waiting M_pane n) l12 r_64 ((53 + (49 * l9)) + r_64) M_now
      )
    )

def f_mo_cutBy (N : Nat) (l1 : Int) (l2 : Int) (l3 : Int) (M_now : Int → Int) (M_pane : Int → Int) (M_line : Int → Int) (M_waiting : Int → Int) : Option (Int × (Int → Int) × (Int → Int)) :=
  og (0 ≤ l2 ∧ l2 < 2147483648) <|
  Option.bind (some ((l2 / 343) : Int)) fun l4_43 =>
  og (0 ≤ (l2 / 49) ∧ (l2 / 49) < 2147483648) <|
  Option.bind (some (((l2 / 49) % 7) : Int)) fun l5_45 =>
  og (0 ≤ (l2 / 7) ∧ (l2 / 7) < 2147483648) <|
  Option.bind (some (((l2 / 7) % 7) : Int)) fun l6_47 =>
  Option.bind (some ((l2 % 7) : Int)) fun l7_48 =>
  og (0 ≤ l2 ∧ l2 < 2401) <|
  og (0 ≤ (M_line l2) ∧ (M_line l2) < 2147483648) <|
  Option.bind (some (((M_line l2) % 7) : Int)) fun l8_51 =>
  og (xR (M_line l2)) <|
  Option.bind ((
    if (7 : Int) ≤ (M_line l2) then (
      some 0
    ) else (
      some 1
    )
  ) : Option (Int)) fun r_53 =>
  og (xR r_53) <|
  Option.bind ((
    if (r_53 : Int) = 1 then (
      some l6_47
    ) else (
      some l4_43
    )
  ) : Option (Int)) fun r_55 =>
  Option.bind ((
    if (r_53 : Int) = 1 then (
      some l7_48
    ) else (
      some l5_45
    )
  ) : Option (Int)) fun r_56 =>
  f_mo_cutBy_94 N l1 l3 l4_43 l5_45 l6_47 l7_48 l8_51 r_53 r_56 M_waiting M_pane N r_55 M_now

def f_mo_applySplit_38 (N : Nat) (l1 : Int) (M_edits : Int) (M_top : Int) (M_bottom : Int) (M_left : Int) (M_right : Int) (M_panes : Int) (M_past : Int → Int) (M_queue : Int → Int) (M_pane : Int → Int) (M_fragment : Int → Int) (M_size : Int → Int) (M_seen : Int → Int) (M_pieces : Int → Int) (M_leads : Int → Int) (M_line : Int → Int) : Nat → Int → (Int → Int) → (Int → Int) → Option (Int × Int × Int × Int × Int × Int × Int × (Int → Int) × (Int → Int) × (Int → Int) × (Int → Int) × (Int → Int) × (Int → Int) × (Int → Int) × (Int → Int) × (Int → Int) × (Int → Int) × (Int → Int))
  | 0, _, _, _ => none
  | n + 1, l2, M_now, M_waiting =>
    og (xR l2) <|
    if (l2 : Int) ≤ 0 then (
      Option.bind (f_mo_findPanes N M_top M_bottom M_left M_right M_panes M_now M_queue M_pane M_size) fun q_9 =>
      some (q_9.2.2.2.2.1, M_edits, q_9.1, q_9.2.1, q_9.2.2.1, q_9.2.2.2.1, q_9.2.2.2.2.1, M_now, M_past, q_9.2.2.2.2.2.1, q_9.2.2.2.2.2.2.1, M_fragment, q_9.2.2.2.2.2.2.2, M_seen, M_pieces, M_leads, M_line, M_waiting)
    ) else (
      Option.bind (some (l2 + (-1) : Int)) fun l2_10 =>
      og (0 ≤ l2_10 ∧ l2_10 < 128) <|
      Option.bind (some ((M_waiting l2_10) : Int)) fun l3_12 =>
      og (0 ≤ l3_12 ∧ l3_12 < 2401) <|
      og (xR (M_line l3_12)) <|
      Option.bind ((
        if ((M_line l3_12) : Int) = (-1) then (
          some (l2_10, M_now, M_waiting)
        ) else (
          Option.bind (f_mo_cutBy N l1 l3_12 l2_10 M_now M_pane M_line M_waiting) fun q_15 =>
          some (q_15.1, q_15.2.1, q_15.2.2)
        )
      ) : Option (Int × (Int → Int) × (Int → Int))) fun r_16 =>
      f_mo_applySplit_38 N l1 M_edits M_top M_bottom M_left M_right M_panes M_past M_queue M_pane M_fragment M_size M_seen M_pieces M_leads M_line n r_16.1 r_16.2.1 r_16.2.2
    )

def f_mo_applySplit (N : Nat) (l1 : Int) (M_edits : Int) (M_top : Int) (M_bottom : Int) (M_left : Int) (M_right : Int) (M_panes : Int) (M_now : Int → Int) (M_past : Int → Int) (M_queue : Int → Int) (M_pane : Int → Int) (M_fragment : Int → Int) (M_size : Int → Int) (M_seen : Int → Int) (M_pieces : Int → Int) (M_leads : Int → Int) (M_line : Int → Int) (M_waiting : Int → Int) : Option (Int × Int × Int × Int × Int × Int × Int × (Int → Int) × (Int → Int) × (Int → Int) × (Int → Int) × (Int → Int) × (Int → Int) × (Int → Int) × (Int → Int) × (Int → Int) × (Int → Int) × (Int → Int)) :=
  Option.bind (f_mo_isPane N l1 M_top M_bottom M_left M_right M_panes M_now M_queue M_pane M_size) fun q_1 =>
  og (xR q_1.1) <|
  if (q_1.1 : Int) = 0 then (
    some ((-1), M_edits, q_1.2.1, q_1.2.2.1, q_1.2.2.2.1, q_1.2.2.2.2.1, q_1.2.2.2.2.2.1, M_now, M_past, q_1.2.2.2.2.2.2.1, q_1.2.2.2.2.2.2.2.1, M_fragment, q_1.2.2.2.2.2.2.2.2, M_seen, M_pieces, M_leads, M_line, M_waiting)
  ) else (
    Option.bind (f_mo_canCut N l1 M_now q_1.2.2.2.2.2.2.1 q_1.2.2.2.2.2.2.2.1 q_1.2.2.2.2.2.2.2.2 M_seen) fun q_3 =>
    og (xR q_3.1) <|
    if (q_3.1 : Int) = 0 then (
      Option.bind (f_mo_save N M_edits M_now M_past) fun q_5 =>
      Option.bind (f_mo_layPlan N l1 q_1.2.1 q_1.2.2.1 q_1.2.2.2.1 q_1.2.2.2.2.1 M_now q_3.2.1 q_1.2.2.2.2.2.2.2.1 M_fragment q_3.2.2 M_pieces M_leads M_line) fun q_6 =>
      Option.bind (some (upi M_waiting 0 q_6.1 : Int → Int)) fun M_waiting_7 =>
      f_mo_applySplit_38 N l1 q_5.1 q_6.2.1 q_6.2.2.1 q_6.2.2.2.1 q_6.2.2.2.2.1 q_1.2.2.2.2.2.1 q_5.2 q_6.2.2.2.2.2.1 q_1.2.2.2.2.2.2.2.1 q_6.2.2.2.2.2.2.1 q_1.2.2.2.2.2.2.2.2 q_6.2.2.2.2.2.2.2.1 q_6.2.2.2.2.2.2.2.2.1 q_6.2.2.2.2.2.2.2.2.2.1 q_6.2.2.2.2.2.2.2.2.2.2 N 1 M_now M_waiting_7
    ) else (
      some ((-2), M_edits, q_1.2.1, q_1.2.2.1, q_1.2.2.2.1, q_1.2.2.2.2.1, q_1.2.2.2.2.2.1, M_now, M_past, q_3.2.1, q_1.2.2.2.2.2.2.2.1, M_fragment, q_1.2.2.2.2.2.2.2.2, q_3.2.2, M_pieces, M_leads, M_line, M_waiting)
    )
  )

def f_mo_firstOf_2 (N : Nat) (l1 : Int) (M_pane : Int → Int) : Nat → Int → Option (Int)
  | 0, _ => none
  | n + 1, l2 =>
    og (0 ≤ l2 ∧ l2 < 49) <|
    og (xR (M_pane l2)) <|
    og (xR l1) <|
    if ((M_pane l2) : Int) = l1 then (
      some l2
    ) else (
      Option.bind (some (l2 + 1 : Int)) fun l2_4 =>
      f_mo_firstOf_2 N l1 M_pane n l2_4
    )

def f_mo_firstOf (N : Nat) (l1 : Int) (M_pane : Int → Int) : Option (Int) :=
  f_mo_firstOf_2 N l1 M_pane N 0

def f_mo_equalNeighbours_18 (N : Nat) (l3 : Int) (M_top : Int) (M_bottom : Int) (M_left : Int) (M_right : Int) (M_panes : Int) (M_queue : Int → Int) (M_pane : Int → Int) (M_size : Int → Int) (M_near : Int → Int) (M_nearMany : Int → Int) (M_now : Int → Int) (k9 : Int → Int → Option (Int × Int × Int × Int × Int × Int × (Int → Int) × (Int → Int) × (Int → Int) × (Int → Int) × (Int → Int))) : Nat → Int → Int → Option (Int × Int × Int × Int × Int × Int × (Int → Int) × (Int → Int) × (Int → Int) × (Int → Int) × (Int → Int))
  | 0, _, _ => none
  | n + 1, l2, l4 =>
    og (xR l4) <|
    if (49 : Int) ≤ l4 then (
      Option.bind (some (l3 + 1 : Int)) fun l3_30 =>
      k9 l2 l3_30
    ) else (
      og (0 ≤ l3 ∧ l3 < 49) <|
      og (xR (M_pane l3)) <|
      Option.bind ((
        if ((M_pane l3) : Int) < 0 then (
          some 0
        ) else (
          og (0 ≤ l4 ∧ l4 < 49) <|
          og (xR (M_pane l4)) <|
          if ((M_pane l4) : Int) ≤ (M_pane l3) then (
            some 0
          ) else (
            Option.bind (f_mo_firstOf N (M_pane l3) M_pane) fun q_35 =>
            og (xR q_35) <|
            og (xR l3) <|
            if (q_35 : Int) = l3 then (
              Option.bind (f_mo_firstOf N (M_pane l4) M_pane) fun q_38 =>
              og (xR q_38) <|
              if (q_38 : Int) = l4 then (
                some 1
              ) else (
                some 0
              )
            ) else (
              some 0
            )
          )
        )
      ) : Option (Int)) fun r_40 =>
      og (xR r_40) <|
      Option.bind ((
        if (r_40 : Int) = 0 then (
          some 0
        ) else (
          og (0 ≤ l4 ∧ l4 < 49) <|
          og (0 ≤ ((49 * (M_pane l3)) + (M_pane l4)) ∧ ((49 * (M_pane l3)) + (M_pane l4)) < 2401) <|
          og (xR (M_near ((49 * (M_pane l3)) + (M_pane l4)))) <|
          if ((M_near ((49 * (M_pane l3)) + (M_pane l4))) : Int) = 0 then (
            some 0
          ) else (
            og (0 ≤ (4 + l3) ∧ (4 + l3) < 151) <|
            og (0 ≤ (4 + l4) ∧ (4 + l4) < 151) <|
            og (xR (M_now (4 + l3))) <|
            og (xR (M_now (4 + l4))) <|
            if ((M_now (4 + l3)) : Int) = (M_now (4 + l4)) then (
              some 1
            ) else (
              some 0
            )
          )
        )
      ) : Option (Int)) fun r_49 =>
      Option.bind (some ((l2 + r_49) : Int)) fun l2_50 =>
      Option.bind (some (l4 + 1 : Int)) fun l4_51 =>
      f_mo_equalNeighbours_18 N l3 M_top M_bottom M_left M_right M_panes M_queue M_pane M_size M_near M_nearMany M_now k9 n l2_50 l4_51
    )

def f_mo_equalNeighbours_9 (N : Nat) (M_top : Int) (M_bottom : Int) (M_left : Int) (M_right : Int) (M_panes : Int) (M_queue : Int → Int) (M_pane : Int → Int) (M_size : Int → Int) (M_near : Int → Int) (M_nearMany : Int → Int) (M_now : Int → Int) : Nat → Int → Int → Option (Int × Int × Int × Int × Int × Int × (Int → Int) × (Int → Int) × (Int → Int) × (Int → Int) × (Int → Int))
  | 0, _, _ => none
  | n + 1, l2, l3 =>
    og (xR l3) <|
    if (49 : Int) ≤ l3 then (
      some (l2, M_top, M_bottom, M_left, M_right, M_panes, M_queue, M_pane, M_size, M_near, M_nearMany)
    ) else (
      f_mo_equalNeighbours_18 N l3 M_top M_bottom M_left M_right M_panes M_queue M_pane M_size M_near M_nearMany M_now (f_mo_equalNeighbours_9 N M_top M_bottom M_left M_right M_panes M_queue M_pane M_size M_near M_nearMany M_now n) N l2 0
    )

def f_mo_equalNeighbours (N : Nat) (M_top : Int) (M_bottom : Int) (M_left : Int) (M_right : Int) (M_panes : Int) (M_now : Int → Int) (M_queue : Int → Int) (M_pane : Int → Int) (M_size : Int → Int) (M_near : Int → Int) (M_nearMany : Int → Int) : Option (Int × Int × Int × Int × Int × Int × (Int → Int) × (Int → Int) × (Int → Int) × (Int → Int) × (Int → Int)) :=
  Option.bind (f_mo_findNear N M_top M_bottom M_left M_right M_panes M_now M_queue M_pane M_size M_near M_nearMany) fun q_27 =>
  f_mo_equalNeighbours_9 N q_27.2.1 q_27.2.2.1 q_27.2.2.2.1 q_27.2.2.2.2.1 q_27.2.2.2.2.2.1 q_27.2.2.2.2.2.2.1 q_27.2.2.2.2.2.2.2.1 q_27.2.2.2.2.2.2.2.2.1 q_27.2.2.2.2.2.2.2.2.2.1 q_27.2.2.2.2.2.2.2.2.2.2 M_now N 0 0

def f_mo_leftNear_4 (N : Nat) (l1 : Int) (M_panes : Int) (M_near : Int → Int) (M_isGone : Int → Int) : Nat → Int → Int → Option (Int)
  | 0, _, _ => none
  | n + 1, l2, l3 =>
    og (xR l3) <|
    og (xR M_panes) <|
    if (M_panes : Int) ≤ l3 then (
      some l2
    ) else (
      og (0 ≤ ((49 * l1) + l3) ∧ ((49 * l1) + l3) < 2401) <|
      og (xR (M_near ((49 * l1) + l3))) <|
      Option.bind ((
        if ((M_near ((49 * l1) + l3)) : Int) = 0 then (
          some 0
        ) else (
          og (0 ≤ l3 ∧ l3 < 49) <|
          og (xR (M_isGone l3)) <|
          if ((M_isGone l3) : Int) = 0 then (
            some 1
          ) else (
            some 0
          )
        )
      ) : Option (Int)) fun r_16 =>
      Option.bind (some ((l2 + r_16) : Int)) fun l2_17 =>
      Option.bind (some (l3 + 1 : Int)) fun l3_18 =>
      f_mo_leftNear_4 N l1 M_panes M_near M_isGone n l2_17 l3_18
    )

def f_mo_leftNear (N : Nat) (l1 : Int) (M_panes : Int) (M_near : Int → Int) (M_isGone : Int → Int) : Option (Int) :=
  f_mo_leftNear_4 N l1 M_panes M_near M_isGone N 0 0

def f_mo_nextPane_69 (N : Nat) (l1 : Int) (M_panes : Int) (M_near : Int → Int) (M_nearMany : Int → Int) (M_isGone : Int → Int) (k7 : Int → Int → Int → Option (Int)) (l4 : Int) (l5 : Int) : Option (Int) :=
  Option.bind (some (l4 + 1 : Int)) fun l4_28 =>
  k7 l4 l5 l4_28

def f_mo_nextPane_7 (N : Nat) (l1 : Int) (M_panes : Int) (M_near : Int → Int) (M_nearMany : Int → Int) (M_isGone : Int → Int) : Nat → Int → Int → Int → Option (Int)
  | 0, _, _, _ => none
  | n + 1, l2, l3, l4 =>
    og (xR l4) <|
    og (xR M_panes) <|
    if (M_panes : Int) ≤ l4 then (
      some l2
    ) else (
      og (xR l1) <|
      Option.bind ((
        if (l1 : Int) = 0 then (
          some 0
        ) else (
          if (l1 : Int) = 1 then (
            og (0 ≤ l4 ∧ l4 < 49) <|
            some (-(M_nearMany l4))
          ) else (
            Option.bind (f_mo_leftNear N l4 M_panes M_near M_isGone) fun q_18 =>
            some q_18
          )
        )
      ) : Option (Int)) fun r_20 =>
      og (0 ≤ l4 ∧ l4 < 49) <|
      og (xR (M_isGone l4)) <|
      if ((M_isGone l4) : Int) = 0 then (
        og (xR l2) <|
        if (l2 : Int) = (-1) then (
          f_mo_nextPane_69 N l1 M_panes M_near M_nearMany M_isGone (f_mo_nextPane_7 N l1 M_panes M_near M_nearMany M_isGone n) l4 r_20
        ) else (
          og (xR r_20) <|
          og (xR l3) <|
          if (l3 : Int) ≤ r_20 then (
            Option.bind (some (l4 + 1 : Int)) fun l4_27 =>
            f_mo_nextPane_7 N l1 M_panes M_near M_nearMany M_isGone n l2 l3 l4_27
          ) else (
            f_mo_nextPane_69 N l1 M_panes M_near M_nearMany M_isGone (f_mo_nextPane_7 N l1 M_panes M_near M_nearMany M_isGone n) l4 r_20
          )
        )
      ) else (
        Option.bind (some (l4 + 1 : Int)) fun l4_23 =>
        f_mo_nextPane_7 N l1 M_panes M_near M_nearMany M_isGone n l2 l3 l4_23
      )
    )

def f_mo_nextPane (N : Nat) (l1 : Int) (M_panes : Int) (M_near : Int → Int) (M_nearMany : Int → Int) (M_isGone : Int → Int) : Option (Int) :=
  f_mo_nextPane_7 N l1 M_panes M_near M_nearMany M_isGone N (-1) 0 0

def f_mo_colourOne_64 (N : Nat) (l1 : Int) (M_number : Int → Int) (M_panes : Int) (M_near : Int → Int) (k4 : Int → Int → Option ((Int → Int))) (l2 : Int) (l3 : Int) : Option ((Int → Int)) :=
  og (xR l3) <|
  Option.bind ((
    if (l3 : Int) = 0 then (
      some 0
    ) else (
      some 1
    )
  ) : Option (Int)) fun r_35 =>
  Option.bind (some ((l2 + r_35) : Int)) fun l2_36 =>
  k4 l2_36 l3

def f_mo_colourOne_13 (N : Nat) (l1 : Int) (l2 : Int) (M_number : Int → Int) (M_panes : Int) (M_near : Int → Int) (k4 : Int → Int → Option ((Int → Int))) : Nat → Int → Int → Option ((Int → Int))
  | 0, _, _ => none
  | n + 1, l3, l4 =>
    og (xR l4) <|
    og (xR M_panes) <|
    if (M_panes : Int) ≤ l4 then (
      f_mo_colourOne_64 N l1 M_number M_panes M_near k4 l2 l3
    ) else (
      og (xR l3) <|
      if (l3 : Int) = 0 then (
        og (0 ≤ ((49 * l1) + l4) ∧ ((49 * l1) + l4) < 2401) <|
        og (xR (M_near ((49 * l1) + l4))) <|
        Option.bind ((
          if ((M_near ((49 * l1) + l4)) : Int) = 0 then (
            Option.bind (some (l4 + 1 : Int)) fun l4_27 =>
            some (0, l4_27)
          ) else (
            og (0 ≤ l4 ∧ l4 < 49) <|
            og (xR (M_number l4)) <|
            og (xR l2) <|
            if ((M_number l4) : Int) = l2 then (
              Option.bind (some (l4 + 1 : Int)) fun l4_32 =>
              some (1, l4_32)
            ) else (
              Option.bind (some (l4 + 1 : Int)) fun l4_31 =>
              some (0, l4_31)
            )
          )
        ) : Option (Int × Int)) fun r_33 =>
        f_mo_colourOne_13 N l1 l2 M_number M_panes M_near k4 n r_33.1 r_33.2
      ) else (
        f_mo_colourOne_64 N l1 M_number M_panes M_near k4 l2 l3
      )
    )

def f_mo_colourOne_4 (N : Nat) (l1 : Int) (M_number : Int → Int) (M_panes : Int) (M_near : Int → Int) : Nat → Int → Int → Option ((Int → Int))
  | 0, _, _ => none
  | n + 1, l2, l3 =>
    og (xR l3) <|
    if (l3 : Int) = 0 then (
      og (0 ≤ l1 ∧ l1 < 49) <|
      Option.bind (some (upi M_number l1 l2 : Int → Int)) fun M_number_21 =>
      some M_number_21
    ) else (
      f_mo_colourOne_13 N l1 l2 M_number M_panes M_near (f_mo_colourOne_4 N l1 M_number M_panes M_near n) N 0 0
    )

def f_mo_colourOne (N : Nat) (l1 : Int) (M_panes : Int) (M_near : Int → Int) (M_number : Int → Int) : Option ((Int → Int)) :=
  f_mo_colourOne_4 N l1 M_number M_panes M_near N 0 1

def f_mo_colourAll_91 (N : Nat) (M_sequence : Int → Int) (M_isGone : Int → Int) (M_panes : Int) (M_near : Int → Int) : Nat → Int → Int → (Int → Int) → Option (Int × (Int → Int) × (Int → Int) × (Int → Int))
  | 0, _, _, _ => none
  | n + 1, l2, l3, M_number =>
    og (xR l3) <|
    og (xR M_panes) <|
    if (M_panes : Int) ≤ l3 then (
      some ((l2 + 1), M_sequence, M_isGone, M_number)
    ) else (
      og (0 ≤ l3 ∧ l3 < 49) <|
      Option.bind (f_mo_colourOne N (M_sequence l3) M_panes M_near M_number) fun q_47 =>
      og (0 ≤ (M_sequence l3) ∧ (M_sequence l3) < 49) <|
      og (xR (q_47 (M_sequence l3))) <|
      og (xR l2) <|
      Option.bind ((
        if ((q_47 (M_sequence l3)) : Int) ≤ l2 then (
          Option.bind (some (l3 + 1 : Int)) fun l3_51 =>
          some (l2, l3_51)
        ) else (
          Option.bind (some ((q_47 (M_sequence l3)) : Int)) fun l2_52 =>
          Option.bind (some (l3 + 1 : Int)) fun l3_53 =>
          some (l2_52, l3_53)
        )
      ) : Option (Int × Int)) fun r_54 =>
      f_mo_colourAll_91 N M_sequence M_isGone M_panes M_near n r_54.1 r_54.2 q_47
    )

def f_mo_colourAll_32 (N : Nat) (l1 : Int) (M_number : Int → Int) (M_panes : Int) (M_near : Int → Int) (M_nearMany : Int → Int) : Nat → Int → (Int → Int) → (Int → Int) → Option (Int × (Int → Int) × (Int → Int) × (Int → Int))
  | 0, _, _, _ => none
  | n + 1, l2, M_sequence, M_isGone =>
    og (xR l2) <|
    og (xR M_panes) <|
    if (M_panes : Int) ≤ l2 then (
      f_mo_colourAll_91 N M_sequence M_isGone M_panes M_near N 0 0 M_number
    ) else (
      og (xR l1) <|
      Option.bind ((
        if (l1 : Int) = 2 then (
          some ((M_panes - 1) - l2)
        ) else (
          some l2
        )
      ) : Option (Int)) fun r_37 =>
      Option.bind (f_mo_nextPane N l1 M_panes M_near M_nearMany M_isGone) fun q_38 =>
      og (0 ≤ r_37 ∧ r_37 < 49) <|
      Option.bind (some (upi M_sequence r_37 q_38 : Int → Int)) fun M_sequence_40 =>
      og (0 ≤ (M_sequence_40 r_37) ∧ (M_sequence_40 r_37) < 49) <|
      Option.bind (some (upi M_isGone (M_sequence_40 r_37) 1 : Int → Int)) fun M_isGone_42 =>
      Option.bind (some (l2 + 1 : Int)) fun l2_43 =>
      f_mo_colourAll_32 N l1 M_number M_panes M_near M_nearMany n l2_43 M_sequence_40 M_isGone_42
    )

def f_mo_colourAll_2 (N : Nat) (l1 : Int) (M_sequence : Int → Int) (M_panes : Int) (M_near : Int → Int) (M_nearMany : Int → Int) : Nat → Int → (Int → Int) → (Int → Int) → Option (Int × (Int → Int) × (Int → Int) × (Int → Int))
  | 0, _, _, _ => none
  | n + 1, l2, M_isGone, M_number =>
    og (xR l2) <|
    og (xR M_panes) <|
    if (M_panes : Int) ≤ l2 then (
      f_mo_colourAll_32 N l1 M_number M_panes M_near M_nearMany N 0 M_sequence M_isGone
    ) else (
      og (0 ≤ l2 ∧ l2 < 49) <|
      Option.bind (some (upi M_isGone l2 0 : Int → Int)) fun M_isGone_31 =>
      Option.bind (some (upi M_number l2 (-1) : Int → Int)) fun M_number_32 =>
      Option.bind (some (l2 + 1 : Int)) fun l2_33 =>
      f_mo_colourAll_2 N l1 M_sequence M_panes M_near M_nearMany n l2_33 M_isGone_31 M_number_32
    )

def f_mo_colourAll (N : Nat) (l1 : Int) (M_panes : Int) (M_near : Int → Int) (M_nearMany : Int → Int) (M_sequence : Int → Int) (M_isGone : Int → Int) (M_number : Int → Int) : Option (Int × (Int → Int) × (Int → Int) × (Int → Int)) :=
  f_mo_colourAll_2 N l1 M_sequence M_panes M_near M_nearMany N 0 M_isGone M_number

def f_mo_colourCount (N : Nat) (l1 : Int) (M_top : Int) (M_bottom : Int) (M_left : Int) (M_right : Int) (M_panes : Int) (M_now : Int → Int) (M_queue : Int → Int) (M_pane : Int → Int) (M_size : Int → Int) (M_near : Int → Int) (M_nearMany : Int → Int) (M_sequence : Int → Int) (M_isGone : Int → Int) (M_number : Int → Int) : Option (Int × Int × Int × Int × Int × Int × (Int → Int) × (Int → Int) × (Int → Int) × (Int → Int) × (Int → Int) × (Int → Int) × (Int → Int) × (Int → Int)) :=
  Option.bind (f_mo_in N l1 0 2) fun q_1 =>
  og (xR q_1) <|
  if (q_1 : Int) = 0 then (
    some ((-1), M_top, M_bottom, M_left, M_right, M_panes, M_queue, M_pane, M_size, M_near, M_nearMany, M_sequence, M_isGone, M_number)
  ) else (
    Option.bind (f_mo_findNear N M_top M_bottom M_left M_right M_panes M_now M_queue M_pane M_size M_near M_nearMany) fun q_3 =>
    Option.bind (f_mo_colourAll N l1 q_3.2.2.2.2.2.1 q_3.2.2.2.2.2.2.2.2.2.1 q_3.2.2.2.2.2.2.2.2.2.2 M_sequence M_isGone M_number) fun q_4 =>
    some (q_4.1, q_3.2.1, q_3.2.2.1, q_3.2.2.2.1, q_3.2.2.2.2.1, q_3.2.2.2.2.2.1, q_3.2.2.2.2.2.2.1, q_3.2.2.2.2.2.2.2.1, q_3.2.2.2.2.2.2.2.2.1, q_3.2.2.2.2.2.2.2.2.2.1, q_3.2.2.2.2.2.2.2.2.2.2, q_4.2.1, q_4.2.2.1, q_4.2.2.2)
  )

def f_mo_suggestedColour (N : Nat) (l1 : Int) (l2 : Int) (M_top : Int) (M_bottom : Int) (M_left : Int) (M_right : Int) (M_panes : Int) (M_now : Int → Int) (M_queue : Int → Int) (M_pane : Int → Int) (M_size : Int → Int) (M_near : Int → Int) (M_nearMany : Int → Int) (M_sequence : Int → Int) (M_isGone : Int → Int) (M_number : Int → Int) : Option (Int × Int × Int × Int × Int × Int × (Int → Int) × (Int → Int) × (Int → Int) × (Int → Int) × (Int → Int) × (Int → Int) × (Int → Int) × (Int → Int)) :=
  Option.bind (f_mo_in N l1 0 2) fun q_1 =>
  og (xR q_1) <|
  if (q_1 : Int) = 0 then (
    some ((-1), M_top, M_bottom, M_left, M_right, M_panes, M_queue, M_pane, M_size, M_near, M_nearMany, M_sequence, M_isGone, M_number)
  ) else (
    Option.bind (f_mo_isPane N l2 M_top M_bottom M_left M_right M_panes M_now M_queue M_pane M_size) fun q_3 =>
    og (xR q_3.1) <|
    if (q_3.1 : Int) = 0 then (
      some ((-1), q_3.2.1, q_3.2.2.1, q_3.2.2.2.1, q_3.2.2.2.2.1, q_3.2.2.2.2.2.1, q_3.2.2.2.2.2.2.1, q_3.2.2.2.2.2.2.2.1, q_3.2.2.2.2.2.2.2.2, M_near, M_nearMany, M_sequence, M_isGone, M_number)
    ) else (
      Option.bind (f_mo_findNear N q_3.2.1 q_3.2.2.1 q_3.2.2.2.1 q_3.2.2.2.2.1 q_3.2.2.2.2.2.1 M_now q_3.2.2.2.2.2.2.1 q_3.2.2.2.2.2.2.2.1 q_3.2.2.2.2.2.2.2.2 M_near M_nearMany) fun q_5 =>
      Option.bind (f_mo_colourAll N l1 q_5.2.2.2.2.2.1 q_5.2.2.2.2.2.2.2.2.2.1 q_5.2.2.2.2.2.2.2.2.2.2 M_sequence M_isGone M_number) fun q_6 =>
      og (0 ≤ l2 ∧ l2 < 49) <|
      some ((q_6.2.2.2 l2), q_5.2.1, q_5.2.2.1, q_5.2.2.2.1, q_5.2.2.2.2.1, q_5.2.2.2.2.2.1, q_5.2.2.2.2.2.2.1, q_5.2.2.2.2.2.2.2.1, q_5.2.2.2.2.2.2.2.2.1, q_5.2.2.2.2.2.2.2.2.2.1, q_5.2.2.2.2.2.2.2.2.2.2, q_6.2.1, q_6.2.2.1, q_6.2.2.2)
    )
  )

def f_mo_bestOrder_16 (N : Nat) (M_top : Int) (M_bottom : Int) (M_left : Int) (M_right : Int) (M_panes : Int) (M_queue : Int → Int) (M_pane : Int → Int) (M_size : Int → Int) (M_near : Int → Int) (M_nearMany : Int → Int) : Nat → Int → Int → Int → (Int → Int) → (Int → Int) → (Int → Int) → Option (Int × Int × Int × Int × Int × Int × (Int → Int) × (Int → Int) × (Int → Int) × (Int → Int) × (Int → Int) × (Int → Int) × (Int → Int) × (Int → Int))
  | 0, _, _, _, _, _, _ => none
  | n + 1, l2, l3, l4, M_sequence, M_isGone, M_number =>
    og (xR l4) <|
    if (3 : Int) ≤ l4 then (
      some (l2, M_top, M_bottom, M_left, M_right, M_panes, M_queue, M_pane, M_size, M_near, M_nearMany, M_sequence, M_isGone, M_number)
    ) else (
      Option.bind (f_mo_colourAll N l4 M_panes M_near M_nearMany M_sequence M_isGone M_number) fun q_4 =>
      og (xR q_4.1) <|
      og (xR l3) <|
      Option.bind ((
        if (l3 : Int) ≤ q_4.1 then (
          Option.bind (some (l4 + 1 : Int)) fun l4_7 =>
          some (l2, l3, l4_7)
        ) else (
          Option.bind (some (l4 + 1 : Int)) fun l4_8 =>
          some (l4, q_4.1, l4_8)
        )
      ) : Option (Int × Int × Int)) fun r_9 =>
      f_mo_bestOrder_16 N M_top M_bottom M_left M_right M_panes M_queue M_pane M_size M_near M_nearMany n r_9.1 r_9.2.1 r_9.2.2 q_4.2.1 q_4.2.2.1 q_4.2.2.2
    )

def f_mo_bestOrder (N : Nat) (M_top : Int) (M_bottom : Int) (M_left : Int) (M_right : Int) (M_panes : Int) (M_now : Int → Int) (M_queue : Int → Int) (M_pane : Int → Int) (M_size : Int → Int) (M_near : Int → Int) (M_nearMany : Int → Int) (M_sequence : Int → Int) (M_isGone : Int → Int) (M_number : Int → Int) : Option (Int × Int × Int × Int × Int × Int × (Int → Int) × (Int → Int) × (Int → Int) × (Int → Int) × (Int → Int) × (Int → Int) × (Int → Int) × (Int → Int)) :=
  Option.bind (f_mo_findNear N M_top M_bottom M_left M_right M_panes M_now M_queue M_pane M_size M_near M_nearMany) fun q_1 =>
  Option.bind (f_mo_colourAll N 0 q_1.2.2.2.2.2.1 q_1.2.2.2.2.2.2.2.2.2.1 q_1.2.2.2.2.2.2.2.2.2.2 M_sequence M_isGone M_number) fun q_2 =>
  f_mo_bestOrder_16 N q_1.2.1 q_1.2.2.1 q_1.2.2.2.1 q_1.2.2.2.2.1 q_1.2.2.2.2.2.1 q_1.2.2.2.2.2.2.1 q_1.2.2.2.2.2.2.2.1 q_1.2.2.2.2.2.2.2.2.1 q_1.2.2.2.2.2.2.2.2.2.1 q_1.2.2.2.2.2.2.2.2.2.2 N 0 q_2.1 1 q_2.2.1 q_2.2.2.1 q_2.2.2.2

def f_mo_areNear (N : Nat) (l1 : Int) (l2 : Int) (M_near : Int → Int) : Option (Int) :=
  og (0 ≤ ((49 * l1) + l2) ∧ ((49 * l1) + l2) < 2401) <|
  og ((M_near ((49 * l1) + l2)) = 0 ∨ (M_near ((49 * l1) + l2)) = 1) <|
  some (M_near ((49 * l1) + l2))

def f_mo_largestClique_111 (N : Nat) (l3 : Int) (l4 : Int) (l5 : Int) (M_top : Int) (M_bottom : Int) (M_left : Int) (M_right : Int) (M_panes : Int) (M_queue : Int → Int) (M_pane : Int → Int) (M_size : Int → Int) (M_near : Int → Int) (M_nearMany : Int → Int) (k9 : Int → Int → Option (Int × Int × Int × Int × Int × Int × (Int → Int) × (Int → Int) × (Int → Int) × (Int → Int) × (Int → Int))) (k22 : Int → Int → Option (Int × Int × Int × Int × Int × Int × (Int → Int) × (Int → Int) × (Int → Int) × (Int → Int) × (Int → Int))) (k61 : Int → Int → Option (Int × Int × Int × Int × Int × Int × (Int → Int) × (Int → Int) × (Int → Int) × (Int → Int) × (Int → Int))) : Nat → Int → Int → Option (Int × Int × Int × Int × Int × Int × (Int → Int) × (Int → Int) × (Int → Int) × (Int → Int) × (Int → Int))
  | 0, _, _ => none
  | n + 1, l2, l6 =>
    og (xR l6) <|
    og (xR M_panes) <|
    if (M_panes : Int) ≤ l6 then (
      Option.bind (some (l5 + 1 : Int)) fun l5_67 =>
      k61 l2 l5_67
    ) else (
      Option.bind (f_mo_areNear N l3 l6 M_near) fun q_68 =>
      og (xR q_68) <|
      Option.bind ((
        if (q_68 : Int) = 0 then (
          Option.bind (some (l6 + 1 : Int)) fun l6_70 =>
          some (l2, l6_70)
        ) else (
          Option.bind (f_mo_areNear N l4 l6 M_near) fun q_71 =>
          og (xR q_71) <|
          if (q_71 : Int) = 0 then (
            Option.bind (some (l6 + 1 : Int)) fun l6_73 =>
            some (l2, l6_73)
          ) else (
            Option.bind (f_mo_areNear N l5 l6 M_near) fun q_74 =>
            og (xR q_74) <|
            if (q_74 : Int) = 0 then (
              Option.bind (some (l6 + 1 : Int)) fun l6_76 =>
              some (l2, l6_76)
            ) else (
              Option.bind (some (l6 + 1 : Int)) fun l6_77 =>
              some (4, l6_77)
            )
          )
        )
      ) : Option (Int × Int)) fun r_78 =>
      f_mo_largestClique_111 N l3 l4 l5 M_top M_bottom M_left M_right M_panes M_queue M_pane M_size M_near M_nearMany k9 k22 k61 n r_78.1 r_78.2
    )

def f_mo_largestClique_61 (N : Nat) (l3 : Int) (l4 : Int) (M_top : Int) (M_bottom : Int) (M_left : Int) (M_right : Int) (M_panes : Int) (M_queue : Int → Int) (M_pane : Int → Int) (M_size : Int → Int) (M_near : Int → Int) (M_nearMany : Int → Int) (k9 : Int → Int → Option (Int × Int × Int × Int × Int × Int × (Int → Int) × (Int → Int) × (Int → Int) × (Int → Int) × (Int → Int))) (k22 : Int → Int → Option (Int × Int × Int × Int × Int × Int × (Int → Int) × (Int → Int) × (Int → Int) × (Int → Int) × (Int → Int))) : Nat → Int → Int → Option (Int × Int × Int × Int × Int × Int × (Int → Int) × (Int → Int) × (Int → Int) × (Int → Int) × (Int → Int))
  | 0, _, _ => none
  | n + 1, l2, l5 =>
    og (xR l5) <|
    og (xR M_panes) <|
    if (M_panes : Int) ≤ l5 then (
      Option.bind (some (l4 + 1 : Int)) fun l4_55 =>
      k22 l2 l4_55
    ) else (
      Option.bind (f_mo_areNear N l3 l5 M_near) fun q_56 =>
      og (xR q_56) <|
      if (q_56 : Int) = 0 then (
        Option.bind (some (l5 + 1 : Int)) fun l5_58 =>
        f_mo_largestClique_61 N l3 l4 M_top M_bottom M_left M_right M_panes M_queue M_pane M_size M_near M_nearMany k9 k22 n l2 l5_58
      ) else (
        Option.bind (f_mo_areNear N l4 l5 M_near) fun q_59 =>
        og (xR q_59) <|
        if (q_59 : Int) = 0 then (
          Option.bind (some (l5 + 1 : Int)) fun l5_62 =>
          f_mo_largestClique_61 N l3 l4 M_top M_bottom M_left M_right M_panes M_queue M_pane M_size M_near M_nearMany k9 k22 n l2 l5_62
        ) else (
          og (xR l2) <|
          Option.bind ((
            if (3 : Int) ≤ l2 then (
              some l2
            ) else (
              some 3
            )
          ) : Option (Int)) fun r_63 =>
          Option.bind (some ((l5 + 1) : Int)) fun l6_64 =>
          f_mo_largestClique_111 N l3 l4 l5 M_top M_bottom M_left M_right M_panes M_queue M_pane M_size M_near M_nearMany k9 k22 (f_mo_largestClique_61 N l3 l4 M_top M_bottom M_left M_right M_panes M_queue M_pane M_size M_near M_nearMany k9 k22 n) N r_63 l6_64
        )
      )
    )

def f_mo_largestClique_22 (N : Nat) (l3 : Int) (M_top : Int) (M_bottom : Int) (M_left : Int) (M_right : Int) (M_panes : Int) (M_queue : Int → Int) (M_pane : Int → Int) (M_size : Int → Int) (M_near : Int → Int) (M_nearMany : Int → Int) (k9 : Int → Int → Option (Int × Int × Int × Int × Int × Int × (Int → Int) × (Int → Int) × (Int → Int) × (Int → Int) × (Int → Int))) : Nat → Int → Int → Option (Int × Int × Int × Int × Int × Int × (Int → Int) × (Int → Int) × (Int → Int) × (Int → Int) × (Int → Int))
  | 0, _, _ => none
  | n + 1, l2, l4 =>
    og (xR l4) <|
    og (xR M_panes) <|
    if (M_panes : Int) ≤ l4 then (
      Option.bind (some (l3 + 1 : Int)) fun l3_46 =>
      k9 l2 l3_46
    ) else (
      Option.bind (f_mo_areNear N l3 l4 M_near) fun q_47 =>
      og (xR q_47) <|
      if (q_47 : Int) = 0 then (
        Option.bind (some (l4 + 1 : Int)) fun l4_50 =>
        f_mo_largestClique_22 N l3 M_top M_bottom M_left M_right M_panes M_queue M_pane M_size M_near M_nearMany k9 n l2 l4_50
      ) else (
        og (xR l2) <|
        Option.bind ((
          if (2 : Int) ≤ l2 then (
            some l2
          ) else (
            some 2
          )
        ) : Option (Int)) fun r_51 =>
        Option.bind (some ((l4 + 1) : Int)) fun l5_52 =>
        f_mo_largestClique_61 N l3 l4 M_top M_bottom M_left M_right M_panes M_queue M_pane M_size M_near M_nearMany k9 (f_mo_largestClique_22 N l3 M_top M_bottom M_left M_right M_panes M_queue M_pane M_size M_near M_nearMany k9 n) N r_51 l5_52
      )
    )

def f_mo_largestClique_9 (N : Nat) (M_top : Int) (M_bottom : Int) (M_left : Int) (M_right : Int) (M_panes : Int) (M_queue : Int → Int) (M_pane : Int → Int) (M_size : Int → Int) (M_near : Int → Int) (M_nearMany : Int → Int) : Nat → Int → Int → Option (Int × Int × Int × Int × Int × Int × (Int → Int) × (Int → Int) × (Int → Int) × (Int → Int) × (Int → Int))
  | 0, _, _ => none
  | n + 1, l2, l3 =>
    og (xR l3) <|
    og (xR M_panes) <|
    if (M_panes : Int) ≤ l3 then (
      some (l2, M_top, M_bottom, M_left, M_right, M_panes, M_queue, M_pane, M_size, M_near, M_nearMany)
    ) else (
      Option.bind (some ((l3 + 1) : Int)) fun l4_43 =>
      f_mo_largestClique_22 N l3 M_top M_bottom M_left M_right M_panes M_queue M_pane M_size M_near M_nearMany (f_mo_largestClique_9 N M_top M_bottom M_left M_right M_panes M_queue M_pane M_size M_near M_nearMany n) N l2 l4_43
    )

def f_mo_largestClique (N : Nat) (M_top : Int) (M_bottom : Int) (M_left : Int) (M_right : Int) (M_panes : Int) (M_now : Int → Int) (M_queue : Int → Int) (M_pane : Int → Int) (M_size : Int → Int) (M_near : Int → Int) (M_nearMany : Int → Int) : Option (Int × Int × Int × Int × Int × Int × (Int → Int) × (Int → Int) × (Int → Int) × (Int → Int) × (Int → Int)) :=
  Option.bind (f_mo_findNear N M_top M_bottom M_left M_right M_panes M_now M_queue M_pane M_size M_near M_nearMany) fun q_40 =>
  f_mo_largestClique_9 N q_40.2.1 q_40.2.2.1 q_40.2.2.2.1 q_40.2.2.2.2.1 q_40.2.2.2.2.2.1 q_40.2.2.2.2.2.2.1 q_40.2.2.2.2.2.2.2.1 q_40.2.2.2.2.2.2.2.2.1 q_40.2.2.2.2.2.2.2.2.2.1 q_40.2.2.2.2.2.2.2.2.2.2 N 1 0

