def fm_divisor_L4 : Nat → Int32 → Int32 → aw_M → Option (Int32 × aw_M)
  | 0, _, _, _ => none
  | n + 1, p2, p3, M =>
    if p3 = 0 then (
      some (p2, M)
    ) else (
      if p3 = 0 then none else (
      fm_divisor_L4 n p3 (aw_rem p2 p3) M
      )
    )
theorem fm_divisor_L4_s (n : Nat) (p2 : Int32) (p3 : Int32) (M : aw_M) : fm_divisor_L4 (n + 1) p2 p3 M = (
    if p3 = 0 then (
      some (p2, M)
    ) else (
      if p3 = 0 then none else (
      fm_divisor_L4 n p3 (aw_rem p2 p3) M
      )
    )
    ) := rfl
set_option maxRecDepth 20000 in
theorem tm_divisor_L4 {l : Launch} {D : va_G} {cy : Nat → ClassId} {ad : Nat → Nat} {A : Nat → Prop} (d : Nat) (hd : 0 ≤ d) : ∀ (n : Nat) (p2 : Int32) (p3 : Int32) (M : aw_M) (r : Int32) (M1 : aw_M), fm_divisor_L4 n p2 p3 M = some (r, M1) → AW l D cy ad A gm_G RX10 cX10_divisor 5 (some .int) d (some (.int r)) M1 4 [(2, .int p2), (3, .int p3)] [] M := by
  intro n
  induction n with
  | zero => intro p2 p3 M r M1 h; cases h
  | succ n ih =>
    intro p2 p3 M r M1 h
    rw [fm_divisor_L4_s] at h
    refine x_iload_n (pc := 4) 3 dX10_divisor_4 rfl rfl ?_
    refine x_if_eq (pc := 5) 21 dX10_divisor_5 (by decide) (fun c_1 => ?_) (fun c_1 => ?_)
    · have h := aw_pos h c_1
      refine x_iload_n (pc := 21) 2 dX10_divisor_21 rfl rfl ?_
      obtain ⟨rfl, rfl⟩ := aw_so h
      exact x_iret (pc := 22) dX10_divisor_22
    · have h := aw_neg h c_1
      refine x_iload_n (pc := 8) 2 dX10_divisor_8 rfl rfl ?_
      refine x_iload_n (pc := 9) 3 dX10_divisor_9 rfl rfl ?_
      obtain ⟨c_2, h⟩ := aw_ck h
      refine x_irem (pc := 10) dX10_divisor_10 c_2 ?_
      refine x_istore (pc := 11) 4 [(4, .int (aw_rem p2 p3)), (2, .int p2), (3, .int p3)] dX10_divisor_11 (by decide) rfl ?_
      refine x_iload_n (pc := 13) 3 dX10_divisor_13 rfl rfl ?_
      refine x_istore_n (pc := 14) 2 [(2, .int p3), (4, .int (aw_rem p2 p3)), (3, .int p3)] dX10_divisor_14 rfl (by decide) rfl ?_
      refine x_iload (pc := 15) dX10_divisor_15 rfl ?_
      refine x_istore_n (pc := 17) 3 [(3, .int (aw_rem p2 p3)), (2, .int p3), (4, .int (aw_rem p2 p3))] dX10_divisor_17 rfl (by decide) rfl ?_
      refine x_goto (pc := 18) 4 dX10_divisor_18 (by decide) ?_
      refine x_lv [1, 0] [(2, .int p3), (3, .int (aw_rem p2 p3))] rfl ?_
      exact ih p3 (aw_rem p2 p3) _ _ _ h
def fm_divisor (p0 : Int32) (p1 : Int32) (M : aw_M) : Option (Int32 × aw_M) :=
  fm_divisor_L4  2000 p0 p1 M
set_option maxRecDepth 20000 in
theorem tm_divisor {l : Launch} {D : va_G} {cy : Nat → ClassId} {ad : Nat → Nat} {A : Nat → Prop} (d : Nat) (hd : 0 ≤ d) (p0 : Int32) (p1 : Int32) (M : aw_M) (r : Int32) (M1 : aw_M) (h : fm_divisor p0 p1 M = some (r, M1)) : AX l D cy ad A gm_G yX10_divisor cX10_divisor 5 (some .int) d [.int p0, .int p1] M (some (.int r)) M1 := by
  refine AX.of (own := RX10) (by decide +kernel) rfl (Nat.le_of_ble_eq_true rfl) ?_
  unfold fm_divisor at h
  show AW l D cy ad A gm_G RX10 cX10_divisor 5 (some .int) d (some (.int r)) M1 0 [(0, .int p0), (1, .int p1)] [] M
  refine x_iload_n (pc := 0) 0 dX10_divisor_0 rfl rfl ?_
  refine x_istore_n (pc := 1) 2 [(2, .int p0), (0, .int p0), (1, .int p1)] dX10_divisor_1 rfl (by decide) rfl ?_
  refine x_iload_n (pc := 2) 1 dX10_divisor_2 rfl rfl ?_
  refine x_istore_n (pc := 3) 3 [(3, .int p1), (2, .int p0), (0, .int p0), (1, .int p1)] dX10_divisor_3 rfl (by decide) rfl ?_
  refine x_lv [1, 0] [(2, .int p0), (3, .int p1)] rfl ?_
  exact tm_divisor_L4 d hd  2000 p0 p1 _ _ _ h
def fm_odds_L38 : Nat → Int32 → Int32 → Int32 → Int32 → Int32 → aw_M → Option (Int32 × aw_M)
  | 0, _, _, _, _, _, _ => none
  | n + 1, p1, p2, p3, p4, p5, M =>
    if (9 : Int32) < p5 then (
      aw_bi (fm_divisor p4 10 (aw_u M 1 12 p3)) fun r_11 M_12 => (
      if p2 = 0 then (
        if r_11 = 0 then none else (
        some ((p4 / r_11), M_12)
        )
      ) else (
        if r_11 = 0 then none else (
        some ((10 / r_11), M_12)
        )
      )
      )
    ) else (
      aw_bi (fm_shows p1 (aw_u M 1 12 p5)) fun r_17 M_18 => (
      if r_17 = 0 then (
        fm_odds_L38 n p1 p2 p3 (p4 + 1) (p5 + 1) M_18
      ) else (
        fm_odds_L38 n p1 p2 p3 (p4 + 0) (p5 + 1) M_18
      )
      )
    )
theorem fm_odds_L38_s (n : Nat) (p1 : Int32) (p2 : Int32) (p3 : Int32) (p4 : Int32) (p5 : Int32) (M : aw_M) : fm_odds_L38 (n + 1) p1 p2 p3 p4 p5 M = (
    if (9 : Int32) < p5 then (
      aw_bi (fm_divisor p4 10 (aw_u M 1 12 p3)) fun r_11 M_12 => (
      if p2 = 0 then (
        if r_11 = 0 then none else (
        some ((p4 / r_11), M_12)
        )
      ) else (
        if r_11 = 0 then none else (
        some ((10 / r_11), M_12)
        )
      )
      )
    ) else (
      aw_bi (fm_shows p1 (aw_u M 1 12 p5)) fun r_17 M_18 => (
      if r_17 = 0 then (
        fm_odds_L38 n p1 p2 p3 (p4 + 1) (p5 + 1) M_18
      ) else (
        fm_odds_L38 n p1 p2 p3 (p4 + 0) (p5 + 1) M_18
      )
      )
    )
    ) := rfl
set_option maxRecDepth 20000 in
theorem tm_odds_L38 {l : Launch} {D : va_G} {cy : Nat → ClassId} {ad : Nat → Nat} {A : Nat → Prop} (d : Nat) (hd : 107 ≤ d) : ∀ (n : Nat) (p1 : Int32) (p2 : Int32) (p3 : Int32) (p4 : Int32) (p5 : Int32) (M : aw_M) (r : Int32) (M1 : aw_M), fm_odds_L38 n p1 p2 p3 p4 p5 M = some (r, M1) → AW l D cy ad A gm_G RX10 cX10_odds 6 (some .int) d (some (.int r)) M1 38 [(0, .ref (ad 0)), (1, .int p1), (2, .int p2), (3, .int p3), (4, .int p4), (5, .int p5)] [] M := by
  have hd1 : (d - 1) + 1 ≤ d := by omega
  have hm1 : 1 ≤ d := by omega
  have hh_0 : 0 ≤ d - 1 := by omega
  have hh_1 : 1 ≤ d - 1 := by omega
  have hh_106 : 106 ≤ d - 1 := by omega
  intro n
  induction n with
  | zero => intro p1 p2 p3 p4 p5 M r M1 h; cases h
  | succ n ih =>
    intro p1 p2 p3 p4 p5 M r M1 h
    rw [fm_odds_L38_s] at h
    refine x_iload (pc := 38) dX10_odds_38 rfl ?_
    refine x_bipush (pc := 40) (w := 9) dX10_odds_40 bi_9 ?_
    refine x_icmp_gt (pc := 42) 78 dX10_odds_42 (by decide) (fun c_9 => ?_) (fun c_9 => ?_)
    · have h := aw_pos h c_9
      refine x_aload_n (pc := 78) 0 dX10_odds_78 rfl rfl ?_
      refine x_get (pc := 79) dX10_odds_79 lk_X10_7 gm_0 rfl rfl ?_
      refine x_bipush (pc := 82) (w := 12) dX10_odds_82 bi_12 ?_
      refine x_iload_n (pc := 84) 3 dX10_odds_84 rfl rfl ?_
      refine x_iastJ (pc := 85) 12 dX10_odds_85 gm_1 (by decide) tn_12 ?_
      refine x_iload (pc := 86) dX10_odds_86 rfl ?_
      refine x_bipush (pc := 88) (w := 10) dX10_odds_88 bi_10 ?_
      obtain ⟨r_11, M_12, e_10, h⟩ := aw_bi_e h
      refine x_callS (pc := 90) (As := [.int p4, .int 10]) (rest := []) (st' := [.int r_11]) (w := (some (.int r_11))) dX10_odds_90 cw_X10_209 hd1 rfl rfl (Nat.le_of_ble_eq_true rfl) (tm_divisor (d - 1) hh_0 p4 10 _ _ _ e_10) rfl ?_
      refine x_istore (pc := 93) 5 [(5, .int r_11), (0, .ref (ad 0)), (1, .int p1), (2, .int p2), (3, .int p3), (4, .int p4)] dX10_odds_93 (by decide) rfl ?_
      refine x_iload_n (pc := 95) 2 dX10_odds_95 rfl rfl ?_
      refine x_if_ne (pc := 96) 107 dX10_odds_96 (by decide) (fun c_13 => ?_) (fun c_13 => ?_)
      · have h := aw_neg h c_13
        refine x_bipush (pc := 107) (w := 10) dX10_odds_107 bi_10 ?_
        refine x_iload (pc := 109) dX10_odds_109 rfl ?_
        obtain ⟨c_14, h⟩ := aw_ck h
        refine x_idiv (pc := 111) dX10_odds_111 c_14 ?_
        obtain ⟨rfl, rfl⟩ := aw_so h
        exact x_iret (pc := 112) dX10_odds_112
      · have h := aw_pos h c_13
        refine x_iload (pc := 99) dX10_odds_99 rfl ?_
        refine x_iload (pc := 101) dX10_odds_101 rfl ?_
        obtain ⟨c_15, h⟩ := aw_ck h
        refine x_idiv (pc := 103) dX10_odds_103 c_15 ?_
        refine x_goto (pc := 104) 112 dX10_odds_104 (by decide) ?_
        obtain ⟨rfl, rfl⟩ := aw_so h
        exact x_iret (pc := 112) dX10_odds_112
    · have h := aw_neg h c_9
      refine x_aload_n (pc := 45) 0 dX10_odds_45 rfl rfl ?_
      refine x_get (pc := 46) dX10_odds_46 lk_X10_7 gm_0 rfl rfl ?_
      refine x_bipush (pc := 49) (w := 12) dX10_odds_49 bi_12 ?_
      refine x_iload (pc := 51) dX10_odds_51 rfl ?_
      refine x_iastJ (pc := 53) 12 dX10_odds_53 gm_1 (by decide) tn_12 ?_
      refine x_iload (pc := 54) dX10_odds_54 rfl ?_
      refine x_aload_n (pc := 56) 0 dX10_odds_56 rfl rfl ?_
      refine x_iload_n (pc := 57) 1 dX10_odds_57 rfl rfl ?_
      obtain ⟨r_17, M_18, e_16, h⟩ := aw_bi_e h
      refine x_callV (pc := 58) (As := [.int p1]) (rest := [.int p4]) (st' := [.int r_17, .int p4]) (w := (some (.int r_17))) dX10_odds_58 cw_X10_75 hd1 gm_0 rfl rfl rfl (Nat.le_of_ble_eq_true rfl) (tm_shows (d - 1) hh_106 p1 _ _ _ e_16) rfl ?_
      refine x_if_ne (pc := 61) 68 dX10_odds_61 (by decide) (fun c_19 => ?_) (fun c_19 => ?_)
      · have h := aw_neg h c_19
        refine x_iconst (pc := 68) (w := 0) dX10_odds_68 ic_0 ?_
        refine x_iadd (pc := 69) dX10_odds_69 ?_
        refine x_istore (pc := 70) 4 [(4, .int (p4 + 0)), (0, .ref (ad 0)), (1, .int p1), (2, .int p2), (3, .int p3), (5, .int p5)] dX10_odds_70 (by decide) rfl ?_
        refine x_iinc (pc := 72) (p5 + 1) [(5, .int (p5 + 1)), (4, .int (p4 + 0)), (0, .ref (ad 0)), (1, .int p1), (2, .int p2), (3, .int p3)] dX10_odds_72 rfl (congrArg (fun z => p5 + z) ic_1) (by decide) rfl ?_
        refine x_goto (pc := 75) 38 dX10_odds_75 (by decide) ?_
        refine x_lv [2, 3, 4, 5, 1, 0] [(0, .ref (ad 0)), (1, .int p1), (2, .int p2), (3, .int p3), (4, .int (p4 + 0)), (5, .int (p5 + 1))] rfl ?_
        exact ih p1 p2 p3 (p4 + 0) (p5 + 1) _ _ _ h
      · have h := aw_pos h c_19
        refine x_iconst (pc := 64) (w := 1) dX10_odds_64 ic_1 ?_
        refine x_goto (pc := 65) 69 dX10_odds_65 (by decide) ?_
        refine x_iadd (pc := 69) dX10_odds_69 ?_
        refine x_istore (pc := 70) 4 [(4, .int (p4 + 1)), (0, .ref (ad 0)), (1, .int p1), (2, .int p2), (3, .int p3), (5, .int p5)] dX10_odds_70 (by decide) rfl ?_
        refine x_iinc (pc := 72) (p5 + 1) [(5, .int (p5 + 1)), (4, .int (p4 + 1)), (0, .ref (ad 0)), (1, .int p1), (2, .int p2), (3, .int p3)] dX10_odds_72 rfl (congrArg (fun z => p5 + z) ic_1) (by decide) rfl ?_
        refine x_goto (pc := 75) 38 dX10_odds_75 (by decide) ?_
        refine x_lv [2, 3, 4, 5, 1, 0] [(0, .ref (ad 0)), (1, .int p1), (2, .int p2), (3, .int p3), (4, .int (p4 + 1)), (5, .int (p5 + 1))] rfl ?_
        exact ih p1 p2 p3 (p4 + 1) (p5 + 1) _ _ _ h
def fm_odds (p1 : Int32) (p2 : Int32) (M : aw_M) : Option (Int32 × aw_M) :=
  aw_bi (fm_isCloth p1 M) fun r_2 M_3 => (
  if r_2 = 0 then (
    fm_errs (-1000000001) M_3
  ) else (
    aw_bi (fm_in p2 0 1 M_3) fun r_6 M_7 => (
    if r_6 = 0 then (
      fm_errs (-1000000001) M_7
    ) else (
      fm_odds_L38  2000 p1 p2 (M_7 1 12) 0 0 M_7
    )
    )
  )
  )
set_option maxRecDepth 20000 in
theorem tm_odds {l : Launch} {D : va_G} {cy : Nat → ClassId} {ad : Nat → Nat} {A : Nat → Prop} (d : Nat) (hd : 107 ≤ d) (p1 : Int32) (p2 : Int32) (M : aw_M) (r : Int32) (M1 : aw_M) (h : fm_odds p1 p2 M = some (r, M1)) : AX l D cy ad A gm_G yX10_odds cX10_odds 6 (some .int) d [.ref (ad 0), .int p1, .int p2] M (some (.int r)) M1 := by
  have hd1 : (d - 1) + 1 ≤ d := by omega
  have hm1 : 1 ≤ d := by omega
  have hh_0 : 0 ≤ d - 1 := by omega
  have hh_1 : 1 ≤ d - 1 := by omega
  have hh_106 : 106 ≤ d - 1 := by omega
  refine AX.of (own := RX10) (by decide +kernel) rfl (Nat.le_of_ble_eq_true rfl) ?_
  unfold fm_odds at h
  show AW l D cy ad A gm_G RX10 cX10_odds 6 (some .int) d (some (.int r)) M1 0 [(0, .ref (ad 0)), (1, .int p1), (2, .int p2)] [] M
  refine x_aload_n (pc := 0) 0 dX10_odds_0 rfl rfl ?_
  refine x_iload_n (pc := 1) 1 dX10_odds_1 rfl rfl ?_
  obtain ⟨r_2, M_3, e_1, h⟩ := aw_bi_e h
  refine x_callV (pc := 2) (As := [.int p1]) (rest := []) (st' := [.int r_2]) (w := (some (.int r_2))) dX10_odds_2 cw_X10_62 hd1 gm_0 rfl rfl rfl (Nat.le_of_ble_eq_true rfl) (tm_isCloth (d - 1) hh_1 p1 _ _ _ e_1) rfl ?_
  refine x_if_eq (pc := 5) 17 dX10_odds_5 (by decide) (fun c_4 => ?_) (fun c_4 => ?_)
  · have h := aw_pos h c_4
    refine x_aload_n (pc := 17) 0 dX10_odds_17 rfl rfl ?_
    refine x_ldc (pc := 18) dX10_odds_18 wk_X10_48 ?_
    refine x_callV (pc := 20) (As := [.int (-1000000001)]) (rest := []) (st' := [.int r]) (w := (some (.int r))) dX10_odds_20 cw_X10_49 hd1 gm_0 rfl rfl rfl (Nat.le_of_ble_eq_true rfl) (tm_errs (d - 1) hh_0 (-1000000001) _ _ _ h) rfl ?_
    exact x_iret (pc := 23) dX10_odds_23
  · have h := aw_neg h c_4
    refine x_iload_n (pc := 8) 2 dX10_odds_8 rfl rfl ?_
    refine x_iconst (pc := 9) (w := 0) dX10_odds_9 ic_0 ?_
    refine x_iconst (pc := 10) (w := 1) dX10_odds_10 ic_1 ?_
    obtain ⟨r_6, M_7, e_5, h⟩ := aw_bi_e h
    refine x_callS (pc := 11) (As := [.int p2, .int 0, .int 1]) (rest := []) (st' := [.int r_6]) (w := (some (.int r_6))) dX10_odds_11 cw_X10_44 hd1 rfl rfl (Nat.le_of_ble_eq_true rfl) (tm_in (d - 1) hh_0 p2 0 1 _ _ _ e_5) rfl ?_
    refine x_if_ne (pc := 14) 24 dX10_odds_14 (by decide) (fun c_8 => ?_) (fun c_8 => ?_)
    · have h := aw_neg h c_8
      refine x_aload_n (pc := 24) 0 dX10_odds_24 rfl rfl ?_
      refine x_get (pc := 25) dX10_odds_25 lk_X10_7 gm_0 rfl rfl ?_
      refine x_bipush (pc := 28) (w := 12) dX10_odds_28 bi_12 ?_
      refine x_ialdJ (pc := 30) 12 dX10_odds_30 gm_1 (by decide) tn_12 ?_
      refine x_istore_n (pc := 31) 3 [(3, .int (M_7 1 12)), (0, .ref (ad 0)), (1, .int p1), (2, .int p2)] dX10_odds_31 rfl (by decide) rfl ?_
      refine x_iconst (pc := 32) (w := 0) dX10_odds_32 ic_0 ?_
      refine x_istore (pc := 33) 4 [(4, .int 0), (3, .int (M_7 1 12)), (0, .ref (ad 0)), (1, .int p1), (2, .int p2)] dX10_odds_33 (by decide) rfl ?_
      refine x_iconst (pc := 35) (w := 0) dX10_odds_35 ic_0 ?_
      refine x_istore (pc := 36) 5 [(5, .int 0), (4, .int 0), (3, .int (M_7 1 12)), (0, .ref (ad 0)), (1, .int p1), (2, .int p2)] dX10_odds_36 (by decide) rfl ?_
      refine x_lv [3, 4, 5, 2, 1, 0] [(0, .ref (ad 0)), (1, .int p1), (2, .int p2), (3, .int (M_7 1 12)), (4, .int 0), (5, .int 0)] rfl ?_
      exact tm_odds_L38 d hd  2000 p1 p2 (M_7 1 12) 0 0 _ _ _ h
    · have h := aw_pos h c_8
      refine x_aload_n (pc := 17) 0 dX10_odds_17 rfl rfl ?_
      refine x_ldc (pc := 18) dX10_odds_18 wk_X10_48 ?_
      refine x_callV (pc := 20) (As := [.int (-1000000001)]) (rest := []) (st' := [.int r]) (w := (some (.int r))) dX10_odds_20 cw_X10_49 hd1 gm_0 rfl rfl rfl (Nat.le_of_ble_eq_true rfl) (tm_errs (d - 1) hh_0 (-1000000001) _ _ _ h) rfl ?_
      exact x_iret (pc := 23) dX10_odds_23
def fm_seed (p1 : Int32) (M : aw_M) : Option (Int32 × aw_M) :=
  some ((M 1 1), (aw_u M 1 1 p1))
set_option maxRecDepth 20000 in
theorem tm_seed {l : Launch} {D : va_G} {cy : Nat → ClassId} {ad : Nat → Nat} {A : Nat → Prop} (d : Nat) (hd : 0 ≤ d) (p1 : Int32) (M : aw_M) (r : Int32) (M1 : aw_M) (h : fm_seed p1 M = some (r, M1)) : AX l D cy ad A gm_G yX10_seed cX10_seed 3 (some .int) d [.ref (ad 0), .int p1] M (some (.int r)) M1 := by
  refine AX.of (own := RX10) (by decide +kernel) rfl (Nat.le_of_ble_eq_true rfl) ?_
  unfold fm_seed at h
  show AW l D cy ad A gm_G RX10 cX10_seed 3 (some .int) d (some (.int r)) M1 0 [(0, .ref (ad 0)), (1, .int p1)] [] M
  refine x_aload_n (pc := 0) 0 dX10_seed_0 rfl rfl ?_
  refine x_get (pc := 1) dX10_seed_1 lk_X10_7 gm_0 rfl rfl ?_
  refine x_iconst (pc := 4) (w := 1) dX10_seed_4 ic_1 ?_
  refine x_ialdJ (pc := 5) 1 dX10_seed_5 gm_1 (by decide) tn_1 ?_
  refine x_istore_n (pc := 6) 2 [(2, .int (M 1 1)), (0, .ref (ad 0)), (1, .int p1)] dX10_seed_6 rfl (by decide) rfl ?_
  refine x_aload_n (pc := 7) 0 dX10_seed_7 rfl rfl ?_
  refine x_get (pc := 8) dX10_seed_8 lk_X10_7 gm_0 rfl rfl ?_
  refine x_iconst (pc := 11) (w := 1) dX10_seed_11 ic_1 ?_
  refine x_iload_n (pc := 12) 1 dX10_seed_12 rfl rfl ?_
  refine x_iastJ (pc := 13) 1 dX10_seed_13 gm_1 (by decide) tn_1 ?_
  refine x_iload_n (pc := 14) 2 dX10_seed_14 rfl rfl ?_
  obtain ⟨rfl, rfl⟩ := aw_so h
  exact x_iret (pc := 15) dX10_seed_15
def fm_ran (p1 : Int32) (M : aw_M) : Option aw_M :=
  if (40 : Int32) ≤ (M 0 23) then (
    some M
  ) else (
    if aw_in (M 0 23) 40 then none else (
    some (aw_u (aw_u M 11 (M 0 23).toNatClampNeg p1) 0 23 (((aw_u M 11 (M 0 23).toNatClampNeg p1) 0 23) + 1))
    )
  )
set_option maxRecDepth 20000 in
theorem tm_ran {l : Launch} {D : va_G} {cy : Nat → ClassId} {ad : Nat → Nat} {A : Nat → Prop} (d : Nat) (hd : 0 ≤ d) (p1 : Int32) (M : aw_M) (M1 : aw_M) (h : fm_ran p1 M = some M1) : AX l D cy ad A gm_G yX10_ran cX10_ran 2 none d [.ref (ad 0), .int p1] M none M1 := by
  refine AX.of (own := RX10) (by decide +kernel) rfl (Nat.le_of_ble_eq_true rfl) ?_
  unfold fm_ran at h
  show AW l D cy ad A gm_G RX10 cX10_ran 2 none d none M1 0 [(0, .ref (ad 0)), (1, .int p1)] [] M
  refine x_aload_n (pc := 0) 0 dX10_ran_0 rfl rfl ?_
  refine x_get (pc := 1) dX10_ran_1 lk_X10_212 gm_0 rfl rfl ?_
  refine x_bipush (pc := 4) (w := 40) dX10_ran_4 bi_40 ?_
  refine x_icmp_ge (pc := 6) 29 dX10_ran_6 (by decide) (fun c_1 => ?_) (fun c_1 => ?_)
  · have h := aw_pos h c_1
    obtain rfl := aw_sv h
    exact x_vret (pc := 29) dX10_ran_29
  · have h := aw_neg h c_1
    refine x_aload_n (pc := 9) 0 dX10_ran_9 rfl rfl ?_
    refine x_get (pc := 10) dX10_ran_10 lk_X10_40 gm_0 rfl rfl ?_
    refine x_aload_n (pc := 13) 0 dX10_ran_13 rfl rfl ?_
    refine x_get (pc := 14) dX10_ran_14 lk_X10_212 gm_0 rfl rfl ?_
    refine x_iload_n (pc := 17) 1 dX10_ran_17 rfl rfl ?_
    obtain ⟨c_2, h⟩ := aw_ck h
    refine x_iast (pc := 18) dX10_ran_18 gm_11 c_2 ?_
    refine x_aload_n (pc := 19) 0 dX10_ran_19 rfl rfl ?_
    refine x_dup (pc := 20) dX10_ran_20 rfl ?_
    refine x_get (pc := 21) dX10_ran_21 lk_X10_212 gm_0 rfl rfl ?_
    refine x_iconst (pc := 24) (w := 1) dX10_ran_24 ic_1 ?_
    refine x_iadd (pc := 25) dX10_ran_25 ?_
    refine x_put (pc := 26) (x := (((aw_u M 11 (M 0 23).toNatClampNeg p1) 0 23) + 1)) dX10_ran_26 lk_X10_212 lp_X10_23 gm_0 rfl rfl rfl rfl ?_
    obtain rfl := aw_sv h
    exact x_vret (pc := 29) dX10_ran_29
def fm_threadsIn (g_tm_threadsIn : Int32 → Int32 → aw_M → Option (Int32 × aw_M)) (p1 : Int32) (p2 : Int32) (M : aw_M) : Option (Int32 × aw_M) :=
  if p1 = 0 then (
    aw_bv (fm_ran 10 M) fun M_12 => (
    some ((p2 + (M_12 0 25)), M_12)
    )
  ) else (
    if p1 = 1 then (
      aw_bv (fm_ran 20 M) fun M_7 => (
      aw_bi (g_tm_threadsIn 0 p2 M_7) fun r_9 M_10 => (
      some ((r_9 * 3), M_10)
      )
      )
    ) else (
      aw_bi (fm_above p1 M) fun r_4 M_5 => (
      g_tm_threadsIn r_4 p2 M_5
      )
    )
  )
set_option maxRecDepth 20000 in
theorem tm_threadsIn {l : Launch} {D : va_G} {cy : Nat → ClassId} {ad : Nat → Nat} {A : Nat → Prop} (d0 : Nat) (g_tm_threadsIn : Int32 → Int32 → aw_M → Option (Int32 × aw_M)) (hg_tm_threadsIn : ∀ (d : Nat), d0 + 0 ≤ d → ∀ (p1 : Int32) (p2 : Int32) (M : aw_M) (r : Int32) (M1 : aw_M), g_tm_threadsIn  p1 p2 M = some (r, M1) → AX l D cy ad A gm_G yX10_threadsIn cX10_threadsIn 3 (some .int) d [.ref (ad 0), .int p1, .int p2] M (some (.int r)) M1) (d : Nat) (hd : d0 + 1 ≤ d) (p1 : Int32) (p2 : Int32) (M : aw_M) (r : Int32) (M1 : aw_M) (h : fm_threadsIn g_tm_threadsIn p1 p2 M = some (r, M1)) : AX l D cy ad A gm_G yX10_threadsIn cX10_threadsIn 3 (some .int) d [.ref (ad 0), .int p1, .int p2] M (some (.int r)) M1 := by
  have hd1 : (d - 1) + 1 ≤ d := by omega
  have hm1 : 1 ≤ d := by omega
  have hh_0 : 0 ≤ d - 1 := by omega
  have ho_0 : d0 + 0 ≤ d - 1 := by omega
  refine AX.of (own := RX10) (by decide +kernel) rfl (Nat.le_of_ble_eq_true rfl) ?_
  unfold fm_threadsIn at h
  show AW l D cy ad A gm_G RX10 cX10_threadsIn 3 (some .int) d (some (.int r)) M1 0 [(0, .ref (ad 0)), (1, .int p1), (2, .int p2)] [] M
  refine x_iload_n (pc := 0) 1 dX10_threadsIn_0 rfl rfl ?_
  refine x_if_ne (pc := 1) 17 dX10_threadsIn_1 (by decide) (fun c_1 => ?_) (fun c_1 => ?_)
  · have h := aw_neg h c_1
    refine x_iload_n (pc := 17) 1 dX10_threadsIn_17 rfl rfl ?_
    refine x_iconst (pc := 18) (w := 1) dX10_threadsIn_18 ic_1 ?_
    refine x_icmp_ne (pc := 19) 37 dX10_threadsIn_19 (by decide) (fun c_2 => ?_) (fun c_2 => ?_)
    · have h := aw_neg h c_2
      refine x_aload_n (pc := 37) 0 dX10_threadsIn_37 rfl rfl ?_
      refine x_iload_n (pc := 38) 1 dX10_threadsIn_38 rfl rfl ?_
      obtain ⟨r_4, M_5, e_3, h⟩ := aw_bi_e h
      refine x_callS (pc := 39) (As := [.int p1]) (rest := [.ref (ad 0)]) (st' := [.int r_4, .ref (ad 0)]) (w := (some (.int r_4))) dX10_threadsIn_39 cw_X10_81 hd1 rfl rfl (Nat.le_of_ble_eq_true rfl) (tm_above (d - 1) hh_0 p1 _ _ _ e_3) rfl ?_
      refine x_iload_n (pc := 42) 2 dX10_threadsIn_42 rfl rfl ?_
      refine x_callV (pc := 43) (As := [.int r_4, .int p2]) (rest := []) (st' := [.int r]) (w := (some (.int r))) dX10_threadsIn_43 cw_X10_221 hd1 gm_0 rfl rfl rfl (Nat.le_of_ble_eq_true rfl) (hg_tm_threadsIn (d - 1) ho_0 r_4 p2 _ _ _ h) rfl ?_
      exact x_iret (pc := 46) dX10_threadsIn_46
    · have h := aw_pos h c_2
      refine x_aload_n (pc := 22) 0 dX10_threadsIn_22 rfl rfl ?_
      refine x_bipush (pc := 23) (w := 20) dX10_threadsIn_23 bi_20 ?_
      obtain ⟨M_7, e_6, h⟩ := aw_bv_e h
      refine x_callV (pc := 25) (As := [.int 20]) (rest := []) (st' := []) (w := none) dX10_threadsIn_25 cw_X10_215 hd1 gm_0 rfl rfl rfl (Nat.le_of_ble_eq_true rfl) (tm_ran (d - 1) hh_0 20 _  _ e_6) rfl ?_
      refine x_aload_n (pc := 28) 0 dX10_threadsIn_28 rfl rfl ?_
      refine x_iconst (pc := 29) (w := 0) dX10_threadsIn_29 ic_0 ?_
      refine x_iload_n (pc := 30) 2 dX10_threadsIn_30 rfl rfl ?_
      obtain ⟨r_9, M_10, e_8, h⟩ := aw_bi_e h
      refine x_callV (pc := 31) (As := [.int 0, .int p2]) (rest := []) (st' := [.int r_9]) (w := (some (.int r_9))) dX10_threadsIn_31 cw_X10_221 hd1 gm_0 rfl rfl rfl (Nat.le_of_ble_eq_true rfl) (hg_tm_threadsIn (d - 1) ho_0 0 p2 _ _ _ e_8) rfl ?_
      refine x_iconst (pc := 34) (w := 3) dX10_threadsIn_34 ic_3 ?_
      refine x_imul (pc := 35) dX10_threadsIn_35 ?_
      obtain ⟨rfl, rfl⟩ := aw_so h
      exact x_iret (pc := 36) dX10_threadsIn_36
  · have h := aw_pos h c_1
    refine x_aload_n (pc := 4) 0 dX10_threadsIn_4 rfl rfl ?_
    refine x_bipush (pc := 5) (w := 10) dX10_threadsIn_5 bi_10 ?_
    obtain ⟨M_12, e_11, h⟩ := aw_bv_e h
    refine x_callV (pc := 7) (As := [.int 10]) (rest := []) (st' := []) (w := none) dX10_threadsIn_7 cw_X10_215 hd1 gm_0 rfl rfl rfl (Nat.le_of_ble_eq_true rfl) (tm_ran (d - 1) hh_0 10 _  _ e_11) rfl ?_
    refine x_iload_n (pc := 10) 2 dX10_threadsIn_10 rfl rfl ?_
    refine x_aload_n (pc := 11) 0 dX10_threadsIn_11 rfl rfl ?_
    refine x_get (pc := 12) dX10_threadsIn_12 lk_X10_218 gm_0 rfl rfl ?_
    refine x_iadd (pc := 15) dX10_threadsIn_15 ?_
    obtain ⟨rfl, rfl⟩ := aw_so h
    exact x_iret (pc := 16) dX10_threadsIn_16
def FX_fm_threadsIn : Nat → Int32 → Int32 → aw_M → Option (Int32 × aw_M)
  | 0, _, _, _ => none
  | n + 1, p1, p2, M => fm_threadsIn (FX_fm_threadsIn n) p1 p2 M
theorem FX_fm_threadsIn_ok {l : Launch} {D : va_G} {cy : Nat → ClassId} {ad : Nat → Nat} {A : Nat → Prop} : ∀ (n d : Nat), n * 2 ≤ d → ∀ (p1 : Int32) (p2 : Int32) (M : aw_M) (r : Int32) (M1 : aw_M), FX_fm_threadsIn n p1 p2 M = some (r, M1) → AX l D cy ad A gm_G yX10_threadsIn cX10_threadsIn 3 (some .int) d [.ref (ad 0), .int p1, .int p2] M (some (.int r)) M1 := by
  intro n
  induction n with
  | zero => intro d _ p1 p2 M r M1 h; cases h
  | succ n ih =>
    intro d hd p1 p2 M r M1 h
    exact tm_threadsIn (n * 2) (FX_fm_threadsIn n) (fun d hd => ih d (by omega)) d (by omega) p1 p2 M r M1 h
def fm_showsIn (g_tm_showsIn : Int32 → Int32 → aw_M → Option (Int32 × aw_M)) (p1 : Int32) (p2 : Int32) (M : aw_M) : Option (Int32 × aw_M) :=
  if p1 = 0 then (
    aw_bv (fm_ran 12 M) fun M_18 => (
    some ((p2 - (M_18 0 26)), M_18)
    )
  ) else (
    if p1 = 3 then (
      aw_bv (fm_ran 40 M) fun M_13 => (
      aw_bi (g_tm_showsIn 0 p2 M_13) fun r_15 M_16 => (
      some ((-r_15), M_16)
      )
      )
    ) else (
      if p1 = 6 then (
        aw_bv (fm_ran 70 M) fun M_8 => (
        aw_bi (g_tm_showsIn 3 p2 M_8) fun r_10 M_11 => (
        some ((r_10 ^^^ (M_11 0 25)), M_11)
        )
        )
      ) else (
        aw_bi (fm_above p1 M) fun r_5 M_6 => (
        g_tm_showsIn r_5 p2 M_6
        )
      )
    )
  )
set_option maxRecDepth 20000 in
theorem tm_showsIn {l : Launch} {D : va_G} {cy : Nat → ClassId} {ad : Nat → Nat} {A : Nat → Prop} (d0 : Nat) (g_tm_showsIn : Int32 → Int32 → aw_M → Option (Int32 × aw_M)) (hg_tm_showsIn : ∀ (d : Nat), d0 + 0 ≤ d → ∀ (p1 : Int32) (p2 : Int32) (M : aw_M) (r : Int32) (M1 : aw_M), g_tm_showsIn  p1 p2 M = some (r, M1) → AX l D cy ad A gm_G yX10_showsIn cX10_showsIn 3 (some .int) d [.ref (ad 0), .int p1, .int p2] M (some (.int r)) M1) (d : Nat) (hd : d0 + 1 ≤ d) (p1 : Int32) (p2 : Int32) (M : aw_M) (r : Int32) (M1 : aw_M) (h : fm_showsIn g_tm_showsIn p1 p2 M = some (r, M1)) : AX l D cy ad A gm_G yX10_showsIn cX10_showsIn 3 (some .int) d [.ref (ad 0), .int p1, .int p2] M (some (.int r)) M1 := by
  have hd1 : (d - 1) + 1 ≤ d := by omega
  have hm1 : 1 ≤ d := by omega
  have hh_0 : 0 ≤ d - 1 := by omega
  have ho_0 : d0 + 0 ≤ d - 1 := by omega
  refine AX.of (own := RX10) (by decide +kernel) rfl (Nat.le_of_ble_eq_true rfl) ?_
  unfold fm_showsIn at h
  show AW l D cy ad A gm_G RX10 cX10_showsIn 3 (some .int) d (some (.int r)) M1 0 [(0, .ref (ad 0)), (1, .int p1), (2, .int p2)] [] M
  refine x_iload_n (pc := 0) 1 dX10_showsIn_0 rfl rfl ?_
  refine x_if_ne (pc := 1) 17 dX10_showsIn_1 (by decide) (fun c_1 => ?_) (fun c_1 => ?_)
  · have h := aw_neg h c_1
    refine x_iload_n (pc := 17) 1 dX10_showsIn_17 rfl rfl ?_
    refine x_iconst (pc := 18) (w := 3) dX10_showsIn_18 ic_3 ?_
    refine x_icmp_ne (pc := 19) 36 dX10_showsIn_19 (by decide) (fun c_2 => ?_) (fun c_2 => ?_)
    · have h := aw_neg h c_2
      refine x_iload_n (pc := 36) 1 dX10_showsIn_36 rfl rfl ?_
      refine x_bipush (pc := 37) (w := 6) dX10_showsIn_37 bi_6 ?_
      refine x_icmp_ne (pc := 39) 60 dX10_showsIn_39 (by decide) (fun c_3 => ?_) (fun c_3 => ?_)
      · have h := aw_neg h c_3
        refine x_aload_n (pc := 60) 0 dX10_showsIn_60 rfl rfl ?_
        refine x_iload_n (pc := 61) 1 dX10_showsIn_61 rfl rfl ?_
        obtain ⟨r_5, M_6, e_4, h⟩ := aw_bi_e h
        refine x_callS (pc := 62) (As := [.int p1]) (rest := [.ref (ad 0)]) (st' := [.int r_5, .ref (ad 0)]) (w := (some (.int r_5))) dX10_showsIn_62 cw_X10_81 hd1 rfl rfl (Nat.le_of_ble_eq_true rfl) (tm_above (d - 1) hh_0 p1 _ _ _ e_4) rfl ?_
        refine x_iload_n (pc := 65) 2 dX10_showsIn_65 rfl rfl ?_
        refine x_callV (pc := 66) (As := [.int r_5, .int p2]) (rest := []) (st' := [.int r]) (w := (some (.int r))) dX10_showsIn_66 cw_X10_227 hd1 gm_0 rfl rfl rfl (Nat.le_of_ble_eq_true rfl) (hg_tm_showsIn (d - 1) ho_0 r_5 p2 _ _ _ h) rfl ?_
        exact x_iret (pc := 69) dX10_showsIn_69
      · have h := aw_pos h c_3
        refine x_aload_n (pc := 42) 0 dX10_showsIn_42 rfl rfl ?_
        refine x_bipush (pc := 43) (w := 70) dX10_showsIn_43 bi_70 ?_
        obtain ⟨M_8, e_7, h⟩ := aw_bv_e h
        refine x_callV (pc := 45) (As := [.int 70]) (rest := []) (st' := []) (w := none) dX10_showsIn_45 cw_X10_215 hd1 gm_0 rfl rfl rfl (Nat.le_of_ble_eq_true rfl) (tm_ran (d - 1) hh_0 70 _  _ e_7) rfl ?_
        refine x_aload_n (pc := 48) 0 dX10_showsIn_48 rfl rfl ?_
        refine x_iconst (pc := 49) (w := 3) dX10_showsIn_49 ic_3 ?_
        refine x_iload_n (pc := 50) 2 dX10_showsIn_50 rfl rfl ?_
        obtain ⟨r_10, M_11, e_9, h⟩ := aw_bi_e h
        refine x_callV (pc := 51) (As := [.int 3, .int p2]) (rest := []) (st' := [.int r_10]) (w := (some (.int r_10))) dX10_showsIn_51 cw_X10_227 hd1 gm_0 rfl rfl rfl (Nat.le_of_ble_eq_true rfl) (hg_tm_showsIn (d - 1) ho_0 3 p2 _ _ _ e_9) rfl ?_
        refine x_aload_n (pc := 54) 0 dX10_showsIn_54 rfl rfl ?_
        refine x_get (pc := 55) dX10_showsIn_55 lk_X10_218 gm_0 rfl rfl ?_
        refine x_ixor (pc := 58) dX10_showsIn_58 ?_
        obtain ⟨rfl, rfl⟩ := aw_so h
        exact x_iret (pc := 59) dX10_showsIn_59
    · have h := aw_pos h c_2
      refine x_aload_n (pc := 22) 0 dX10_showsIn_22 rfl rfl ?_
      refine x_bipush (pc := 23) (w := 40) dX10_showsIn_23 bi_40 ?_
      obtain ⟨M_13, e_12, h⟩ := aw_bv_e h
      refine x_callV (pc := 25) (As := [.int 40]) (rest := []) (st' := []) (w := none) dX10_showsIn_25 cw_X10_215 hd1 gm_0 rfl rfl rfl (Nat.le_of_ble_eq_true rfl) (tm_ran (d - 1) hh_0 40 _  _ e_12) rfl ?_
      refine x_aload_n (pc := 28) 0 dX10_showsIn_28 rfl rfl ?_
      refine x_iconst (pc := 29) (w := 0) dX10_showsIn_29 ic_0 ?_
      refine x_iload_n (pc := 30) 2 dX10_showsIn_30 rfl rfl ?_
      obtain ⟨r_15, M_16, e_14, h⟩ := aw_bi_e h
      refine x_callV (pc := 31) (As := [.int 0, .int p2]) (rest := []) (st' := [.int r_15]) (w := (some (.int r_15))) dX10_showsIn_31 cw_X10_227 hd1 gm_0 rfl rfl rfl (Nat.le_of_ble_eq_true rfl) (hg_tm_showsIn (d - 1) ho_0 0 p2 _ _ _ e_14) rfl ?_
      refine x_ineg (pc := 34) dX10_showsIn_34 ?_
      obtain ⟨rfl, rfl⟩ := aw_so h
      exact x_iret (pc := 35) dX10_showsIn_35
  · have h := aw_pos h c_1
    refine x_aload_n (pc := 4) 0 dX10_showsIn_4 rfl rfl ?_
    refine x_bipush (pc := 5) (w := 12) dX10_showsIn_5 bi_12 ?_
    obtain ⟨M_18, e_17, h⟩ := aw_bv_e h
    refine x_callV (pc := 7) (As := [.int 12]) (rest := []) (st' := []) (w := none) dX10_showsIn_7 cw_X10_215 hd1 gm_0 rfl rfl rfl (Nat.le_of_ble_eq_true rfl) (tm_ran (d - 1) hh_0 12 _  _ e_17) rfl ?_
    refine x_iload_n (pc := 10) 2 dX10_showsIn_10 rfl rfl ?_
    refine x_aload_n (pc := 11) 0 dX10_showsIn_11 rfl rfl ?_
    refine x_get (pc := 12) dX10_showsIn_12 lk_X10_224 gm_0 rfl rfl ?_
    refine x_isub (pc := 15) dX10_showsIn_15 ?_
    obtain ⟨rfl, rfl⟩ := aw_so h
    exact x_iret (pc := 16) dX10_showsIn_16
def FX_fm_showsIn : Nat → Int32 → Int32 → aw_M → Option (Int32 × aw_M)
  | 0, _, _, _ => none
  | n + 1, p1, p2, M => fm_showsIn (FX_fm_showsIn n) p1 p2 M
theorem FX_fm_showsIn_ok {l : Launch} {D : va_G} {cy : Nat → ClassId} {ad : Nat → Nat} {A : Nat → Prop} : ∀ (n d : Nat), n * 2 ≤ d → ∀ (p1 : Int32) (p2 : Int32) (M : aw_M) (r : Int32) (M1 : aw_M), FX_fm_showsIn n p1 p2 M = some (r, M1) → AX l D cy ad A gm_G yX10_showsIn cX10_showsIn 3 (some .int) d [.ref (ad 0), .int p1, .int p2] M (some (.int r)) M1 := by
  intro n
  induction n with
  | zero => intro d _ p1 p2 M r M1 h; cases h
  | succ n ih =>
    intro d hd p1 p2 M r M1 h
    exact tm_showsIn (n * 2) (FX_fm_showsIn n) (fun d hd => ih d (by omega)) d (by omega) p1 p2 M r M1 h
def fm_sewsIn (g_tm_sewsIn : Int32 → Int32 → aw_M → Option (Int32 × aw_M)) (p1 : Int32) (p2 : Int32) (M : aw_M) : Option (Int32 × aw_M) :=
  if p1 = 0 then (
    aw_bv (fm_ran 11 M) fun M_18 => (
    aw_bi (FX_fm_threadsIn 4 (M_18 0 24) p2 M_18) fun r_20 M_21 => (
    some ((r_20 * 2), M_21)
    )
    )
  ) else (
    if p1 = 2 then (
      aw_bv (fm_ran 30 M) fun M_10 => (
      aw_bi (g_tm_sewsIn 0 p2 M_10) fun r_12 M_13 => (
      aw_bi (FX_fm_showsIn 4 (M_13 0 24) 1 M_13) fun r_15 M_16 => (
      some ((r_12 - r_15), M_16)
      )
      )
      )
    ) else (
      if p1 = 5 then (
        aw_bv (fm_ran 60 M) fun M_8 => (
        g_tm_sewsIn 2 (p2 + 1) M_8
        )
      ) else (
        aw_bi (fm_above p1 M) fun r_5 M_6 => (
        g_tm_sewsIn r_5 p2 M_6
        )
      )
    )
  )
set_option maxRecDepth 20000 in
theorem tm_sewsIn {l : Launch} {D : va_G} {cy : Nat → ClassId} {ad : Nat → Nat} {A : Nat → Prop} (d0 : Nat) (g_tm_sewsIn : Int32 → Int32 → aw_M → Option (Int32 × aw_M)) (hg_tm_sewsIn : ∀ (d : Nat), d0 + 0 ≤ d → ∀ (p1 : Int32) (p2 : Int32) (M : aw_M) (r : Int32) (M1 : aw_M), g_tm_sewsIn  p1 p2 M = some (r, M1) → AX l D cy ad A gm_G yX10_sewsIn cX10_sewsIn 4 (some .int) d [.ref (ad 0), .int p1, .int p2] M (some (.int r)) M1) (d : Nat) (hd : d0 + 9 ≤ d) (p1 : Int32) (p2 : Int32) (M : aw_M) (r : Int32) (M1 : aw_M) (h : fm_sewsIn g_tm_sewsIn p1 p2 M = some (r, M1)) : AX l D cy ad A gm_G yX10_sewsIn cX10_sewsIn 4 (some .int) d [.ref (ad 0), .int p1, .int p2] M (some (.int r)) M1 := by
  have hd1 : (d - 1) + 1 ≤ d := by omega
  have hm1 : 1 ≤ d := by omega
  have hh_0 : 0 ≤ d - 1 := by omega
  have hh_8 : 8 ≤ d - 1 := by omega
  have ho_0 : d0 + 0 ≤ d - 1 := by omega
  refine AX.of (own := RX10) (by decide +kernel) rfl (Nat.le_of_ble_eq_true rfl) ?_
  unfold fm_sewsIn at h
  show AW l D cy ad A gm_G RX10 cX10_sewsIn 4 (some .int) d (some (.int r)) M1 0 [(0, .ref (ad 0)), (1, .int p1), (2, .int p2)] [] M
  refine x_iload_n (pc := 0) 1 dX10_sewsIn_0 rfl rfl ?_
  refine x_if_ne (pc := 1) 22 dX10_sewsIn_1 (by decide) (fun c_1 => ?_) (fun c_1 => ?_)
  · have h := aw_neg h c_1
    refine x_iload_n (pc := 22) 1 dX10_sewsIn_22 rfl rfl ?_
    refine x_iconst (pc := 23) (w := 2) dX10_sewsIn_23 ic_2 ?_
    refine x_icmp_ne (pc := 24) 52 dX10_sewsIn_24 (by decide) (fun c_2 => ?_) (fun c_2 => ?_)
    · have h := aw_neg h c_2
      refine x_iload_n (pc := 52) 1 dX10_sewsIn_52 rfl rfl ?_
      refine x_iconst (pc := 53) (w := 5) dX10_sewsIn_53 ic_5 ?_
      refine x_icmp_ne (pc := 54) 72 dX10_sewsIn_54 (by decide) (fun c_3 => ?_) (fun c_3 => ?_)
      · have h := aw_neg h c_3
        refine x_aload_n (pc := 72) 0 dX10_sewsIn_72 rfl rfl ?_
        refine x_iload_n (pc := 73) 1 dX10_sewsIn_73 rfl rfl ?_
        obtain ⟨r_5, M_6, e_4, h⟩ := aw_bi_e h
        refine x_callS (pc := 74) (As := [.int p1]) (rest := [.ref (ad 0)]) (st' := [.int r_5, .ref (ad 0)]) (w := (some (.int r_5))) dX10_sewsIn_74 cw_X10_81 hd1 rfl rfl (Nat.le_of_ble_eq_true rfl) (tm_above (d - 1) hh_0 p1 _ _ _ e_4) rfl ?_
        refine x_iload_n (pc := 77) 2 dX10_sewsIn_77 rfl rfl ?_
        refine x_callV (pc := 78) (As := [.int r_5, .int p2]) (rest := []) (st' := [.int r]) (w := (some (.int r))) dX10_sewsIn_78 cw_X10_233 hd1 gm_0 rfl rfl rfl (Nat.le_of_ble_eq_true rfl) (hg_tm_sewsIn (d - 1) ho_0 r_5 p2 _ _ _ h) rfl ?_
        exact x_iret (pc := 81) dX10_sewsIn_81
      · have h := aw_pos h c_3
        refine x_aload_n (pc := 57) 0 dX10_sewsIn_57 rfl rfl ?_
        refine x_bipush (pc := 58) (w := 60) dX10_sewsIn_58 bi_60 ?_
        obtain ⟨M_8, e_7, h⟩ := aw_bv_e h
        refine x_callV (pc := 60) (As := [.int 60]) (rest := []) (st' := []) (w := none) dX10_sewsIn_60 cw_X10_215 hd1 gm_0 rfl rfl rfl (Nat.le_of_ble_eq_true rfl) (tm_ran (d - 1) hh_0 60 _  _ e_7) rfl ?_
        refine x_aload_n (pc := 63) 0 dX10_sewsIn_63 rfl rfl ?_
        refine x_iconst (pc := 64) (w := 2) dX10_sewsIn_64 ic_2 ?_
        refine x_iload_n (pc := 65) 2 dX10_sewsIn_65 rfl rfl ?_
        refine x_iconst (pc := 66) (w := 1) dX10_sewsIn_66 ic_1 ?_
        refine x_iadd (pc := 67) dX10_sewsIn_67 ?_
        refine x_callV (pc := 68) (As := [.int 2, .int (p2 + 1)]) (rest := []) (st' := [.int r]) (w := (some (.int r))) dX10_sewsIn_68 cw_X10_233 hd1 gm_0 rfl rfl rfl (Nat.le_of_ble_eq_true rfl) (hg_tm_sewsIn (d - 1) ho_0 2 (p2 + 1) _ _ _ h) rfl ?_
        exact x_iret (pc := 71) dX10_sewsIn_71
    · have h := aw_pos h c_2
      refine x_aload_n (pc := 27) 0 dX10_sewsIn_27 rfl rfl ?_
      refine x_bipush (pc := 28) (w := 30) dX10_sewsIn_28 bi_30 ?_
      obtain ⟨M_10, e_9, h⟩ := aw_bv_e h
      refine x_callV (pc := 30) (As := [.int 30]) (rest := []) (st' := []) (w := none) dX10_sewsIn_30 cw_X10_215 hd1 gm_0 rfl rfl rfl (Nat.le_of_ble_eq_true rfl) (tm_ran (d - 1) hh_0 30 _  _ e_9) rfl ?_
      refine x_aload_n (pc := 33) 0 dX10_sewsIn_33 rfl rfl ?_
      refine x_iconst (pc := 34) (w := 0) dX10_sewsIn_34 ic_0 ?_
      refine x_iload_n (pc := 35) 2 dX10_sewsIn_35 rfl rfl ?_
      obtain ⟨r_12, M_13, e_11, h⟩ := aw_bi_e h
      refine x_callV (pc := 36) (As := [.int 0, .int p2]) (rest := []) (st' := [.int r_12]) (w := (some (.int r_12))) dX10_sewsIn_36 cw_X10_233 hd1 gm_0 rfl rfl rfl (Nat.le_of_ble_eq_true rfl) (hg_tm_sewsIn (d - 1) ho_0 0 p2 _ _ _ e_11) rfl ?_
      refine x_istore_n (pc := 39) 3 [(3, .int r_12), (0, .ref (ad 0)), (1, .int p1), (2, .int p2)] dX10_sewsIn_39 rfl (by decide) rfl ?_
      refine x_iload_n (pc := 40) 3 dX10_sewsIn_40 rfl rfl ?_
      refine x_aload_n (pc := 41) 0 dX10_sewsIn_41 rfl rfl ?_
      refine x_aload_n (pc := 42) 0 dX10_sewsIn_42 rfl rfl ?_
      refine x_get (pc := 43) dX10_sewsIn_43 lk_X10_230 gm_0 rfl rfl ?_
      refine x_iconst (pc := 46) (w := 1) dX10_sewsIn_46 ic_1 ?_
      obtain ⟨r_15, M_16, e_14, h⟩ := aw_bi_e h
      refine x_callV (pc := 47) (As := [.int (M_13 0 24), .int 1]) (rest := [.int r_12]) (st' := [.int r_15, .int r_12]) (w := (some (.int r_15))) dX10_sewsIn_47 cw_X10_227 hd1 gm_0 rfl rfl rfl (Nat.le_of_ble_eq_true rfl) ((FX_fm_showsIn_ok 4) (d - 1) hh_8 (M_13 0 24) 1 _ _ _ e_14) rfl ?_
      refine x_isub (pc := 50) dX10_sewsIn_50 ?_
      obtain ⟨rfl, rfl⟩ := aw_so h
      exact x_iret (pc := 51) dX10_sewsIn_51
  · have h := aw_pos h c_1
    refine x_aload_n (pc := 4) 0 dX10_sewsIn_4 rfl rfl ?_
    refine x_bipush (pc := 5) (w := 11) dX10_sewsIn_5 bi_11 ?_
    obtain ⟨M_18, e_17, h⟩ := aw_bv_e h
    refine x_callV (pc := 7) (As := [.int 11]) (rest := []) (st' := []) (w := none) dX10_sewsIn_7 cw_X10_215 hd1 gm_0 rfl rfl rfl (Nat.le_of_ble_eq_true rfl) (tm_ran (d - 1) hh_0 11 _  _ e_17) rfl ?_
    refine x_aload_n (pc := 10) 0 dX10_sewsIn_10 rfl rfl ?_
    refine x_aload_n (pc := 11) 0 dX10_sewsIn_11 rfl rfl ?_
    refine x_get (pc := 12) dX10_sewsIn_12 lk_X10_230 gm_0 rfl rfl ?_
    refine x_iload_n (pc := 15) 2 dX10_sewsIn_15 rfl rfl ?_
    obtain ⟨r_20, M_21, e_19, h⟩ := aw_bi_e h
    refine x_callV (pc := 16) (As := [.int (M_18 0 24), .int p2]) (rest := []) (st' := [.int r_20]) (w := (some (.int r_20))) dX10_sewsIn_16 cw_X10_221 hd1 gm_0 rfl rfl rfl (Nat.le_of_ble_eq_true rfl) ((FX_fm_threadsIn_ok 4) (d - 1) hh_8 (M_18 0 24) p2 _ _ _ e_19) rfl ?_
    refine x_iconst (pc := 19) (w := 2) dX10_sewsIn_19 ic_2 ?_
    refine x_imul (pc := 20) dX10_sewsIn_20 ?_
    obtain ⟨rfl, rfl⟩ := aw_so h
    exact x_iret (pc := 21) dX10_sewsIn_21
def FX_fm_sewsIn : Nat → Int32 → Int32 → aw_M → Option (Int32 × aw_M)
  | 0, _, _, _ => none
  | n + 1, p1, p2, M => fm_sewsIn (FX_fm_sewsIn n) p1 p2 M
theorem FX_fm_sewsIn_ok {l : Launch} {D : va_G} {cy : Nat → ClassId} {ad : Nat → Nat} {A : Nat → Prop} : ∀ (n d : Nat), n * 10 ≤ d → ∀ (p1 : Int32) (p2 : Int32) (M : aw_M) (r : Int32) (M1 : aw_M), FX_fm_sewsIn n p1 p2 M = some (r, M1) → AX l D cy ad A gm_G yX10_sewsIn cX10_sewsIn 4 (some .int) d [.ref (ad 0), .int p1, .int p2] M (some (.int r)) M1 := by
  intro n
  induction n with
  | zero => intro d _ p1 p2 M r M1 h; cases h
  | succ n ih =>
    intro d hd p1 p2 M r M1 h
    exact tm_sewsIn (n * 10) (FX_fm_sewsIn n) (fun d hd => ih d (by omega)) d (by omega) p1 p2 M r M1 h
def fm_foldsIn (g_tm_foldsIn : Int32 → Int32 → aw_M → Option (Int32 × aw_M)) (p1 : Int32) (p2 : Int32) (M : aw_M) : Option (Int32 × aw_M) :=
  if p1 = 0 then (
    aw_bv (fm_ran 13 M) fun M_24 => (
    aw_bi (FX_fm_sewsIn 4 (M_24 0 24) p2 M_24) fun r_26 M_27 => (
    aw_bi (FX_fm_showsIn 4 (M_27 0 24) p2 M_27) fun r_29 M_30 => (
    some ((r_26 ^^^ r_29), M_30)
    )
    )
    )
  ) else (
    if p1 = 4 then (
      aw_bv (fm_ran 50 M) fun M_16 => (
      aw_bi (g_tm_foldsIn 1 p2 M_16) fun r_18 M_19 => (
      aw_bi (FX_fm_threadsIn 4 (M_19 0 24) 2 M_19) fun r_21 M_22 => (
      some ((r_18 - r_21), M_22)
      )
      )
      )
    ) else (
      if p1 = 6 then (
        aw_bv (fm_ran 71 M) fun M_8 => (
        aw_bi (FX_fm_sewsIn 4 (M_8 0 24) p2 M_8) fun r_10 M_11 => (
        aw_bi (g_tm_foldsIn 3 p2 M_11) fun r_13 M_14 => (
        some ((r_10 - r_13), M_14)
        )
        )
        )
      ) else (
        aw_bi (fm_above p1 M) fun r_5 M_6 => (
        g_tm_foldsIn r_5 p2 M_6
        )
      )
    )
  )
set_option maxRecDepth 20000 in
theorem tm_foldsIn {l : Launch} {D : va_G} {cy : Nat → ClassId} {ad : Nat → Nat} {A : Nat → Prop} (d0 : Nat) (g_tm_foldsIn : Int32 → Int32 → aw_M → Option (Int32 × aw_M)) (hg_tm_foldsIn : ∀ (d : Nat), d0 + 0 ≤ d → ∀ (p1 : Int32) (p2 : Int32) (M : aw_M) (r : Int32) (M1 : aw_M), g_tm_foldsIn  p1 p2 M = some (r, M1) → AX l D cy ad A gm_G yX10_foldsIn cX10_foldsIn 4 (some .int) d [.ref (ad 0), .int p1, .int p2] M (some (.int r)) M1) (d : Nat) (hd : d0 + 41 ≤ d) (p1 : Int32) (p2 : Int32) (M : aw_M) (r : Int32) (M1 : aw_M) (h : fm_foldsIn g_tm_foldsIn p1 p2 M = some (r, M1)) : AX l D cy ad A gm_G yX10_foldsIn cX10_foldsIn 4 (some .int) d [.ref (ad 0), .int p1, .int p2] M (some (.int r)) M1 := by
  have hd1 : (d - 1) + 1 ≤ d := by omega
  have hm1 : 1 ≤ d := by omega
  have hh_0 : 0 ≤ d - 1 := by omega
  have hh_8 : 8 ≤ d - 1 := by omega
  have hh_40 : 40 ≤ d - 1 := by omega
  have ho_0 : d0 + 0 ≤ d - 1 := by omega
  refine AX.of (own := RX10) (by decide +kernel) rfl (Nat.le_of_ble_eq_true rfl) ?_
  unfold fm_foldsIn at h
  show AW l D cy ad A gm_G RX10 cX10_foldsIn 4 (some .int) d (some (.int r)) M1 0 [(0, .ref (ad 0)), (1, .int p1), (2, .int p2)] [] M
  refine x_iload_n (pc := 0) 1 dX10_foldsIn_0 rfl rfl ?_
  refine x_if_ne (pc := 1) 32 dX10_foldsIn_1 (by decide) (fun c_1 => ?_) (fun c_1 => ?_)
  · have h := aw_neg h c_1
    refine x_iload_n (pc := 32) 1 dX10_foldsIn_32 rfl rfl ?_
    refine x_iconst (pc := 33) (w := 4) dX10_foldsIn_33 ic_4 ?_
    refine x_icmp_ne (pc := 34) 62 dX10_foldsIn_34 (by decide) (fun c_2 => ?_) (fun c_2 => ?_)
    · have h := aw_neg h c_2
      refine x_iload_n (pc := 62) 1 dX10_foldsIn_62 rfl rfl ?_
      refine x_bipush (pc := 63) (w := 6) dX10_foldsIn_63 bi_6 ?_
      refine x_icmp_ne (pc := 65) 93 dX10_foldsIn_65 (by decide) (fun c_3 => ?_) (fun c_3 => ?_)
      · have h := aw_neg h c_3
        refine x_aload_n (pc := 93) 0 dX10_foldsIn_93 rfl rfl ?_
        refine x_iload_n (pc := 94) 1 dX10_foldsIn_94 rfl rfl ?_
        obtain ⟨r_5, M_6, e_4, h⟩ := aw_bi_e h
        refine x_callS (pc := 95) (As := [.int p1]) (rest := [.ref (ad 0)]) (st' := [.int r_5, .ref (ad 0)]) (w := (some (.int r_5))) dX10_foldsIn_95 cw_X10_81 hd1 rfl rfl (Nat.le_of_ble_eq_true rfl) (tm_above (d - 1) hh_0 p1 _ _ _ e_4) rfl ?_
        refine x_iload_n (pc := 98) 2 dX10_foldsIn_98 rfl rfl ?_
        refine x_callV (pc := 99) (As := [.int r_5, .int p2]) (rest := []) (st' := [.int r]) (w := (some (.int r))) dX10_foldsIn_99 cw_X10_236 hd1 gm_0 rfl rfl rfl (Nat.le_of_ble_eq_true rfl) (hg_tm_foldsIn (d - 1) ho_0 r_5 p2 _ _ _ h) rfl ?_
        exact x_iret (pc := 102) dX10_foldsIn_102
      · have h := aw_pos h c_3
        refine x_aload_n (pc := 68) 0 dX10_foldsIn_68 rfl rfl ?_
        refine x_bipush (pc := 69) (w := 71) dX10_foldsIn_69 bi_71 ?_
        obtain ⟨M_8, e_7, h⟩ := aw_bv_e h
        refine x_callV (pc := 71) (As := [.int 71]) (rest := []) (st' := []) (w := none) dX10_foldsIn_71 cw_X10_215 hd1 gm_0 rfl rfl rfl (Nat.le_of_ble_eq_true rfl) (tm_ran (d - 1) hh_0 71 _  _ e_7) rfl ?_
        refine x_aload_n (pc := 74) 0 dX10_foldsIn_74 rfl rfl ?_
        refine x_aload_n (pc := 75) 0 dX10_foldsIn_75 rfl rfl ?_
        refine x_get (pc := 76) dX10_foldsIn_76 lk_X10_230 gm_0 rfl rfl ?_
        refine x_iload_n (pc := 79) 2 dX10_foldsIn_79 rfl rfl ?_
        obtain ⟨r_10, M_11, e_9, h⟩ := aw_bi_e h
        refine x_callV (pc := 80) (As := [.int (M_8 0 24), .int p2]) (rest := []) (st' := [.int r_10]) (w := (some (.int r_10))) dX10_foldsIn_80 cw_X10_233 hd1 gm_0 rfl rfl rfl (Nat.le_of_ble_eq_true rfl) ((FX_fm_sewsIn_ok 4) (d - 1) hh_40 (M_8 0 24) p2 _ _ _ e_9) rfl ?_
        refine x_istore_n (pc := 83) 3 [(3, .int r_10), (0, .ref (ad 0)), (1, .int p1), (2, .int p2)] dX10_foldsIn_83 rfl (by decide) rfl ?_
        refine x_iload_n (pc := 84) 3 dX10_foldsIn_84 rfl rfl ?_
        refine x_aload_n (pc := 85) 0 dX10_foldsIn_85 rfl rfl ?_
        refine x_iconst (pc := 86) (w := 3) dX10_foldsIn_86 ic_3 ?_
        refine x_iload_n (pc := 87) 2 dX10_foldsIn_87 rfl rfl ?_
        obtain ⟨r_13, M_14, e_12, h⟩ := aw_bi_e h
        refine x_callV (pc := 88) (As := [.int 3, .int p2]) (rest := [.int r_10]) (st' := [.int r_13, .int r_10]) (w := (some (.int r_13))) dX10_foldsIn_88 cw_X10_236 hd1 gm_0 rfl rfl rfl (Nat.le_of_ble_eq_true rfl) (hg_tm_foldsIn (d - 1) ho_0 3 p2 _ _ _ e_12) rfl ?_
        refine x_isub (pc := 91) dX10_foldsIn_91 ?_
        obtain ⟨rfl, rfl⟩ := aw_so h
        exact x_iret (pc := 92) dX10_foldsIn_92
    · have h := aw_pos h c_2
      refine x_aload_n (pc := 37) 0 dX10_foldsIn_37 rfl rfl ?_
      refine x_bipush (pc := 38) (w := 50) dX10_foldsIn_38 bi_50 ?_
      obtain ⟨M_16, e_15, h⟩ := aw_bv_e h
      refine x_callV (pc := 40) (As := [.int 50]) (rest := []) (st' := []) (w := none) dX10_foldsIn_40 cw_X10_215 hd1 gm_0 rfl rfl rfl (Nat.le_of_ble_eq_true rfl) (tm_ran (d - 1) hh_0 50 _  _ e_15) rfl ?_
      refine x_aload_n (pc := 43) 0 dX10_foldsIn_43 rfl rfl ?_
      refine x_iconst (pc := 44) (w := 1) dX10_foldsIn_44 ic_1 ?_
      refine x_iload_n (pc := 45) 2 dX10_foldsIn_45 rfl rfl ?_
      obtain ⟨r_18, M_19, e_17, h⟩ := aw_bi_e h
      refine x_callV (pc := 46) (As := [.int 1, .int p2]) (rest := []) (st' := [.int r_18]) (w := (some (.int r_18))) dX10_foldsIn_46 cw_X10_236 hd1 gm_0 rfl rfl rfl (Nat.le_of_ble_eq_true rfl) (hg_tm_foldsIn (d - 1) ho_0 1 p2 _ _ _ e_17) rfl ?_
      refine x_istore_n (pc := 49) 3 [(3, .int r_18), (0, .ref (ad 0)), (1, .int p1), (2, .int p2)] dX10_foldsIn_49 rfl (by decide) rfl ?_
      refine x_iload_n (pc := 50) 3 dX10_foldsIn_50 rfl rfl ?_
      refine x_aload_n (pc := 51) 0 dX10_foldsIn_51 rfl rfl ?_
      refine x_aload_n (pc := 52) 0 dX10_foldsIn_52 rfl rfl ?_
      refine x_get (pc := 53) dX10_foldsIn_53 lk_X10_230 gm_0 rfl rfl ?_
      refine x_iconst (pc := 56) (w := 2) dX10_foldsIn_56 ic_2 ?_
      obtain ⟨r_21, M_22, e_20, h⟩ := aw_bi_e h
      refine x_callV (pc := 57) (As := [.int (M_19 0 24), .int 2]) (rest := [.int r_18]) (st' := [.int r_21, .int r_18]) (w := (some (.int r_21))) dX10_foldsIn_57 cw_X10_221 hd1 gm_0 rfl rfl rfl (Nat.le_of_ble_eq_true rfl) ((FX_fm_threadsIn_ok 4) (d - 1) hh_8 (M_19 0 24) 2 _ _ _ e_20) rfl ?_
      refine x_isub (pc := 60) dX10_foldsIn_60 ?_
      obtain ⟨rfl, rfl⟩ := aw_so h
      exact x_iret (pc := 61) dX10_foldsIn_61
  · have h := aw_pos h c_1
    refine x_aload_n (pc := 4) 0 dX10_foldsIn_4 rfl rfl ?_
    refine x_bipush (pc := 5) (w := 13) dX10_foldsIn_5 bi_13 ?_
    obtain ⟨M_24, e_23, h⟩ := aw_bv_e h
    refine x_callV (pc := 7) (As := [.int 13]) (rest := []) (st' := []) (w := none) dX10_foldsIn_7 cw_X10_215 hd1 gm_0 rfl rfl rfl (Nat.le_of_ble_eq_true rfl) (tm_ran (d - 1) hh_0 13 _  _ e_23) rfl ?_
    refine x_aload_n (pc := 10) 0 dX10_foldsIn_10 rfl rfl ?_
    refine x_aload_n (pc := 11) 0 dX10_foldsIn_11 rfl rfl ?_
    refine x_get (pc := 12) dX10_foldsIn_12 lk_X10_230 gm_0 rfl rfl ?_
    refine x_iload_n (pc := 15) 2 dX10_foldsIn_15 rfl rfl ?_
    obtain ⟨r_26, M_27, e_25, h⟩ := aw_bi_e h
    refine x_callV (pc := 16) (As := [.int (M_24 0 24), .int p2]) (rest := []) (st' := [.int r_26]) (w := (some (.int r_26))) dX10_foldsIn_16 cw_X10_233 hd1 gm_0 rfl rfl rfl (Nat.le_of_ble_eq_true rfl) ((FX_fm_sewsIn_ok 4) (d - 1) hh_40 (M_24 0 24) p2 _ _ _ e_25) rfl ?_
    refine x_istore_n (pc := 19) 3 [(3, .int r_26), (0, .ref (ad 0)), (1, .int p1), (2, .int p2)] dX10_foldsIn_19 rfl (by decide) rfl ?_
    refine x_iload_n (pc := 20) 3 dX10_foldsIn_20 rfl rfl ?_
    refine x_aload_n (pc := 21) 0 dX10_foldsIn_21 rfl rfl ?_
    refine x_aload_n (pc := 22) 0 dX10_foldsIn_22 rfl rfl ?_
    refine x_get (pc := 23) dX10_foldsIn_23 lk_X10_230 gm_0 rfl rfl ?_
    refine x_iload_n (pc := 26) 2 dX10_foldsIn_26 rfl rfl ?_
    obtain ⟨r_29, M_30, e_28, h⟩ := aw_bi_e h
    refine x_callV (pc := 27) (As := [.int (M_27 0 24), .int p2]) (rest := [.int r_26]) (st' := [.int r_29, .int r_26]) (w := (some (.int r_29))) dX10_foldsIn_27 cw_X10_227 hd1 gm_0 rfl rfl rfl (Nat.le_of_ble_eq_true rfl) ((FX_fm_showsIn_ok 4) (d - 1) hh_8 (M_27 0 24) p2 _ _ _ e_28) rfl ?_
    refine x_ixor (pc := 30) dX10_foldsIn_30 ?_
    obtain ⟨rfl, rfl⟩ := aw_so h
    exact x_iret (pc := 31) dX10_foldsIn_31
def FX_fm_foldsIn : Nat → Int32 → Int32 → aw_M → Option (Int32 × aw_M)
  | 0, _, _, _ => none
  | n + 1, p1, p2, M => fm_foldsIn (FX_fm_foldsIn n) p1 p2 M
theorem FX_fm_foldsIn_ok {l : Launch} {D : va_G} {cy : Nat → ClassId} {ad : Nat → Nat} {A : Nat → Prop} : ∀ (n d : Nat), n * 42 ≤ d → ∀ (p1 : Int32) (p2 : Int32) (M : aw_M) (r : Int32) (M1 : aw_M), FX_fm_foldsIn n p1 p2 M = some (r, M1) → AX l D cy ad A gm_G yX10_foldsIn cX10_foldsIn 4 (some .int) d [.ref (ad 0), .int p1, .int p2] M (some (.int r)) M1 := by
  intro n
  induction n with
  | zero => intro d _ p1 p2 M r M1 h; cases h
  | succ n ih =>
    intro d hd p1 p2 M r M1 h
    exact tm_foldsIn (n * 42) (FX_fm_foldsIn n) (fun d hd => ih d (by omega)) d (by omega) p1 p2 M r M1 h
def fm_voice (p1 : Int32) (p2 : Int32) (p3 : Int32) (M : aw_M) : Option (Int32 × aw_M) :=
  aw_bi (fm_isCloth p1 M) fun r_2 M_3 => (
  if r_2 = 0 then (
    fm_errs (-1000000001) M_3
  ) else (
    aw_bi (fm_in p2 0 3 M_3) fun r_6 M_7 => (
    if r_6 = 0 then (
      fm_errs (-1000000001) M_7
    ) else (
      aw_bi (fm_its p1 0 (aw_u M_7 0 23 0)) fun r_10 M_11 => (
      aw_bi (fm_its p1 1 (aw_u (aw_u M_11 0 24 r_10) 0 25 p1)) fun r_13 M_14 => (
      if p2 = 0 then (
        FX_fm_threadsIn 4 ((aw_u M_14 0 26 r_13) 0 24) p3 (aw_u M_14 0 26 r_13)
      ) else (
        if p2 = 1 then (
          FX_fm_sewsIn 4 ((aw_u M_14 0 26 r_13) 0 24) p3 (aw_u M_14 0 26 r_13)
        ) else (
          if p2 = 2 then (
            FX_fm_showsIn 4 ((aw_u M_14 0 26 r_13) 0 24) p3 (aw_u M_14 0 26 r_13)
          ) else (
            FX_fm_foldsIn 4 ((aw_u M_14 0 26 r_13) 0 24) p3 (aw_u M_14 0 26 r_13)
          )
        )
      )
      )
      )
    )
    )
  )
  )
set_option maxRecDepth 20000 in
theorem tm_voice {l : Launch} {D : va_G} {cy : Nat → ClassId} {ad : Nat → Nat} {A : Nat → Prop} (d : Nat) (hd : 169 ≤ d) (p1 : Int32) (p2 : Int32) (p3 : Int32) (M : aw_M) (r : Int32) (M1 : aw_M) (h : fm_voice p1 p2 p3 M = some (r, M1)) : AX l D cy ad A gm_G yX10_voice cX10_voice 4 (some .int) d [.ref (ad 0), .int p1, .int p2, .int p3] M (some (.int r)) M1 := by
  have hd1 : (d - 1) + 1 ≤ d := by omega
  have hm1 : 1 ≤ d := by omega
  have hh_0 : 0 ≤ d - 1 := by omega
  have hh_1 : 1 ≤ d - 1 := by omega
  have hh_8 : 8 ≤ d - 1 := by omega
  have hh_40 : 40 ≤ d - 1 := by omega
  have hh_168 : 168 ≤ d - 1 := by omega
  refine AX.of (own := RX10) (by decide +kernel) rfl (Nat.le_of_ble_eq_true rfl) ?_
  unfold fm_voice at h
  show AW l D cy ad A gm_G RX10 cX10_voice 4 (some .int) d (some (.int r)) M1 0 [(0, .ref (ad 0)), (1, .int p1), (2, .int p2), (3, .int p3)] [] M
  refine x_aload_n (pc := 0) 0 dX10_voice_0 rfl rfl ?_
  refine x_iload_n (pc := 1) 1 dX10_voice_1 rfl rfl ?_
  obtain ⟨r_2, M_3, e_1, h⟩ := aw_bi_e h
  refine x_callV (pc := 2) (As := [.int p1]) (rest := []) (st' := [.int r_2]) (w := (some (.int r_2))) dX10_voice_2 cw_X10_62 hd1 gm_0 rfl rfl rfl (Nat.le_of_ble_eq_true rfl) (tm_isCloth (d - 1) hh_1 p1 _ _ _ e_1) rfl ?_
  refine x_if_eq (pc := 5) 17 dX10_voice_5 (by decide) (fun c_4 => ?_) (fun c_4 => ?_)
  · have h := aw_pos h c_4
    refine x_aload_n (pc := 17) 0 dX10_voice_17 rfl rfl ?_
    refine x_ldc (pc := 18) dX10_voice_18 wk_X10_48 ?_
    refine x_callV (pc := 20) (As := [.int (-1000000001)]) (rest := []) (st' := [.int r]) (w := (some (.int r))) dX10_voice_20 cw_X10_49 hd1 gm_0 rfl rfl rfl (Nat.le_of_ble_eq_true rfl) (tm_errs (d - 1) hh_0 (-1000000001) _ _ _ h) rfl ?_
    exact x_iret (pc := 23) dX10_voice_23
  · have h := aw_neg h c_4
    refine x_iload_n (pc := 8) 2 dX10_voice_8 rfl rfl ?_
    refine x_iconst (pc := 9) (w := 0) dX10_voice_9 ic_0 ?_
    refine x_iconst (pc := 10) (w := 3) dX10_voice_10 ic_3 ?_
    obtain ⟨r_6, M_7, e_5, h⟩ := aw_bi_e h
    refine x_callS (pc := 11) (As := [.int p2, .int 0, .int 3]) (rest := []) (st' := [.int r_6]) (w := (some (.int r_6))) dX10_voice_11 cw_X10_44 hd1 rfl rfl (Nat.le_of_ble_eq_true rfl) (tm_in (d - 1) hh_0 p2 0 3 _ _ _ e_5) rfl ?_
    refine x_if_ne (pc := 14) 24 dX10_voice_14 (by decide) (fun c_8 => ?_) (fun c_8 => ?_)
    · have h := aw_neg h c_8
      refine x_aload_n (pc := 24) 0 dX10_voice_24 rfl rfl ?_
      refine x_iconst (pc := 25) (w := 0) dX10_voice_25 ic_0 ?_
      refine x_put (pc := 26) (x := 0) dX10_voice_26 lk_X10_212 lp_X10_23 gm_0 rfl rfl rfl rfl ?_
      refine x_aload_n (pc := 29) 0 dX10_voice_29 rfl rfl ?_
      refine x_aload_n (pc := 30) 0 dX10_voice_30 rfl rfl ?_
      refine x_iload_n (pc := 31) 1 dX10_voice_31 rfl rfl ?_
      refine x_iconst (pc := 32) (w := 0) dX10_voice_32 ic_0 ?_
      obtain ⟨r_10, M_11, e_9, h⟩ := aw_bi_e h
      refine x_callV (pc := 33) (As := [.int p1, .int 0]) (rest := [.ref (ad 0)]) (st' := [.int r_10, .ref (ad 0)]) (w := (some (.int r_10))) dX10_voice_33 cw_X10_78 hd1 gm_0 rfl rfl rfl (Nat.le_of_ble_eq_true rfl) (tm_its (d - 1) hh_0 p1 0 _ _ _ e_9) rfl ?_
      refine x_put (pc := 36) (x := r_10) dX10_voice_36 lk_X10_230 lp_X10_24 gm_0 rfl rfl rfl rfl ?_
      refine x_aload_n (pc := 39) 0 dX10_voice_39 rfl rfl ?_
      refine x_iload_n (pc := 40) 1 dX10_voice_40 rfl rfl ?_
      refine x_put (pc := 41) (x := p1) dX10_voice_41 lk_X10_218 lp_X10_25 gm_0 rfl rfl rfl rfl ?_
      refine x_aload_n (pc := 44) 0 dX10_voice_44 rfl rfl ?_
      refine x_aload_n (pc := 45) 0 dX10_voice_45 rfl rfl ?_
      refine x_iload_n (pc := 46) 1 dX10_voice_46 rfl rfl ?_
      refine x_iconst (pc := 47) (w := 1) dX10_voice_47 ic_1 ?_
      obtain ⟨r_13, M_14, e_12, h⟩ := aw_bi_e h
      refine x_callV (pc := 48) (As := [.int p1, .int 1]) (rest := [.ref (ad 0)]) (st' := [.int r_13, .ref (ad 0)]) (w := (some (.int r_13))) dX10_voice_48 cw_X10_78 hd1 gm_0 rfl rfl rfl (Nat.le_of_ble_eq_true rfl) (tm_its (d - 1) hh_0 p1 1 _ _ _ e_12) rfl ?_
      refine x_put (pc := 51) (x := r_13) dX10_voice_51 lk_X10_224 lp_X10_26 gm_0 rfl rfl rfl rfl ?_
      refine x_iload_n (pc := 54) 2 dX10_voice_54 rfl rfl ?_
      by_cases c_15 : p2 = 0
      · have h := aw_pos h c_15
        refine x_tin (pc := 55) (off := 25) 0 80 dX10_voice_55 c_15 (by decide) (by decide) rfl (by decide) ?_
        refine x_aload_n (pc := 80) 0 dX10_voice_80 rfl rfl ?_
        refine x_aload_n (pc := 81) 0 dX10_voice_81 rfl rfl ?_
        refine x_get (pc := 82) dX10_voice_82 lk_X10_230 gm_0 rfl rfl ?_
        refine x_iload_n (pc := 85) 3 dX10_voice_85 rfl rfl ?_
        refine x_callV (pc := 86) (As := [.int ((aw_u M_14 0 26 r_13) 0 24), .int p3]) (rest := []) (st' := [.int r]) (w := (some (.int r))) dX10_voice_86 cw_X10_221 hd1 gm_0 rfl rfl rfl (Nat.le_of_ble_eq_true rfl) ((FX_fm_threadsIn_ok 4) (d - 1) hh_8 ((aw_u M_14 0 26 r_13) 0 24) p3 _ _ _ h) rfl ?_
        exact x_iret (pc := 89) dX10_voice_89
      · have h := aw_neg h c_15
        by_cases c_16 : p2 = 1
        · have h := aw_pos h c_16
          refine x_tin (pc := 55) (off := 35) 1 90 dX10_voice_55 c_16 (by decide) (by decide) rfl (by decide) ?_
          refine x_aload_n (pc := 90) 0 dX10_voice_90 rfl rfl ?_
          refine x_aload_n (pc := 91) 0 dX10_voice_91 rfl rfl ?_
          refine x_get (pc := 92) dX10_voice_92 lk_X10_230 gm_0 rfl rfl ?_
          refine x_iload_n (pc := 95) 3 dX10_voice_95 rfl rfl ?_
          refine x_callV (pc := 96) (As := [.int ((aw_u M_14 0 26 r_13) 0 24), .int p3]) (rest := []) (st' := [.int r]) (w := (some (.int r))) dX10_voice_96 cw_X10_233 hd1 gm_0 rfl rfl rfl (Nat.le_of_ble_eq_true rfl) ((FX_fm_sewsIn_ok 4) (d - 1) hh_40 ((aw_u M_14 0 26 r_13) 0 24) p3 _ _ _ h) rfl ?_
          exact x_iret (pc := 99) dX10_voice_99
        · have h := aw_neg h c_16
          by_cases c_17 : p2 = 2
          · have h := aw_pos h c_17
            refine x_tin (pc := 55) (off := 45) 2 100 dX10_voice_55 c_17 (by decide) (by decide) rfl (by decide) ?_
            refine x_aload_n (pc := 100) 0 dX10_voice_100 rfl rfl ?_
            refine x_aload_n (pc := 101) 0 dX10_voice_101 rfl rfl ?_
            refine x_get (pc := 102) dX10_voice_102 lk_X10_230 gm_0 rfl rfl ?_
            refine x_iload_n (pc := 105) 3 dX10_voice_105 rfl rfl ?_
            refine x_callV (pc := 106) (As := [.int ((aw_u M_14 0 26 r_13) 0 24), .int p3]) (rest := []) (st' := [.int r]) (w := (some (.int r))) dX10_voice_106 cw_X10_227 hd1 gm_0 rfl rfl rfl (Nat.le_of_ble_eq_true rfl) ((FX_fm_showsIn_ok 4) (d - 1) hh_8 ((aw_u M_14 0 26 r_13) 0 24) p3 _ _ _ h) rfl ?_
            exact x_iret (pc := 109) dX10_voice_109
          · have h := aw_neg h c_17
            refine x_tout (pc := 55) 110 dX10_voice_55 (by have z0 := lv_neT c_15 (a := 0) rfl; have z1 := lv_neT c_16 (a := 1) rfl; have z2 := lv_neT c_17 (a := 2) rfl; omega) (by decide) ?_
            refine x_aload_n (pc := 110) 0 dX10_voice_110 rfl rfl ?_
            refine x_aload_n (pc := 111) 0 dX10_voice_111 rfl rfl ?_
            refine x_get (pc := 112) dX10_voice_112 lk_X10_230 gm_0 rfl rfl ?_
            refine x_iload_n (pc := 115) 3 dX10_voice_115 rfl rfl ?_
            refine x_callV (pc := 116) (As := [.int ((aw_u M_14 0 26 r_13) 0 24), .int p3]) (rest := []) (st' := [.int r]) (w := (some (.int r))) dX10_voice_116 cw_X10_236 hd1 gm_0 rfl rfl rfl (Nat.le_of_ble_eq_true rfl) ((FX_fm_foldsIn_ok 4) (d - 1) hh_168 ((aw_u M_14 0 26 r_13) 0 24) p3 _ _ _ h) rfl ?_
            exact x_iret (pc := 119) dX10_voice_119
    · have h := aw_pos h c_8
      refine x_aload_n (pc := 17) 0 dX10_voice_17 rfl rfl ?_
      refine x_ldc (pc := 18) dX10_voice_18 wk_X10_48 ?_
      refine x_callV (pc := 20) (As := [.int (-1000000001)]) (rest := []) (st' := [.int r]) (w := (some (.int r))) dX10_voice_20 cw_X10_49 hd1 gm_0 rfl rfl rfl (Nat.le_of_ble_eq_true rfl) (tm_errs (d - 1) hh_0 (-1000000001) _ _ _ h) rfl ?_
      exact x_iret (pc := 23) dX10_voice_23
def fm_trace (p1 : Int32) (M : aw_M) : Option (Int32 × aw_M) :=
  aw_bi (fm_in p1 0 ((M 0 23) - 1) M) fun r_2 M_3 => (
  if r_2 = 0 then (
    fm_errs (-1000000002) M_3
  ) else (
    if aw_in p1 40 then none else (
    some ((M_3 11 p1.toNatClampNeg), M_3)
    )
  )
  )
set_option maxRecDepth 20000 in
theorem tm_trace {l : Launch} {D : va_G} {cy : Nat → ClassId} {ad : Nat → Nat} {A : Nat → Prop} (d : Nat) (hd : 1 ≤ d) (p1 : Int32) (M : aw_M) (r : Int32) (M1 : aw_M) (h : fm_trace p1 M = some (r, M1)) : AX l D cy ad A gm_G yX10_trace cX10_trace 2 (some .int) d [.ref (ad 0), .int p1] M (some (.int r)) M1 := by
  have hd1 : (d - 1) + 1 ≤ d := by omega
  have hm1 : 1 ≤ d := by omega
  have hh_0 : 0 ≤ d - 1 := by omega
  refine AX.of (own := RX10) (by decide +kernel) rfl (Nat.le_of_ble_eq_true rfl) ?_
  unfold fm_trace at h
  show AW l D cy ad A gm_G RX10 cX10_trace 2 (some .int) d (some (.int r)) M1 0 [(0, .ref (ad 0)), (1, .int p1)] [] M
  refine x_iload_n (pc := 0) 1 dX10_trace_0 rfl rfl ?_
  refine x_iconst (pc := 1) (w := 0) dX10_trace_1 ic_0 ?_
  refine x_aload_n (pc := 2) 0 dX10_trace_2 rfl rfl ?_
  refine x_get (pc := 3) dX10_trace_3 lk_X10_212 gm_0 rfl rfl ?_
  refine x_iconst (pc := 6) (w := 1) dX10_trace_6 ic_1 ?_
  refine x_isub (pc := 7) dX10_trace_7 ?_
  obtain ⟨r_2, M_3, e_1, h⟩ := aw_bi_e h
  refine x_callS (pc := 8) (As := [.int p1, .int 0, .int ((M 0 23) - 1)]) (rest := []) (st' := [.int r_2]) (w := (some (.int r_2))) dX10_trace_8 cw_X10_44 hd1 rfl rfl (Nat.le_of_ble_eq_true rfl) (tm_in (d - 1) hh_0 p1 0 ((M 0 23) - 1) _ _ _ e_1) rfl ?_
  refine x_if_eq (pc := 11) 23 dX10_trace_11 (by decide) (fun c_4 => ?_) (fun c_4 => ?_)
  · have h := aw_pos h c_4
    refine x_aload_n (pc := 23) 0 dX10_trace_23 rfl rfl ?_
    refine x_ldc (pc := 24) dX10_trace_24 wk_X10_187 ?_
    refine x_callV (pc := 26) (As := [.int (-1000000002)]) (rest := []) (st' := [.int r]) (w := (some (.int r))) dX10_trace_26 cw_X10_49 hd1 gm_0 rfl rfl rfl (Nat.le_of_ble_eq_true rfl) (tm_errs (d - 1) hh_0 (-1000000002) _ _ _ h) rfl ?_
    exact x_iret (pc := 29) dX10_trace_29
  · have h := aw_neg h c_4
    refine x_aload_n (pc := 14) 0 dX10_trace_14 rfl rfl ?_
    refine x_get (pc := 15) dX10_trace_15 lk_X10_40 gm_0 rfl rfl ?_
    refine x_iload_n (pc := 18) 1 dX10_trace_18 rfl rfl ?_
    obtain ⟨c_5, h⟩ := aw_ck h
    refine x_iald (pc := 19) dX10_trace_19 gm_11 c_5 ?_
    refine x_goto (pc := 20) 29 dX10_trace_20 (by decide) ?_
    obtain ⟨rfl, rfl⟩ := aw_so h
    exact x_iret (pc := 29) dX10_trace_29
def fm_narrow (p0 : Int32) (p1 : Int32) (M : aw_M) : Option (Int32 × aw_M) :=
  if p0 = 8 then (
    some (p1.toInt8.toInt32, M)
  ) else (
    if p0 = 16 then (
      some (p1.toInt16.toInt32, M)
    ) else (
      some (p1, M)
    )
  )
set_option maxRecDepth 20000 in
theorem tm_narrow {l : Launch} {D : va_G} {cy : Nat → ClassId} {ad : Nat → Nat} {A : Nat → Prop} (d : Nat) (hd : 0 ≤ d) (p0 : Int32) (p1 : Int32) (M : aw_M) (r : Int32) (M1 : aw_M) (h : fm_narrow p0 p1 M = some (r, M1)) : AX l D cy ad A gm_G yX10_narrow cX10_narrow 2 (some .int) d [.int p0, .int p1] M (some (.int r)) M1 := by
  refine AX.of (own := RX10) (by decide +kernel) rfl (Nat.le_of_ble_eq_true rfl) ?_
  unfold fm_narrow at h
  show AW l D cy ad A gm_G RX10 cX10_narrow 2 (some .int) d (some (.int r)) M1 0 [(0, .int p0), (1, .int p1)] [] M
  refine x_iload_n (pc := 0) 0 dX10_narrow_0 rfl rfl ?_
  refine x_bipush (pc := 1) (w := 8) dX10_narrow_1 bi_8 ?_
  refine x_icmp_ne (pc := 3) 11 dX10_narrow_3 (by decide) (fun c_1 => ?_) (fun c_1 => ?_)
  · have h := aw_neg h c_1
    refine x_iload_n (pc := 11) 0 dX10_narrow_11 rfl rfl ?_
    refine x_bipush (pc := 12) (w := 16) dX10_narrow_12 bi_16 ?_
    refine x_icmp_ne (pc := 14) 22 dX10_narrow_14 (by decide) (fun c_2 => ?_) (fun c_2 => ?_)
    · have h := aw_neg h c_2
      refine x_iload_n (pc := 22) 1 dX10_narrow_22 rfl rfl ?_
      obtain ⟨rfl, rfl⟩ := aw_so h
      exact x_iret (pc := 23) dX10_narrow_23
    · have h := aw_pos h c_2
      refine x_iload_n (pc := 17) 1 dX10_narrow_17 rfl rfl ?_
      refine x_i2s (pc := 18) dX10_narrow_18 ?_
      refine x_goto (pc := 19) 23 dX10_narrow_19 (by decide) ?_
      obtain ⟨rfl, rfl⟩ := aw_so h
      exact x_iret (pc := 23) dX10_narrow_23
  · have h := aw_pos h c_1
    refine x_iload_n (pc := 6) 1 dX10_narrow_6 rfl rfl ?_
    refine x_i2b (pc := 7) dX10_narrow_7 ?_
    refine x_goto (pc := 8) 23 dX10_narrow_8 (by decide) ?_
    obtain ⟨rfl, rfl⟩ := aw_so h
    exact x_iret (pc := 23) dX10_narrow_23
def fm_sheet_L93 : Nat → Int32 → Int32 → aw_M → Option (Int32 × aw_M)
  | 0, _, _, _ => none
  | n + 1, p1, p4, M =>
    if (40 : Int32) ≤ p4 then (
      some (1, M)
    ) else (
      if aw_in ((40 * p1) + p4) 160 then none else (
      fm_sheet_L93 n p1 (p4 + 1) (aw_u M 8 ((40 * p1) + p4).toNatClampNeg 0)
      )
    )
theorem fm_sheet_L93_s (n : Nat) (p1 : Int32) (p4 : Int32) (M : aw_M) : fm_sheet_L93 (n + 1) p1 p4 M = (
    if (40 : Int32) ≤ p4 then (
      some (1, M)
    ) else (
      if aw_in ((40 * p1) + p4) 160 then none else (
      fm_sheet_L93 n p1 (p4 + 1) (aw_u M 8 ((40 * p1) + p4).toNatClampNeg 0)
      )
    )
    ) := rfl
set_option maxRecDepth 20000 in
theorem tm_sheet_L93 {l : Launch} {D : va_G} {cy : Nat → ClassId} {ad : Nat → Nat} {A : Nat → Prop} (d : Nat) (hd : 2 ≤ d) : ∀ (n : Nat) (p1 : Int32) (p4 : Int32) (M : aw_M) (r : Int32) (M1 : aw_M), fm_sheet_L93 n p1 p4 M = some (r, M1) → AW l D cy ad A gm_G RX10 cX10_sheet 5 (some .int) d (some (.int r)) M1 93 [(0, .ref (ad 0)), (1, .int p1), (4, .int p4)] [] M := by
  have hd1 : (d - 1) + 1 ≤ d := by omega
  have hm1 : 1 ≤ d := by omega
  have hh_0 : 0 ≤ d - 1 := by omega
  have hh_1 : 1 ≤ d - 1 := by omega
  intro n
  induction n with
  | zero => intro p1 p4 M r M1 h; cases h
  | succ n ih =>
    intro p1 p4 M r M1 h
    rw [fm_sheet_L93_s] at h
    refine x_iload (pc := 93) dX10_sheet_93 rfl ?_
    refine x_bipush (pc := 95) (w := 40) dX10_sheet_95 bi_40 ?_
    refine x_icmp_ge (pc := 97) 119 dX10_sheet_97 (by decide) (fun c_21 => ?_) (fun c_21 => ?_)
    · have h := aw_pos h c_21
      refine x_iconst (pc := 119) (w := 1) dX10_sheet_119 ic_1 ?_
      obtain ⟨rfl, rfl⟩ := aw_so h
      exact x_iret (pc := 120) dX10_sheet_120
    · have h := aw_neg h c_21
      refine x_aload_n (pc := 100) 0 dX10_sheet_100 rfl rfl ?_
      refine x_get (pc := 101) dX10_sheet_101 lk_X10_31 gm_0 rfl rfl ?_
      refine x_bipush (pc := 104) (w := 40) dX10_sheet_104 bi_40 ?_
      refine x_iload_n (pc := 106) 1 dX10_sheet_106 rfl rfl ?_
      refine x_imul (pc := 107) dX10_sheet_107 ?_
      refine x_iload (pc := 108) dX10_sheet_108 rfl ?_
      refine x_iadd (pc := 110) dX10_sheet_110 ?_
      refine x_iconst (pc := 111) (w := 0) dX10_sheet_111 ic_0 ?_
      obtain ⟨c_22, h⟩ := aw_ck h
      refine x_iast (pc := 112) dX10_sheet_112 gm_8 c_22 ?_
      refine x_iinc (pc := 113) (p4 + 1) [(4, .int (p4 + 1)), (0, .ref (ad 0)), (1, .int p1)] dX10_sheet_113 rfl (congrArg (fun z => p4 + z) ic_1) (by decide) rfl ?_
      refine x_goto (pc := 116) 93 dX10_sheet_116 (by decide) ?_
      refine x_lv [1, 2, 0] [(0, .ref (ad 0)), (1, .int p1), (4, .int (p4 + 1))] rfl ?_
      exact ih p1 (p4 + 1) _ _ _ h
def fm_sheet_J51 (p1 : Int32) (p2 : Int32) (p3 : Int32) (M : aw_M) : Option (Int32 × aw_M) :=
    if p2 = 0 then (
      if aw_in p1 4 then none else (
      if p2 = 0 then (
        if aw_in p1 4 then none else (
        fm_sheet_L93  2000 p1 0 (aw_u (aw_u M 6 p1.toNatClampNeg p2) 7 p1.toNatClampNeg 0)
        )
      ) else (
        if aw_in p1 4 then none else (
        fm_sheet_L93  2000 p1 0 (aw_u (aw_u M 6 p1.toNatClampNeg p2) 7 p1.toNatClampNeg p3)
        )
      )
      )
    ) else (
      if p3 ≤ 40 then (
        if aw_in p1 4 then none else (
        if p2 = 0 then (
          if aw_in p1 4 then none else (
          fm_sheet_L93  2000 p1 0 (aw_u (aw_u M 6 p1.toNatClampNeg p2) 7 p1.toNatClampNeg 0)
          )
        ) else (
          if aw_in p1 4 then none else (
          fm_sheet_L93  2000 p1 0 (aw_u (aw_u M 6 p1.toNatClampNeg p2) 7 p1.toNatClampNeg p3)
          )
        )
        )
      ) else (
        fm_errs (-1000000001) M
      )
    )
set_option maxRecDepth 20000 in
theorem tm_sheet_J51 {l : Launch} {D : va_G} {cy : Nat → ClassId} {ad : Nat → Nat} {A : Nat → Prop} (d : Nat) (hd : 2 ≤ d) (p1 : Int32) (p2 : Int32) (p3 : Int32) (M : aw_M) (r : Int32) (M1 : aw_M) (h : fm_sheet_J51 p1 p2 p3 M = some (r, M1)) : AW l D cy ad A gm_G RX10 cX10_sheet 5 (some .int) d (some (.int r)) M1 51 [(0, .ref (ad 0)), (1, .int p1), (2, .int p2), (3, .int p3)] [] M := by
  have hd1 : (d - 1) + 1 ≤ d := by omega
  have hm1 : 1 ≤ d := by omega
  have hh_0 : 0 ≤ d - 1 := by omega
  have hh_1 : 1 ≤ d - 1 := by omega
  unfold fm_sheet_J51 at h
  refine x_iload_n (pc := 51) 2 dX10_sheet_51 rfl rfl ?_
  refine x_if_eq (pc := 52) 68 dX10_sheet_52 (by decide) (fun c_11 => ?_) (fun c_11 => ?_)
  · have h := aw_pos h c_11
    refine x_aload_n (pc := 68) 0 dX10_sheet_68 rfl rfl ?_
    refine x_get (pc := 69) dX10_sheet_69 lk_X10_25 gm_0 rfl rfl ?_
    refine x_iload_n (pc := 72) 1 dX10_sheet_72 rfl rfl ?_
    refine x_iload_n (pc := 73) 2 dX10_sheet_73 rfl rfl ?_
    obtain ⟨c_12, h⟩ := aw_ck h
    refine x_iast (pc := 74) dX10_sheet_74 gm_6 c_12 ?_
    refine x_aload_n (pc := 75) 0 dX10_sheet_75 rfl rfl ?_
    refine x_get (pc := 76) dX10_sheet_76 lk_X10_28 gm_0 rfl rfl ?_
    refine x_iload_n (pc := 79) 1 dX10_sheet_79 rfl rfl ?_
    refine x_iload_n (pc := 80) 2 dX10_sheet_80 rfl rfl ?_
    refine x_if_ne (pc := 81) 88 dX10_sheet_81 (by decide) (fun c_13 => ?_) (fun c_13 => ?_)
    · have h := aw_neg h c_13
      refine x_iload_n (pc := 88) 3 dX10_sheet_88 rfl rfl ?_
      obtain ⟨c_14, h⟩ := aw_ck h
      refine x_iast (pc := 89) dX10_sheet_89 gm_7 c_14 ?_
      refine x_iconst (pc := 90) (w := 0) dX10_sheet_90 ic_0 ?_
      refine x_istore (pc := 91) 4 [(4, .int 0), (0, .ref (ad 0)), (1, .int p1), (2, .int p2), (3, .int p3)] dX10_sheet_91 (by decide) rfl ?_
      refine x_lv [1, 2, 0] [(0, .ref (ad 0)), (1, .int p1), (4, .int 0)] rfl ?_
      exact tm_sheet_L93 d hd  2000 p1 0 _ _ _ h
    · have h := aw_pos h c_13
      refine x_iconst (pc := 84) (w := 0) dX10_sheet_84 ic_0 ?_
      refine x_goto (pc := 85) 89 dX10_sheet_85 (by decide) ?_
      obtain ⟨c_15, h⟩ := aw_ck h
      refine x_iast (pc := 89) dX10_sheet_89 gm_7 c_15 ?_
      refine x_iconst (pc := 90) (w := 0) dX10_sheet_90 ic_0 ?_
      refine x_istore (pc := 91) 4 [(4, .int 0), (0, .ref (ad 0)), (1, .int p1), (2, .int p2), (3, .int p3)] dX10_sheet_91 (by decide) rfl ?_
      refine x_lv [1, 2, 0] [(0, .ref (ad 0)), (1, .int p1), (4, .int 0)] rfl ?_
      exact tm_sheet_L93 d hd  2000 p1 0 _ _ _ h
  · have h := aw_neg h c_11
    refine x_iload_n (pc := 55) 3 dX10_sheet_55 rfl rfl ?_
    refine x_bipush (pc := 56) (w := 40) dX10_sheet_56 bi_40 ?_
    refine x_icmp_le (pc := 58) 68 dX10_sheet_58 (by decide) (fun c_16 => ?_) (fun c_16 => ?_)
    · have h := aw_pos h c_16
      refine x_aload_n (pc := 68) 0 dX10_sheet_68 rfl rfl ?_
      refine x_get (pc := 69) dX10_sheet_69 lk_X10_25 gm_0 rfl rfl ?_
      refine x_iload_n (pc := 72) 1 dX10_sheet_72 rfl rfl ?_
      refine x_iload_n (pc := 73) 2 dX10_sheet_73 rfl rfl ?_
      obtain ⟨c_17, h⟩ := aw_ck h
      refine x_iast (pc := 74) dX10_sheet_74 gm_6 c_17 ?_
      refine x_aload_n (pc := 75) 0 dX10_sheet_75 rfl rfl ?_
      refine x_get (pc := 76) dX10_sheet_76 lk_X10_28 gm_0 rfl rfl ?_
      refine x_iload_n (pc := 79) 1 dX10_sheet_79 rfl rfl ?_
      refine x_iload_n (pc := 80) 2 dX10_sheet_80 rfl rfl ?_
      refine x_if_ne (pc := 81) 88 dX10_sheet_81 (by decide) (fun c_18 => ?_) (fun c_18 => ?_)
      · have h := aw_neg h c_18
        refine x_iload_n (pc := 88) 3 dX10_sheet_88 rfl rfl ?_
        obtain ⟨c_19, h⟩ := aw_ck h
        refine x_iast (pc := 89) dX10_sheet_89 gm_7 c_19 ?_
        refine x_iconst (pc := 90) (w := 0) dX10_sheet_90 ic_0 ?_
        refine x_istore (pc := 91) 4 [(4, .int 0), (0, .ref (ad 0)), (1, .int p1), (2, .int p2), (3, .int p3)] dX10_sheet_91 (by decide) rfl ?_
        refine x_lv [1, 2, 0] [(0, .ref (ad 0)), (1, .int p1), (4, .int 0)] rfl ?_
        exact tm_sheet_L93 d hd  2000 p1 0 _ _ _ h
      · have h := aw_pos h c_18
        refine x_iconst (pc := 84) (w := 0) dX10_sheet_84 ic_0 ?_
        refine x_goto (pc := 85) 89 dX10_sheet_85 (by decide) ?_
        obtain ⟨c_20, h⟩ := aw_ck h
        refine x_iast (pc := 89) dX10_sheet_89 gm_7 c_20 ?_
        refine x_iconst (pc := 90) (w := 0) dX10_sheet_90 ic_0 ?_
        refine x_istore (pc := 91) 4 [(4, .int 0), (0, .ref (ad 0)), (1, .int p1), (2, .int p2), (3, .int p3)] dX10_sheet_91 (by decide) rfl ?_
        refine x_lv [1, 2, 0] [(0, .ref (ad 0)), (1, .int p1), (4, .int 0)] rfl ?_
        exact tm_sheet_L93 d hd  2000 p1 0 _ _ _ h
    · have h := aw_neg h c_16
      refine x_aload_n (pc := 61) 0 dX10_sheet_61 rfl rfl ?_
      refine x_ldc (pc := 62) dX10_sheet_62 wk_X10_48 ?_
      refine x_callV (pc := 64) (As := [.int (-1000000001)]) (rest := []) (st' := [.int r]) (w := (some (.int r))) dX10_sheet_64 cw_X10_49 hd1 gm_0 rfl rfl rfl (Nat.le_of_ble_eq_true rfl) (tm_errs (d - 1) hh_0 (-1000000001) _ _ _ h) rfl ?_
      exact x_iret (pc := 67) dX10_sheet_67
def fm_sheet_J36 (p1 : Int32) (p2 : Int32) (p3 : Int32) (M : aw_M) : Option (Int32 × aw_M) :=
    if p2 = 0 then (
      fm_sheet_J51  p1 p2 p3 M
    ) else (
      if (0 : Int32) ≤ p3 then (
        fm_sheet_J51  p1 p2 p3 M
      ) else (
        fm_errs (-1000000003) M
      )
    )
set_option maxRecDepth 20000 in
theorem tm_sheet_J36 {l : Launch} {D : va_G} {cy : Nat → ClassId} {ad : Nat → Nat} {A : Nat → Prop} (d : Nat) (hd : 2 ≤ d) (p1 : Int32) (p2 : Int32) (p3 : Int32) (M : aw_M) (r : Int32) (M1 : aw_M) (h : fm_sheet_J36 p1 p2 p3 M = some (r, M1)) : AW l D cy ad A gm_G RX10 cX10_sheet 5 (some .int) d (some (.int r)) M1 36 [(0, .ref (ad 0)), (1, .int p1), (2, .int p2), (3, .int p3)] [] M := by
  have hd1 : (d - 1) + 1 ≤ d := by omega
  have hm1 : 1 ≤ d := by omega
  have hh_0 : 0 ≤ d - 1 := by omega
  have hh_1 : 1 ≤ d - 1 := by omega
  unfold fm_sheet_J36 at h
  refine x_iload_n (pc := 36) 2 dX10_sheet_36 rfl rfl ?_
  refine x_if_eq (pc := 37) 51 dX10_sheet_37 (by decide) (fun c_9 => ?_) (fun c_9 => ?_)
  · have h := aw_pos h c_9
    refine x_lv [0, 1, 2, 3] [(0, .ref (ad 0)), (1, .int p1), (2, .int p2), (3, .int p3)] rfl ?_
    exact tm_sheet_J51 d hd  p1 p2 p3 _ _ _ h
  · have h := aw_neg h c_9
    refine x_iload_n (pc := 40) 3 dX10_sheet_40 rfl rfl ?_
    refine x_if_ge (pc := 41) 51 dX10_sheet_41 (by decide) (fun c_10 => ?_) (fun c_10 => ?_)
    · have h := aw_pos h c_10
      refine x_lv [0, 1, 2, 3] [(0, .ref (ad 0)), (1, .int p1), (2, .int p2), (3, .int p3)] rfl ?_
      exact tm_sheet_J51 d hd  p1 p2 p3 _ _ _ h
    · have h := aw_neg h c_10
      refine x_aload_n (pc := 44) 0 dX10_sheet_44 rfl rfl ?_
      refine x_ldc (pc := 45) dX10_sheet_45 wk_X10_169 ?_
      refine x_callV (pc := 47) (As := [.int (-1000000003)]) (rest := []) (st' := [.int r]) (w := (some (.int r))) dX10_sheet_47 cw_X10_49 hd1 gm_0 rfl rfl rfl (Nat.le_of_ble_eq_true rfl) (tm_errs (d - 1) hh_0 (-1000000003) _ _ _ h) rfl ?_
      exact x_iret (pc := 50) dX10_sheet_50
def fm_sheet (p1 : Int32) (p2 : Int32) (p3 : Int32) (M : aw_M) : Option (Int32 × aw_M) :=
  aw_bi (fm_isSheet p1 M) fun r_2 M_3 => (
  if r_2 = 0 then (
    fm_errs (-1000000001) M_3
  ) else (
    if p2 = 0 then (
      fm_sheet_J36  p1 p2 p3 M_3
    ) else (
      if p2 = 8 then (
        fm_sheet_J36  p1 p2 p3 M_3
      ) else (
        if p2 = 16 then (
          fm_sheet_J36  p1 p2 p3 M_3
        ) else (
          if p2 = 32 then (
            fm_sheet_J36  p1 p2 p3 M_3
          ) else (
            fm_errs (-1000000001) M_3
          )
        )
      )
    )
  )
  )
set_option maxRecDepth 20000 in
theorem tm_sheet {l : Launch} {D : va_G} {cy : Nat → ClassId} {ad : Nat → Nat} {A : Nat → Prop} (d : Nat) (hd : 2 ≤ d) (p1 : Int32) (p2 : Int32) (p3 : Int32) (M : aw_M) (r : Int32) (M1 : aw_M) (h : fm_sheet p1 p2 p3 M = some (r, M1)) : AX l D cy ad A gm_G yX10_sheet cX10_sheet 5 (some .int) d [.ref (ad 0), .int p1, .int p2, .int p3] M (some (.int r)) M1 := by
  have hd1 : (d - 1) + 1 ≤ d := by omega
  have hm1 : 1 ≤ d := by omega
  have hh_0 : 0 ≤ d - 1 := by omega
  have hh_1 : 1 ≤ d - 1 := by omega
  refine AX.of (own := RX10) (by decide +kernel) rfl (Nat.le_of_ble_eq_true rfl) ?_
  unfold fm_sheet at h
  show AW l D cy ad A gm_G RX10 cX10_sheet 5 (some .int) d (some (.int r)) M1 0 [(0, .ref (ad 0)), (1, .int p1), (2, .int p2), (3, .int p3)] [] M
  refine x_iload_n (pc := 0) 1 dX10_sheet_0 rfl rfl ?_
  obtain ⟨r_2, M_3, e_1, h⟩ := aw_bi_e h
  refine x_callS (pc := 1) (As := [.int p1]) (rest := []) (st' := [.int r_2]) (w := (some (.int r_2))) dX10_sheet_1 cw_X10_191 hd1 rfl rfl (Nat.le_of_ble_eq_true rfl) (tm_isSheet (d - 1) hh_1 p1 _ _ _ e_1) rfl ?_
  refine x_if_eq (pc := 4) 29 dX10_sheet_4 (by decide) (fun c_4 => ?_) (fun c_4 => ?_)
  · have h := aw_pos h c_4
    refine x_aload_n (pc := 29) 0 dX10_sheet_29 rfl rfl ?_
    refine x_ldc (pc := 30) dX10_sheet_30 wk_X10_48 ?_
    refine x_callV (pc := 32) (As := [.int (-1000000001)]) (rest := []) (st' := [.int r]) (w := (some (.int r))) dX10_sheet_32 cw_X10_49 hd1 gm_0 rfl rfl rfl (Nat.le_of_ble_eq_true rfl) (tm_errs (d - 1) hh_0 (-1000000001) _ _ _ h) rfl ?_
    exact x_iret (pc := 35) dX10_sheet_35
  · have h := aw_neg h c_4
    refine x_iload_n (pc := 7) 2 dX10_sheet_7 rfl rfl ?_
    refine x_if_eq (pc := 8) 36 dX10_sheet_8 (by decide) (fun c_5 => ?_) (fun c_5 => ?_)
    · have h := aw_pos h c_5
      refine x_lv [0, 1, 2, 3] [(0, .ref (ad 0)), (1, .int p1), (2, .int p2), (3, .int p3)] rfl ?_
      exact tm_sheet_J36 d hd  p1 p2 p3 _ _ _ h
    · have h := aw_neg h c_5
      refine x_iload_n (pc := 11) 2 dX10_sheet_11 rfl rfl ?_
      refine x_bipush (pc := 12) (w := 8) dX10_sheet_12 bi_8 ?_
      refine x_icmp_eq (pc := 14) 36 dX10_sheet_14 (by decide) (fun c_6 => ?_) (fun c_6 => ?_)
      · have h := aw_pos h c_6
        refine x_lv [0, 1, 2, 3] [(0, .ref (ad 0)), (1, .int p1), (2, .int p2), (3, .int p3)] rfl ?_
        exact tm_sheet_J36 d hd  p1 p2 p3 _ _ _ h
      · have h := aw_neg h c_6
        refine x_iload_n (pc := 17) 2 dX10_sheet_17 rfl rfl ?_
        refine x_bipush (pc := 18) (w := 16) dX10_sheet_18 bi_16 ?_
        refine x_icmp_eq (pc := 20) 36 dX10_sheet_20 (by decide) (fun c_7 => ?_) (fun c_7 => ?_)
        · have h := aw_pos h c_7
          refine x_lv [0, 1, 2, 3] [(0, .ref (ad 0)), (1, .int p1), (2, .int p2), (3, .int p3)] rfl ?_
          exact tm_sheet_J36 d hd  p1 p2 p3 _ _ _ h
        · have h := aw_neg h c_7
          refine x_iload_n (pc := 23) 2 dX10_sheet_23 rfl rfl ?_
          refine x_bipush (pc := 24) (w := 32) dX10_sheet_24 bi_32 ?_
          refine x_icmp_eq (pc := 26) 36 dX10_sheet_26 (by decide) (fun c_8 => ?_) (fun c_8 => ?_)
          · have h := aw_pos h c_8
            refine x_lv [0, 1, 2, 3] [(0, .ref (ad 0)), (1, .int p1), (2, .int p2), (3, .int p3)] rfl ?_
            exact tm_sheet_J36 d hd  p1 p2 p3 _ _ _ h
          · have h := aw_neg h c_8
            refine x_aload_n (pc := 29) 0 dX10_sheet_29 rfl rfl ?_
            refine x_ldc (pc := 30) dX10_sheet_30 wk_X10_48 ?_
            refine x_callV (pc := 32) (As := [.int (-1000000001)]) (rest := []) (st' := [.int r]) (w := (some (.int r))) dX10_sheet_32 cw_X10_49 hd1 gm_0 rfl rfl rfl (Nat.le_of_ble_eq_true rfl) (tm_errs (d - 1) hh_0 (-1000000001) _ _ _ h) rfl ?_
            exact x_iret (pc := 35) dX10_sheet_35
