def fm_sumOf_L4 : Nat → Int32 → Int32 → Int32 → aw_M → Option (Int32 × aw_M)
  | 0, _, _, _, _ => none
  | n + 1, p1, p2, p3, M =>
    if (M 1 2) ≤ p3 then (
      some (p2, M)
    ) else (
      aw_bi (fm_its p3 p1 M) fun r_3 M_4 => (
      fm_sumOf_L4 n p1 (p2 + r_3) (p3 + 1) M_4
      )
    )
theorem fm_sumOf_L4_s (n : Nat) (p1 : Int32) (p2 : Int32) (p3 : Int32) (M : aw_M) : fm_sumOf_L4 (n + 1) p1 p2 p3 M = (
    if (M 1 2) ≤ p3 then (
      some (p2, M)
    ) else (
      aw_bi (fm_its p3 p1 M) fun r_3 M_4 => (
      fm_sumOf_L4 n p1 (p2 + r_3) (p3 + 1) M_4
      )
    )
    ) := rfl
set_option maxRecDepth 20000 in
theorem tm_sumOf_L4 {l : Launch} {D : va_G} {cy : Nat → ClassId} {ad : Nat → Nat} {A : Nat → Prop} (d : Nat) (hd : 1 ≤ d) : ∀ (n : Nat) (p1 : Int32) (p2 : Int32) (p3 : Int32) (M : aw_M) (r : Int32) (M1 : aw_M), fm_sumOf_L4 n p1 p2 p3 M = some (r, M1) → AW l D cy ad A gm_G RX10 cX10_sumOf 4 (some .int) d (some (.int r)) M1 4 [(0, .ref (ad 0)), (1, .int p1), (2, .int p2), (3, .int p3)] [] M := by
  have hd1 : (d - 1) + 1 ≤ d := by omega
  have hm1 : 1 ≤ d := by omega
  have hh_0 : 0 ≤ d - 1 := by omega
  intro n
  induction n with
  | zero => intro p1 p2 p3 M r M1 h; cases h
  | succ n ih =>
    intro p1 p2 p3 M r M1 h
    rw [fm_sumOf_L4_s] at h
    refine x_iload_n (pc := 4) 3 dX10_sumOf_4 rfl rfl ?_
    refine x_aload_n (pc := 5) 0 dX10_sumOf_5 rfl rfl ?_
    refine x_get (pc := 6) dX10_sumOf_6 lk_X10_7 gm_0 rfl rfl ?_
    refine x_iconst (pc := 9) (w := 2) dX10_sumOf_9 ic_2 ?_
    refine x_ialdJ (pc := 10) 2 dX10_sumOf_10 gm_1 (by decide) tn_2 ?_
    refine x_icmp_ge (pc := 11) 29 dX10_sumOf_11 (by decide) (fun c_1 => ?_) (fun c_1 => ?_)
    · have h := aw_pos h c_1
      refine x_iload_n (pc := 29) 2 dX10_sumOf_29 rfl rfl ?_
      obtain ⟨rfl, rfl⟩ := aw_so h
      exact x_iret (pc := 30) dX10_sumOf_30
    · have h := aw_neg h c_1
      refine x_iload_n (pc := 14) 2 dX10_sumOf_14 rfl rfl ?_
      refine x_aload_n (pc := 15) 0 dX10_sumOf_15 rfl rfl ?_
      refine x_iload_n (pc := 16) 3 dX10_sumOf_16 rfl rfl ?_
      refine x_iload_n (pc := 17) 1 dX10_sumOf_17 rfl rfl ?_
      obtain ⟨r_3, M_4, e_2, h⟩ := aw_bi_e h
      refine x_callV (pc := 18) (As := [.int p3, .int p1]) (rest := [.int p2]) (st' := [.int r_3, .int p2]) (w := (some (.int r_3))) dX10_sumOf_18 cw_X10_78 hd1 gm_0 rfl rfl rfl (Nat.le_of_ble_eq_true rfl) (tm_its (d - 1) hh_0 p3 p1 _ _ _ e_2) rfl ?_
      refine x_iadd (pc := 21) dX10_sumOf_21 ?_
      refine x_istore_n (pc := 22) 2 [(2, .int (p2 + r_3)), (0, .ref (ad 0)), (1, .int p1), (3, .int p3)] dX10_sumOf_22 rfl (by decide) rfl ?_
      refine x_iinc (pc := 23) (p3 + 1) [(3, .int (p3 + 1)), (2, .int (p2 + r_3)), (0, .ref (ad 0)), (1, .int p1)] dX10_sumOf_23 rfl (congrArg (fun z => p3 + z) ic_1) (by decide) rfl ?_
      refine x_goto (pc := 26) 4 dX10_sumOf_26 (by decide) ?_
      refine x_lv [2, 3, 1, 0] [(0, .ref (ad 0)), (1, .int p1), (2, .int (p2 + r_3)), (3, .int (p3 + 1))] rfl ?_
      exact ih p1 (p2 + r_3) (p3 + 1) _ _ _ h
def fm_sumOf (p1 : Int32) (M : aw_M) : Option (Int32 × aw_M) :=
  fm_sumOf_L4  2000 p1 0 0 M
set_option maxRecDepth 20000 in
theorem tm_sumOf {l : Launch} {D : va_G} {cy : Nat → ClassId} {ad : Nat → Nat} {A : Nat → Prop} (d : Nat) (hd : 1 ≤ d) (p1 : Int32) (M : aw_M) (r : Int32) (M1 : aw_M) (h : fm_sumOf p1 M = some (r, M1)) : AX l D cy ad A gm_G yX10_sumOf cX10_sumOf 4 (some .int) d [.ref (ad 0), .int p1] M (some (.int r)) M1 := by
  have hd1 : (d - 1) + 1 ≤ d := by omega
  have hm1 : 1 ≤ d := by omega
  have hh_0 : 0 ≤ d - 1 := by omega
  refine AX.of (own := RX10) (by decide +kernel) rfl (Nat.le_of_ble_eq_true rfl) ?_
  unfold fm_sumOf at h
  show AW l D cy ad A gm_G RX10 cX10_sumOf 4 (some .int) d (some (.int r)) M1 0 [(0, .ref (ad 0)), (1, .int p1)] [] M
  refine x_iconst (pc := 0) (w := 0) dX10_sumOf_0 ic_0 ?_
  refine x_istore_n (pc := 1) 2 [(2, .int 0), (0, .ref (ad 0)), (1, .int p1)] dX10_sumOf_1 rfl (by decide) rfl ?_
  refine x_iconst (pc := 2) (w := 0) dX10_sumOf_2 ic_0 ?_
  refine x_istore_n (pc := 3) 3 [(3, .int 0), (2, .int 0), (0, .ref (ad 0)), (1, .int p1)] dX10_sumOf_3 rfl (by decide) rfl ?_
  refine x_lv [2, 3, 1, 0] [(0, .ref (ad 0)), (1, .int p1), (2, .int 0), (3, .int 0)] rfl ?_
  exact tm_sumOf_L4 d hd  2000 p1 0 0 _ _ _ h
def fm_count (p1 : Int32) (M : aw_M) : Option (Int32 × aw_M) :=
  if p1 = 0 then (
    some ((M 1 2), M)
  ) else (
    if p1 = 1 then (
      some ((M 1 0), M)
    ) else (
      if p1 = 2 then (
        fm_sumOf 3 M
      ) else (
        if p1 = 3 then (
          fm_sumOf 4 M
        ) else (
          if p1 = 4 then (
            some ((M 1 3), M)
          ) else (
            if p1 = 5 then (
              some ((M 1 4), M)
            ) else (
              if p1 = 6 then (
                some ((M 0 23), M)
              ) else (
                if p1 = 7 then (
                  some ((M 1 1), M)
                ) else (
                  fm_errs (-1000000001) M
                )
              )
            )
          )
        )
      )
    )
  )
set_option maxRecDepth 20000 in
theorem tm_count {l : Launch} {D : va_G} {cy : Nat → ClassId} {ad : Nat → Nat} {A : Nat → Prop} (d : Nat) (hd : 2 ≤ d) (p1 : Int32) (M : aw_M) (r : Int32) (M1 : aw_M) (h : fm_count p1 M = some (r, M1)) : AX l D cy ad A gm_G yX10_count cX10_count 2 (some .int) d [.ref (ad 0), .int p1] M (some (.int r)) M1 := by
  have hd1 : (d - 1) + 1 ≤ d := by omega
  have hm1 : 1 ≤ d := by omega
  have hh_0 : 0 ≤ d - 1 := by omega
  have hh_1 : 1 ≤ d - 1 := by omega
  refine AX.of (own := RX10) (by decide +kernel) rfl (Nat.le_of_ble_eq_true rfl) ?_
  unfold fm_count at h
  show AW l D cy ad A gm_G RX10 cX10_count 2 (some .int) d (some (.int r)) M1 0 [(0, .ref (ad 0)), (1, .int p1)] [] M
  refine x_iload_n (pc := 0) 1 dX10_count_0 rfl rfl ?_
  by_cases c_1 : p1 = 0
  · have h := aw_pos h c_1
    refine x_tin (pc := 1) (off := 47) 0 48 dX10_count_1 c_1 (by decide) (by decide) rfl (by decide) ?_
    refine x_aload_n (pc := 48) 0 dX10_count_48 rfl rfl ?_
    refine x_get (pc := 49) dX10_count_49 lk_X10_7 gm_0 rfl rfl ?_
    refine x_iconst (pc := 52) (w := 2) dX10_count_52 ic_2 ?_
    refine x_ialdJ (pc := 53) 2 dX10_count_53 gm_1 (by decide) tn_2 ?_
    obtain ⟨rfl, rfl⟩ := aw_so h
    exact x_iret (pc := 54) dX10_count_54
  · have h := aw_neg h c_1
    by_cases c_2 : p1 = 1
    · have h := aw_pos h c_2
      refine x_tin (pc := 1) (off := 54) 1 55 dX10_count_1 c_2 (by decide) (by decide) rfl (by decide) ?_
      refine x_aload_n (pc := 55) 0 dX10_count_55 rfl rfl ?_
      refine x_get (pc := 56) dX10_count_56 lk_X10_7 gm_0 rfl rfl ?_
      refine x_iconst (pc := 59) (w := 0) dX10_count_59 ic_0 ?_
      refine x_ialdJ (pc := 60) 0 dX10_count_60 gm_1 (by decide) tn_0 ?_
      obtain ⟨rfl, rfl⟩ := aw_so h
      exact x_iret (pc := 61) dX10_count_61
    · have h := aw_neg h c_2
      by_cases c_3 : p1 = 2
      · have h := aw_pos h c_3
        refine x_tin (pc := 1) (off := 61) 2 62 dX10_count_1 c_3 (by decide) (by decide) rfl (by decide) ?_
        refine x_aload_n (pc := 62) 0 dX10_count_62 rfl rfl ?_
        refine x_iconst (pc := 63) (w := 3) dX10_count_63 ic_3 ?_
        refine x_callV (pc := 64) (As := [.int 3]) (rest := []) (st' := [.int r]) (w := (some (.int r))) dX10_count_64 cw_X10_248 hd1 gm_0 rfl rfl rfl (Nat.le_of_ble_eq_true rfl) (tm_sumOf (d - 1) hh_1 3 _ _ _ h) rfl ?_
        exact x_iret (pc := 67) dX10_count_67
      · have h := aw_neg h c_3
        by_cases c_4 : p1 = 3
        · have h := aw_pos h c_4
          refine x_tin (pc := 1) (off := 67) 3 68 dX10_count_1 c_4 (by decide) (by decide) rfl (by decide) ?_
          refine x_aload_n (pc := 68) 0 dX10_count_68 rfl rfl ?_
          refine x_iconst (pc := 69) (w := 4) dX10_count_69 ic_4 ?_
          refine x_callV (pc := 70) (As := [.int 4]) (rest := []) (st' := [.int r]) (w := (some (.int r))) dX10_count_70 cw_X10_248 hd1 gm_0 rfl rfl rfl (Nat.le_of_ble_eq_true rfl) (tm_sumOf (d - 1) hh_1 4 _ _ _ h) rfl ?_
          exact x_iret (pc := 73) dX10_count_73
        · have h := aw_neg h c_4
          by_cases c_5 : p1 = 4
          · have h := aw_pos h c_5
            refine x_tin (pc := 1) (off := 73) 4 74 dX10_count_1 c_5 (by decide) (by decide) rfl (by decide) ?_
            refine x_aload_n (pc := 74) 0 dX10_count_74 rfl rfl ?_
            refine x_get (pc := 75) dX10_count_75 lk_X10_7 gm_0 rfl rfl ?_
            refine x_iconst (pc := 78) (w := 3) dX10_count_78 ic_3 ?_
            refine x_ialdJ (pc := 79) 3 dX10_count_79 gm_1 (by decide) tn_3 ?_
            obtain ⟨rfl, rfl⟩ := aw_so h
            exact x_iret (pc := 80) dX10_count_80
          · have h := aw_neg h c_5
            by_cases c_6 : p1 = 5
            · have h := aw_pos h c_6
              refine x_tin (pc := 1) (off := 80) 5 81 dX10_count_1 c_6 (by decide) (by decide) rfl (by decide) ?_
              refine x_aload_n (pc := 81) 0 dX10_count_81 rfl rfl ?_
              refine x_get (pc := 82) dX10_count_82 lk_X10_7 gm_0 rfl rfl ?_
              refine x_iconst (pc := 85) (w := 4) dX10_count_85 ic_4 ?_
              refine x_ialdJ (pc := 86) 4 dX10_count_86 gm_1 (by decide) tn_4 ?_
              obtain ⟨rfl, rfl⟩ := aw_so h
              exact x_iret (pc := 87) dX10_count_87
            · have h := aw_neg h c_6
              by_cases c_7 : p1 = 6
              · have h := aw_pos h c_7
                refine x_tin (pc := 1) (off := 87) 6 88 dX10_count_1 c_7 (by decide) (by decide) rfl (by decide) ?_
                refine x_aload_n (pc := 88) 0 dX10_count_88 rfl rfl ?_
                refine x_get (pc := 89) dX10_count_89 lk_X10_212 gm_0 rfl rfl ?_
                obtain ⟨rfl, rfl⟩ := aw_so h
                exact x_iret (pc := 92) dX10_count_92
              · have h := aw_neg h c_7
                by_cases c_8 : p1 = 7
                · have h := aw_pos h c_8
                  refine x_tin (pc := 1) (off := 92) 7 93 dX10_count_1 c_8 (by decide) (by decide) rfl (by decide) ?_
                  refine x_aload_n (pc := 93) 0 dX10_count_93 rfl rfl ?_
                  refine x_get (pc := 94) dX10_count_94 lk_X10_7 gm_0 rfl rfl ?_
                  refine x_iconst (pc := 97) (w := 1) dX10_count_97 ic_1 ?_
                  refine x_ialdJ (pc := 98) 1 dX10_count_98 gm_1 (by decide) tn_1 ?_
                  obtain ⟨rfl, rfl⟩ := aw_so h
                  exact x_iret (pc := 99) dX10_count_99
                · have h := aw_neg h c_8
                  refine x_tout (pc := 1) 100 dX10_count_1 (by have z0 := lv_neT c_1 (a := 0) rfl; have z1 := lv_neT c_2 (a := 1) rfl; have z2 := lv_neT c_3 (a := 2) rfl; have z3 := lv_neT c_4 (a := 3) rfl; have z4 := lv_neT c_5 (a := 4) rfl; have z5 := lv_neT c_6 (a := 5) rfl; have z6 := lv_neT c_7 (a := 6) rfl; have z7 := lv_neT c_8 (a := 7) rfl; omega) (by decide) ?_
                  refine x_aload_n (pc := 100) 0 dX10_count_100 rfl rfl ?_
                  refine x_ldc (pc := 101) dX10_count_101 wk_X10_48 ?_
                  refine x_callV (pc := 103) (As := [.int (-1000000001)]) (rest := []) (st' := [.int r]) (w := (some (.int r))) dX10_count_103 cw_X10_49 hd1 gm_0 rfl rfl rfl (Nat.le_of_ble_eq_true rfl) (tm_errs (d - 1) hh_0 (-1000000001) _ _ _ h) rfl ?_
                  exact x_iret (pc := 106) dX10_count_106
def fm_told (p1 : Int32) (M : aw_M) : Option (Int32 × aw_M) :=
  aw_bi (fm_in p1 1 5 M) fun r_2 M_3 => (
  if r_2 = 0 then (
    fm_errs (-1000000001) M_3
  ) else (
    if aw_in p1 6 then none else (
    some ((M_3 5 p1.toNatClampNeg), M_3)
    )
  )
  )
set_option maxRecDepth 20000 in
theorem tm_told {l : Launch} {D : va_G} {cy : Nat → ClassId} {ad : Nat → Nat} {A : Nat → Prop} (d : Nat) (hd : 1 ≤ d) (p1 : Int32) (M : aw_M) (r : Int32) (M1 : aw_M) (h : fm_told p1 M = some (r, M1)) : AX l D cy ad A gm_G yX10_told cX10_told 2 (some .int) d [.ref (ad 0), .int p1] M (some (.int r)) M1 := by
  have hd1 : (d - 1) + 1 ≤ d := by omega
  have hm1 : 1 ≤ d := by omega
  have hh_0 : 0 ≤ d - 1 := by omega
  refine AX.of (own := RX10) (by decide +kernel) rfl (Nat.le_of_ble_eq_true rfl) ?_
  unfold fm_told at h
  show AW l D cy ad A gm_G RX10 cX10_told 2 (some .int) d (some (.int r)) M1 0 [(0, .ref (ad 0)), (1, .int p1)] [] M
  refine x_iload_n (pc := 0) 1 dX10_told_0 rfl rfl ?_
  refine x_iconst (pc := 1) (w := 1) dX10_told_1 ic_1 ?_
  refine x_iconst (pc := 2) (w := 5) dX10_told_2 ic_5 ?_
  obtain ⟨r_2, M_3, e_1, h⟩ := aw_bi_e h
  refine x_callS (pc := 3) (As := [.int p1, .int 1, .int 5]) (rest := []) (st' := [.int r_2]) (w := (some (.int r_2))) dX10_told_3 cw_X10_44 hd1 rfl rfl (Nat.le_of_ble_eq_true rfl) (tm_in (d - 1) hh_0 p1 1 5 _ _ _ e_1) rfl ?_
  refine x_if_eq (pc := 6) 18 dX10_told_6 (by decide) (fun c_4 => ?_) (fun c_4 => ?_)
  · have h := aw_pos h c_4
    refine x_aload_n (pc := 18) 0 dX10_told_18 rfl rfl ?_
    refine x_ldc (pc := 19) dX10_told_19 wk_X10_48 ?_
    refine x_callV (pc := 21) (As := [.int (-1000000001)]) (rest := []) (st' := [.int r]) (w := (some (.int r))) dX10_told_21 cw_X10_49 hd1 gm_0 rfl rfl rfl (Nat.le_of_ble_eq_true rfl) (tm_errs (d - 1) hh_0 (-1000000001) _ _ _ h) rfl ?_
    exact x_iret (pc := 24) dX10_told_24
  · have h := aw_neg h c_4
    refine x_aload_n (pc := 9) 0 dX10_told_9 rfl rfl ?_
    refine x_get (pc := 10) dX10_told_10 lk_X10_22 gm_0 rfl rfl ?_
    refine x_iload_n (pc := 13) 1 dX10_told_13 rfl rfl ?_
    obtain ⟨c_5, h⟩ := aw_ck h
    refine x_iald (pc := 14) dX10_told_14 gm_5 c_5 ?_
    refine x_goto (pc := 15) 24 dX10_told_15 (by decide) ?_
    obtain ⟨rfl, rfl⟩ := aw_so h
    exact x_iret (pc := 24) dX10_told_24
