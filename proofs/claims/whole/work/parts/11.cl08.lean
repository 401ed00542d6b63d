def fc_LB_put (p1 : Int32) (p2 : Int32) (p3 : Int32) (M : aw_M) : Option (Int32 × aw_M) :=
  aw_bi (fc_LB_isSheet p1 M) fun r_2 M_3 => (
  if r_2 = 0 then (
    fc_LB_error 1 M_3
  ) else (
    if aw_in p1 4 then none else (
    aw_bi (fc_Sh_isMissing p1.toNatClampNeg M_3) fun r_7 M_8 => (
    if r_7 = 0 then (
      if p2 < 0 then (
        fc_LB_error 1 M_8
      ) else (
        if p2 < (M_8 (59 + p1.toNatClampNeg) 2) then (
          aw_bv (fc_Sh_write p1.toNatClampNeg p2 p3 M_8) fun M_13 => (
          some (1, M_13)
          )
        ) else (
          fc_LB_error 1 M_8
        )
      )
    ) else (
      fc_LB_error 2 M_8
    )
    )
    )
  )
  )
set_option maxRecDepth 20000 in
theorem tc_LB_put {l : Launch} {D : va_G} {cy : Nat → ClassId} {ad : Nat → Nat} {A : Nat → Prop} (d : Nat) (hd : 1 ≤ d) (p1 : Int32) (p2 : Int32) (p3 : Int32) (M : aw_M) (r : Int32) (M1 : aw_M) (h : fc_LB_put p1 p2 p3 M = some (r, M1)) : AX l D cy ad A gc_G yX9_put cX9_put 5 (some .int) d [.ref (ad 0), .int p1, .int p2, .int p3] M (some (.int r)) M1 := by
  have hd1 : (d - 1) + 1 ≤ d := by omega
  have hm1 : 1 ≤ d := by omega
  have hh_0 : 0 ≤ d - 1 := by omega
  refine AX.of (own := RX9) (by decide +kernel) rfl (Nat.le_of_ble_eq_true rfl) ?_
  unfold fc_LB_put at h
  show AW l D cy ad A gc_G RX9 cX9_put 5 (some .int) d (some (.int r)) M1 0 [(0, .ref (ad 0)), (1, .int p1), (2, .int p2), (3, .int p3)] [] M
  refine x_iload_n (pc := 0) 1 dX9_put_0 rfl rfl ?_
  obtain ⟨r_2, M_3, e_1, h⟩ := aw_bi_e h
  refine x_callS (pc := 1) (As := [.int p1]) (rest := []) (st' := [.int r_2]) (w := (some (.int r_2))) dX9_put_1 cw_X9_243 hd1 rfl rfl (Nat.le_of_ble_eq_true rfl) (tc_LB_isSheet (d - 1) hh_0 p1 _ _ _ e_1) rfl ?_
  refine x_if_ne (pc := 4) 13 dX9_put_4 (by decide) (fun c_4 => ?_) (fun c_4 => ?_)
  · have h := aw_neg h c_4
    refine x_aload_n (pc := 13) 0 dX9_put_13 rfl rfl ?_
    refine x_get (pc := 14) dX9_put_14 lk_X9_72 gc_0 rfl rfl ?_
    refine x_iload_n (pc := 17) 1 dX9_put_17 rfl rfl ?_
    obtain ⟨c_5, h⟩ := aw_ck h
    refine x_aald (pc := 18) dX9_put_18 gc_58 (fun _ => rfl) c_5 (ga_58 (aw_lt c_5)) ?_
    refine x_astore (pc := 19) 4 [(4, .ref (ad (59 + p1.toNatClampNeg))), (0, .ref (ad 0)), (1, .int p1), (2, .int p2), (3, .int p3)] dX9_put_19 (by decide) rfl ?_
    refine x_aload (pc := 21) dX9_put_21 rfl ?_
    obtain ⟨r_7, M_8, e_6, h⟩ := aw_bi_e h
    refine x_callV (pc := 23) (As := []) (rest := []) (st' := [.int r_7]) (w := (some (.int r_7))) dX9_put_23 cw_X9_309 hd1 (gc_sheet (i := p1.toNatClampNeg) (aw_lt c_5)) rfl rfl rfl (Nat.le_of_ble_eq_true rfl) (tc_Sh_isMissing (d - 1) hh_0 p1.toNatClampNeg (aw_lt c_5) _ _ _ e_6) rfl ?_
    refine x_if_eq (pc := 26) 35 dX9_put_26 (by decide) (fun c_9 => ?_) (fun c_9 => ?_)
    · have h := aw_pos h c_9
      refine x_iload_n (pc := 35) 2 dX9_put_35 rfl rfl ?_
      refine x_if_lt (pc := 36) 48 dX9_put_36 (by decide) (fun c_10 => ?_) (fun c_10 => ?_)
      · have h := aw_pos h c_10
        refine x_aload_n (pc := 48) 0 dX9_put_48 rfl rfl ?_
        refine x_iconst (pc := 49) (w := 1) dX9_put_49 ic_1 ?_
        refine x_callV (pc := 50) (As := [.int 1]) (rest := []) (st' := [.int r]) (w := (some (.int r))) dX9_put_50 cw_X9_84 hd1 gc_0 rfl rfl rfl (Nat.le_of_ble_eq_true rfl) (tc_LB_error (d - 1) hh_0 1 _ _ _ h) rfl ?_
        exact x_iret (pc := 53) dX9_put_53
      · have h := aw_neg h c_10
        refine x_iload_n (pc := 39) 2 dX9_put_39 rfl rfl ?_
        refine x_aload (pc := 40) dX9_put_40 rfl ?_
        refine x_get (pc := 42) dX9_put_42 lk_X9_313 (gc_sheet (i := p1.toNatClampNeg) (aw_lt c_5)) rfl rfl ?_
        refine x_icmp_lt (pc := 45) 54 dX9_put_45 (by decide) (fun c_11 => ?_) (fun c_11 => ?_)
        · have h := aw_pos h c_11
          refine x_aload (pc := 54) dX9_put_54 rfl ?_
          refine x_iload_n (pc := 56) 2 dX9_put_56 rfl rfl ?_
          refine x_iload_n (pc := 57) 3 dX9_put_57 rfl rfl ?_
          obtain ⟨M_13, e_12, h⟩ := aw_bv_e h
          refine x_callV (pc := 58) (As := [.int p2, .int p3]) (rest := []) (st' := []) (w := none) dX9_put_58 cw_X9_314 hd1 (gc_sheet (i := p1.toNatClampNeg) (aw_lt c_5)) rfl rfl rfl (Nat.le_of_ble_eq_true rfl) (tc_Sh_write (d - 1) hh_0 p1.toNatClampNeg (aw_lt c_5) p2 p3 _  _ e_12) rfl ?_
          refine x_iconst (pc := 61) (w := 1) dX9_put_61 ic_1 ?_
          obtain ⟨rfl, rfl⟩ := aw_so h
          exact x_iret (pc := 62) dX9_put_62
        · have h := aw_neg h c_11
          refine x_aload_n (pc := 48) 0 dX9_put_48 rfl rfl ?_
          refine x_iconst (pc := 49) (w := 1) dX9_put_49 ic_1 ?_
          refine x_callV (pc := 50) (As := [.int 1]) (rest := []) (st' := [.int r]) (w := (some (.int r))) dX9_put_50 cw_X9_84 hd1 gc_0 rfl rfl rfl (Nat.le_of_ble_eq_true rfl) (tc_LB_error (d - 1) hh_0 1 _ _ _ h) rfl ?_
          exact x_iret (pc := 53) dX9_put_53
    · have h := aw_neg h c_9
      refine x_aload_n (pc := 29) 0 dX9_put_29 rfl rfl ?_
      refine x_iconst (pc := 30) (w := 2) dX9_put_30 ic_2 ?_
      refine x_callV (pc := 31) (As := [.int 2]) (rest := []) (st' := [.int r]) (w := (some (.int r))) dX9_put_31 cw_X9_84 hd1 gc_0 rfl rfl rfl (Nat.le_of_ble_eq_true rfl) (tc_LB_error (d - 1) hh_0 2 _ _ _ h) rfl ?_
      exact x_iret (pc := 34) dX9_put_34
  · have h := aw_pos h c_4
    refine x_aload_n (pc := 7) 0 dX9_put_7 rfl rfl ?_
    refine x_iconst (pc := 8) (w := 1) dX9_put_8 ic_1 ?_
    refine x_callV (pc := 9) (As := [.int 1]) (rest := []) (st' := [.int r]) (w := (some (.int r))) dX9_put_9 cw_X9_84 hd1 gc_0 rfl rfl rfl (Nat.le_of_ble_eq_true rfl) (tc_LB_error (d - 1) hh_0 1 _ _ _ h) rfl ?_
    exact x_iret (pc := 12) dX9_put_12
def fc_LB_move (p1 : Int32) (p2 : Int32) (p3 : Int32) (p4 : Int32) (p5 : Int32) (M : aw_M) : Option (Int32 × aw_M) :=
  aw_bi (fc_LB_isSheet p1 M) fun r_2 M_3 => (
  if r_2 = 0 then (
    fc_LB_error 1 M_3
  ) else (
    aw_bi (fc_LB_isSheet p3 M_3) fun r_6 M_7 => (
    if r_6 = 0 then (
      fc_LB_error 1 M_7
    ) else (
      if aw_in p1 4 then none else (
      if aw_in p3 4 then none else (
      aw_bi (fc_Sh_isMissing p1.toNatClampNeg M_7) fun r_12 M_13 => (
      if r_12 = 0 then (
        aw_bi (fc_Sh_isMissing p3.toNatClampNeg M_13) fun r_16 M_17 => (
        if r_16 = 0 then (
          if (M_17 (59 + p1.toNatClampNeg) 1) = (M_17 (59 + p3.toNatClampNeg) 1) then (
            aw_bi (fc_Sh_hasRun p1.toNatClampNeg p2 p5 M_17) fun r_21 M_22 => (
            if r_21 = 0 then (
              fc_LB_error 1 M_22
            ) else (
              aw_bi (fc_Sh_hasRun p3.toNatClampNeg p4 p5 M_22) fun r_25 M_26 => (
              if r_25 = 0 then (
                fc_LB_error 1 M_26
              ) else (
                if ¬ (¬ p2 < 0 ∧ ¬ p4 < 0 ∧ ¬ p5 < 0 ∧ p2.toNatClampNeg + p5.toNatClampNeg ≤ 40 ∧ p4.toNatClampNeg + p5.toNatClampNeg ≤ 40) then none else (
                some (p5, (aw_un M_26 (63 + p3.toNatClampNeg) (va_cpy (M_26 (63 + p1.toNatClampNeg)) (M_26 (63 + p3.toNatClampNeg)) p2.toNatClampNeg p4.toNatClampNeg p5.toNatClampNeg)))
                )
              )
              )
            )
            )
          ) else (
            fc_LB_error 5 M_17
          )
        ) else (
          fc_LB_error 2 M_17
        )
        )
      ) else (
        fc_LB_error 2 M_13
      )
      )
      )
      )
    )
    )
  )
  )
set_option maxRecDepth 20000 in
theorem tc_LB_move {l : Launch} {D : va_G} {cy : Nat → ClassId} {ad : Nat → Nat} {A : Nat → Prop} (d : Nat) (hd : 1 ≤ d) (p1 : Int32) (p2 : Int32) (p3 : Int32) (p4 : Int32) (p5 : Int32) (M : aw_M) (r : Int32) (M1 : aw_M) (h : fc_LB_move p1 p2 p3 p4 p5 M = some (r, M1)) : AX l D cy ad A gc_G yX9_move cX9_move 8 (some .int) d [.ref (ad 0), .int p1, .int p2, .int p3, .int p4, .int p5] M (some (.int r)) M1 := by
  have hd1 : (d - 1) + 1 ≤ d := by omega
  have hm1 : 1 ≤ d := by omega
  have hh_0 : 0 ≤ d - 1 := by omega
  refine AX.of (own := RX9) (by decide +kernel) rfl (Nat.le_of_ble_eq_true rfl) ?_
  unfold fc_LB_move at h
  show AW l D cy ad A gc_G RX9 cX9_move 8 (some .int) d (some (.int r)) M1 0 [(0, .ref (ad 0)), (1, .int p1), (2, .int p2), (3, .int p3), (4, .int p4), (5, .int p5)] [] M
  refine x_iload_n (pc := 0) 1 dX9_move_0 rfl rfl ?_
  obtain ⟨r_2, M_3, e_1, h⟩ := aw_bi_e h
  refine x_callS (pc := 1) (As := [.int p1]) (rest := []) (st' := [.int r_2]) (w := (some (.int r_2))) dX9_move_1 cw_X9_243 hd1 rfl rfl (Nat.le_of_ble_eq_true rfl) (tc_LB_isSheet (d - 1) hh_0 p1 _ _ _ e_1) rfl ?_
  refine x_if_eq (pc := 4) 14 dX9_move_4 (by decide) (fun c_4 => ?_) (fun c_4 => ?_)
  · have h := aw_pos h c_4
    refine x_aload_n (pc := 14) 0 dX9_move_14 rfl rfl ?_
    refine x_iconst (pc := 15) (w := 1) dX9_move_15 ic_1 ?_
    refine x_callV (pc := 16) (As := [.int 1]) (rest := []) (st' := [.int r]) (w := (some (.int r))) dX9_move_16 cw_X9_84 hd1 gc_0 rfl rfl rfl (Nat.le_of_ble_eq_true rfl) (tc_LB_error (d - 1) hh_0 1 _ _ _ h) rfl ?_
    exact x_iret (pc := 19) dX9_move_19
  · have h := aw_neg h c_4
    refine x_iload_n (pc := 7) 3 dX9_move_7 rfl rfl ?_
    obtain ⟨r_6, M_7, e_5, h⟩ := aw_bi_e h
    refine x_callS (pc := 8) (As := [.int p3]) (rest := []) (st' := [.int r_6]) (w := (some (.int r_6))) dX9_move_8 cw_X9_243 hd1 rfl rfl (Nat.le_of_ble_eq_true rfl) (tc_LB_isSheet (d - 1) hh_0 p3 _ _ _ e_5) rfl ?_
    refine x_if_ne (pc := 11) 20 dX9_move_11 (by decide) (fun c_8 => ?_) (fun c_8 => ?_)
    · have h := aw_neg h c_8
      refine x_aload_n (pc := 20) 0 dX9_move_20 rfl rfl ?_
      refine x_get (pc := 21) dX9_move_21 lk_X9_72 gc_0 rfl rfl ?_
      refine x_iload_n (pc := 24) 1 dX9_move_24 rfl rfl ?_
      obtain ⟨c_9, h⟩ := aw_ck h
      refine x_aald (pc := 25) dX9_move_25 gc_58 (fun _ => rfl) c_9 (ga_58 (aw_lt c_9)) ?_
      refine x_astore (pc := 26) 6 [(6, .ref (ad (59 + p1.toNatClampNeg))), (0, .ref (ad 0)), (1, .int p1), (2, .int p2), (3, .int p3), (4, .int p4), (5, .int p5)] dX9_move_26 (by decide) rfl ?_
      refine x_aload_n (pc := 28) 0 dX9_move_28 rfl rfl ?_
      refine x_get (pc := 29) dX9_move_29 lk_X9_72 gc_0 rfl rfl ?_
      refine x_iload_n (pc := 32) 3 dX9_move_32 rfl rfl ?_
      obtain ⟨c_10, h⟩ := aw_ck h
      refine x_aald (pc := 33) dX9_move_33 gc_58 (fun _ => rfl) c_10 (ga_58 (aw_lt c_10)) ?_
      refine x_astore (pc := 34) 7 [(7, .ref (ad (59 + p3.toNatClampNeg))), (6, .ref (ad (59 + p1.toNatClampNeg))), (0, .ref (ad 0)), (1, .int p1), (2, .int p2), (3, .int p3), (4, .int p4), (5, .int p5)] dX9_move_34 (by decide) rfl ?_
      refine x_aload (pc := 36) dX9_move_36 rfl ?_
      obtain ⟨r_12, M_13, e_11, h⟩ := aw_bi_e h
      refine x_callV (pc := 38) (As := []) (rest := []) (st' := [.int r_12]) (w := (some (.int r_12))) dX9_move_38 cw_X9_309 hd1 (gc_sheet (i := p1.toNatClampNeg) (aw_lt c_9)) rfl rfl rfl (Nat.le_of_ble_eq_true rfl) (tc_Sh_isMissing (d - 1) hh_0 p1.toNatClampNeg (aw_lt c_9) _ _ _ e_11) rfl ?_
      refine x_if_ne (pc := 41) 52 dX9_move_41 (by decide) (fun c_14 => ?_) (fun c_14 => ?_)
      · have h := aw_neg h c_14
        refine x_aload_n (pc := 52) 0 dX9_move_52 rfl rfl ?_
        refine x_iconst (pc := 53) (w := 2) dX9_move_53 ic_2 ?_
        refine x_callV (pc := 54) (As := [.int 2]) (rest := []) (st' := [.int r]) (w := (some (.int r))) dX9_move_54 cw_X9_84 hd1 gc_0 rfl rfl rfl (Nat.le_of_ble_eq_true rfl) (tc_LB_error (d - 1) hh_0 2 _ _ _ h) rfl ?_
        exact x_iret (pc := 57) dX9_move_57
      · have h := aw_pos h c_14
        refine x_aload (pc := 44) dX9_move_44 rfl ?_
        obtain ⟨r_16, M_17, e_15, h⟩ := aw_bi_e h
        refine x_callV (pc := 46) (As := []) (rest := []) (st' := [.int r_16]) (w := (some (.int r_16))) dX9_move_46 cw_X9_309 hd1 (gc_sheet (i := p3.toNatClampNeg) (aw_lt c_10)) rfl rfl rfl (Nat.le_of_ble_eq_true rfl) (tc_Sh_isMissing (d - 1) hh_0 p3.toNatClampNeg (aw_lt c_10) _ _ _ e_15) rfl ?_
        refine x_if_eq (pc := 49) 58 dX9_move_49 (by decide) (fun c_18 => ?_) (fun c_18 => ?_)
        · have h := aw_pos h c_18
          refine x_aload (pc := 58) dX9_move_58 rfl ?_
          refine x_get (pc := 60) dX9_move_60 lk_X9_317 (gc_sheet (i := p1.toNatClampNeg) (aw_lt c_9)) rfl rfl ?_
          refine x_aload (pc := 63) dX9_move_63 rfl ?_
          refine x_get (pc := 65) dX9_move_65 lk_X9_317 (gc_sheet (i := p3.toNatClampNeg) (aw_lt c_10)) rfl rfl ?_
          refine x_icmp_eq (pc := 68) 77 dX9_move_68 (by decide) (fun c_19 => ?_) (fun c_19 => ?_)
          · have h := aw_pos h c_19
            refine x_aload (pc := 77) dX9_move_77 rfl ?_
            refine x_iload_n (pc := 79) 2 dX9_move_79 rfl rfl ?_
            refine x_iload (pc := 80) dX9_move_80 rfl ?_
            obtain ⟨r_21, M_22, e_20, h⟩ := aw_bi_e h
            refine x_callV (pc := 82) (As := [.int p2, .int p5]) (rest := []) (st' := [.int r_21]) (w := (some (.int r_21))) dX9_move_82 cw_X9_320 hd1 (gc_sheet (i := p1.toNatClampNeg) (aw_lt c_9)) rfl rfl rfl (Nat.le_of_ble_eq_true rfl) (tc_Sh_hasRun (d - 1) hh_0 p1.toNatClampNeg (aw_lt c_9) p2 p5 _ _ _ e_20) rfl ?_
            refine x_if_eq (pc := 85) 100 dX9_move_85 (by decide) (fun c_23 => ?_) (fun c_23 => ?_)
            · have h := aw_pos h c_23
              refine x_aload_n (pc := 100) 0 dX9_move_100 rfl rfl ?_
              refine x_iconst (pc := 101) (w := 1) dX9_move_101 ic_1 ?_
              refine x_callV (pc := 102) (As := [.int 1]) (rest := []) (st' := [.int r]) (w := (some (.int r))) dX9_move_102 cw_X9_84 hd1 gc_0 rfl rfl rfl (Nat.le_of_ble_eq_true rfl) (tc_LB_error (d - 1) hh_0 1 _ _ _ h) rfl ?_
              exact x_iret (pc := 105) dX9_move_105
            · have h := aw_neg h c_23
              refine x_aload (pc := 88) dX9_move_88 rfl ?_
              refine x_iload (pc := 90) dX9_move_90 rfl ?_
              refine x_iload (pc := 92) dX9_move_92 rfl ?_
              obtain ⟨r_25, M_26, e_24, h⟩ := aw_bi_e h
              refine x_callV (pc := 94) (As := [.int p4, .int p5]) (rest := []) (st' := [.int r_25]) (w := (some (.int r_25))) dX9_move_94 cw_X9_320 hd1 (gc_sheet (i := p3.toNatClampNeg) (aw_lt c_10)) rfl rfl rfl (Nat.le_of_ble_eq_true rfl) (tc_Sh_hasRun (d - 1) hh_0 p3.toNatClampNeg (aw_lt c_10) p4 p5 _ _ _ e_24) rfl ?_
              refine x_if_ne (pc := 97) 106 dX9_move_97 (by decide) (fun c_27 => ?_) (fun c_27 => ?_)
              · have h := aw_neg h c_27
                refine x_aload (pc := 106) dX9_move_106 rfl ?_
                refine x_get (pc := 108) dX9_move_108 lk_X9_324 (gc_sheet (i := p1.toNatClampNeg) (aw_lt c_9)) rfl rfl ?_
                refine x_iload_n (pc := 111) 2 dX9_move_111 rfl rfl ?_
                refine x_aload (pc := 112) dX9_move_112 rfl ?_
                refine x_get (pc := 114) dX9_move_114 lk_X9_324 (gc_sheet (i := p3.toNatClampNeg) (aw_lt c_10)) rfl rfl ?_
                refine x_iload (pc := 117) dX9_move_117 rfl ?_
                refine x_iload (pc := 119) dX9_move_119 rfl ?_
                obtain ⟨c_28, h⟩ := aw_ck h
                obtain ⟨c_28_1, c_28_2, c_28_3, c_28_4, c_28_5⟩ := Classical.not_not.mp c_28
                refine x_copyi (pc := 121) dX9_move_121 (tb_in (i := 902) (by decide +kernel) rfl) hm1 (Nat.le_of_ble_eq_true rfl) (gc_nums (i := p1.toNatClampNeg) (aw_lt c_9)) (gc_nums (i := p3.toNatClampNeg) (aw_lt c_10)) c_28_1 c_28_2 c_28_3 c_28_4 c_28_5 ?_
                refine x_iload (pc := 124) dX9_move_124 rfl ?_
                obtain ⟨rfl, rfl⟩ := aw_so h
                exact x_iret (pc := 126) dX9_move_126
              · have h := aw_pos h c_27
                refine x_aload_n (pc := 100) 0 dX9_move_100 rfl rfl ?_
                refine x_iconst (pc := 101) (w := 1) dX9_move_101 ic_1 ?_
                refine x_callV (pc := 102) (As := [.int 1]) (rest := []) (st' := [.int r]) (w := (some (.int r))) dX9_move_102 cw_X9_84 hd1 gc_0 rfl rfl rfl (Nat.le_of_ble_eq_true rfl) (tc_LB_error (d - 1) hh_0 1 _ _ _ h) rfl ?_
                exact x_iret (pc := 105) dX9_move_105
          · have h := aw_neg h c_19
            refine x_aload_n (pc := 71) 0 dX9_move_71 rfl rfl ?_
            refine x_iconst (pc := 72) (w := 5) dX9_move_72 ic_5 ?_
            refine x_callV (pc := 73) (As := [.int 5]) (rest := []) (st' := [.int r]) (w := (some (.int r))) dX9_move_73 cw_X9_84 hd1 gc_0 rfl rfl rfl (Nat.le_of_ble_eq_true rfl) (tc_LB_error (d - 1) hh_0 5 _ _ _ h) rfl ?_
            exact x_iret (pc := 76) dX9_move_76
        · have h := aw_neg h c_18
          refine x_aload_n (pc := 52) 0 dX9_move_52 rfl rfl ?_
          refine x_iconst (pc := 53) (w := 2) dX9_move_53 ic_2 ?_
          refine x_callV (pc := 54) (As := [.int 2]) (rest := []) (st' := [.int r]) (w := (some (.int r))) dX9_move_54 cw_X9_84 hd1 gc_0 rfl rfl rfl (Nat.le_of_ble_eq_true rfl) (tc_LB_error (d - 1) hh_0 2 _ _ _ h) rfl ?_
          exact x_iret (pc := 57) dX9_move_57
    · have h := aw_pos h c_8
      refine x_aload_n (pc := 14) 0 dX9_move_14 rfl rfl ?_
      refine x_iconst (pc := 15) (w := 1) dX9_move_15 ic_1 ?_
      refine x_callV (pc := 16) (As := [.int 1]) (rest := []) (st' := [.int r]) (w := (some (.int r))) dX9_move_16 cw_X9_84 hd1 gc_0 rfl rfl rfl (Nat.le_of_ble_eq_true rfl) (tc_LB_error (d - 1) hh_0 1 _ _ _ h) rfl ?_
      exact x_iret (pc := 19) dX9_move_19
def fc_LB_thicks_L51 : Nat → Nat → Int32 → Int32 → aw_M → Option (Int32 × aw_M)
  | 0, _, _, _, _ => none
  | n + 1, i2, p3, p4, M =>
    if p3 ≤ p4 then (
      some (p3, M)
    ) else (
      if aw_in p4 40 then none else (
      aw_bi (fc_LB_isDigit (M (63 + i2) p4.toNatClampNeg) M) fun r_13 M_14 => (
      if r_13 = 0 then (
        some (p4, M_14)
      ) else (
        if aw_in p4 6 then none else (
        if aw_in p4 40 then none else (
        fc_LB_thicks_L51 n i2 p3 (p4 + 1) (aw_u M_14 (14 + p4.toNatClampNeg) 2 (M_14 (63 + i2) p4.toNatClampNeg))
        )
        )
      )
      )
      )
    )
theorem fc_LB_thicks_L51_s (n : Nat) (i2 : Nat) (p3 : Int32) (p4 : Int32) (M : aw_M) : fc_LB_thicks_L51 (n + 1) i2 p3 p4 M = (
    if p3 ≤ p4 then (
      some (p3, M)
    ) else (
      if aw_in p4 40 then none else (
      aw_bi (fc_LB_isDigit (M (63 + i2) p4.toNatClampNeg) M) fun r_13 M_14 => (
      if r_13 = 0 then (
        some (p4, M_14)
      ) else (
        if aw_in p4 6 then none else (
        if aw_in p4 40 then none else (
        fc_LB_thicks_L51 n i2 p3 (p4 + 1) (aw_u M_14 (14 + p4.toNatClampNeg) 2 (M_14 (63 + i2) p4.toNatClampNeg))
        )
        )
      )
      )
      )
    )
    ) := rfl
set_option maxRecDepth 20000 in
theorem tc_LB_thicks_L51 {l : Launch} {D : va_G} {cy : Nat → ClassId} {ad : Nat → Nat} {A : Nat → Prop} (d : Nat) (hd : 1 ≤ d) : ∀ (n : Nat) (i2 : Nat) (h2 : i2 < 4) (p3 : Int32) (p4 : Int32) (M : aw_M) (r : Int32) (M1 : aw_M), fc_LB_thicks_L51 n i2 p3 p4 M = some (r, M1) → AW l D cy ad A gc_G RX9 cX9_thicks 5 (some .int) d (some (.int r)) M1 51 [(0, .ref (ad 0)), (2, .ref (ad (59 + i2))), (3, .int p3), (4, .int p4)] [] M := by
  have hd1 : (d - 1) + 1 ≤ d := by omega
  have hm1 : 1 ≤ d := by omega
  have hh_0 : 0 ≤ d - 1 := by omega
  intro n
  induction n with
  | zero => intro i2 h2 p3 p4 M r M1 h; cases h
  | succ n ih =>
    intro i2 h2 p3 p4 M r M1 h
    rw [fc_LB_thicks_L51_s] at h
    refine x_iload (pc := 51) dX9_thicks_51 rfl ?_
    refine x_iload_n (pc := 53) 3 dX9_thicks_53 rfl rfl ?_
    refine x_icmp_ge (pc := 54) 99 dX9_thicks_54 (by decide) (fun c_10 => ?_) (fun c_10 => ?_)
    · have h := aw_pos h c_10
      refine x_iload_n (pc := 99) 3 dX9_thicks_99 rfl rfl ?_
      obtain ⟨rfl, rfl⟩ := aw_so h
      exact x_iret (pc := 100) dX9_thicks_100
    · have h := aw_neg h c_10
      refine x_aload_n (pc := 57) 2 dX9_thicks_57 rfl rfl ?_
      refine x_get (pc := 58) dX9_thicks_58 lk_X9_324 (gc_sheet (i := i2) h2) rfl rfl ?_
      refine x_iload (pc := 61) dX9_thicks_61 rfl ?_
      obtain ⟨c_11, h⟩ := aw_ck h
      refine x_iald (pc := 63) dX9_thicks_63 (gc_nums (i := i2) h2) c_11 ?_
      obtain ⟨r_13, M_14, e_12, h⟩ := aw_bi_e h
      refine x_callS (pc := 64) (As := [.int (M (63 + i2) p4.toNatClampNeg)]) (rest := []) (st' := [.int r_13]) (w := (some (.int r_13))) dX9_thicks_64 cw_X9_101 hd1 rfl rfl (Nat.le_of_ble_eq_true rfl) (tc_LB_isDigit (d - 1) hh_0 (M (63 + i2) p4.toNatClampNeg) _ _ _ e_12) rfl ?_
      refine x_if_ne (pc := 67) 73 dX9_thicks_67 (by decide) (fun c_15 => ?_) (fun c_15 => ?_)
      · have h := aw_neg h c_15
        refine x_aload_n (pc := 73) 0 dX9_thicks_73 rfl rfl ?_
        refine x_get (pc := 74) dX9_thicks_74 lk_X9_10 gc_0 rfl rfl ?_
        refine x_get (pc := 77) dX9_thicks_77 lk_X9_36 gc_1 rfl rfl ?_
        refine x_iload (pc := 80) dX9_thicks_80 rfl ?_
        obtain ⟨c_16, h⟩ := aw_ck h
        refine x_aald (pc := 82) dX9_thicks_82 gc_6 (fun _ => rfl) c_16 (ga_6 (aw_lt c_16)) ?_
        refine x_aload_n (pc := 83) 2 dX9_thicks_83 rfl rfl ?_
        refine x_get (pc := 84) dX9_thicks_84 lk_X9_324 (gc_sheet (i := i2) h2) rfl rfl ?_
        refine x_iload (pc := 87) dX9_thicks_87 rfl ?_
        obtain ⟨c_17, h⟩ := aw_ck h
        refine x_iald (pc := 89) dX9_thicks_89 (gc_nums (i := i2) h2) c_17 ?_
        refine x_put (pc := 90) (x := (M_14 (63 + i2) p4.toNatClampNeg)) dX9_thicks_90 lk_X9_121 lp_X1_2 (gc_cloth (i := p4.toNatClampNeg) (Nat.lt_of_lt_of_le (aw_lt c_16) (by decide))) rfl rfl rfl rfl ?_
        refine x_iinc (pc := 93) (p4 + 1) [(4, .int (p4 + 1)), (0, .ref (ad 0)), (2, .ref (ad (59 + i2))), (3, .int p3)] dX9_thicks_93 rfl (congrArg (fun z => p4 + z) ic_1) (by decide) rfl ?_
        refine x_goto (pc := 96) 51 dX9_thicks_96 (by decide) ?_
        refine x_lv [1, 2, 3, 0] [(0, .ref (ad 0)), (2, .ref (ad (59 + i2))), (3, .int p3), (4, .int (p4 + 1))] rfl ?_
        exact ih i2 h2 p3 (p4 + 1) _ _ _ h
      · have h := aw_pos h c_15
        refine x_iload (pc := 70) dX9_thicks_70 rfl ?_
        obtain ⟨rfl, rfl⟩ := aw_so h
        exact x_iret (pc := 72) dX9_thicks_72
def fc_LB_thicks (p1 : Int32) (M : aw_M) : Option (Int32 × aw_M) :=
  aw_bi (fc_LB_isSheet p1 M) fun r_2 M_3 => (
  if r_2 = 0 then (
    fc_LB_error 1 M_3
  ) else (
    if aw_in p1 4 then none else (
    aw_bi (fc_Sh_isMissing p1.toNatClampNeg M_3) fun r_7 M_8 => (
    if r_7 = 0 then (
      fc_LB_thicks_L51  2000 p1.toNatClampNeg (aw_min (M_8 (59 + p1.toNatClampNeg) 2) (M_8 1 5)) 0 M_8
    ) else (
      fc_LB_error 2 M_8
    )
    )
    )
  )
  )
set_option maxRecDepth 20000 in
theorem tc_LB_thicks {l : Launch} {D : va_G} {cy : Nat → ClassId} {ad : Nat → Nat} {A : Nat → Prop} (d : Nat) (hd : 1 ≤ d) (p1 : Int32) (M : aw_M) (r : Int32) (M1 : aw_M) (h : fc_LB_thicks p1 M = some (r, M1)) : AX l D cy ad A gc_G yX9_thicks cX9_thicks 5 (some .int) d [.ref (ad 0), .int p1] M (some (.int r)) M1 := by
  have hd1 : (d - 1) + 1 ≤ d := by omega
  have hm1 : 1 ≤ d := by omega
  have hh_0 : 0 ≤ d - 1 := by omega
  refine AX.of (own := RX9) (by decide +kernel) rfl (Nat.le_of_ble_eq_true rfl) ?_
  unfold fc_LB_thicks at h
  show AW l D cy ad A gc_G RX9 cX9_thicks 5 (some .int) d (some (.int r)) M1 0 [(0, .ref (ad 0)), (1, .int p1)] [] M
  refine x_iload_n (pc := 0) 1 dX9_thicks_0 rfl rfl ?_
  obtain ⟨r_2, M_3, e_1, h⟩ := aw_bi_e h
  refine x_callS (pc := 1) (As := [.int p1]) (rest := []) (st' := [.int r_2]) (w := (some (.int r_2))) dX9_thicks_1 cw_X9_243 hd1 rfl rfl (Nat.le_of_ble_eq_true rfl) (tc_LB_isSheet (d - 1) hh_0 p1 _ _ _ e_1) rfl ?_
  refine x_if_ne (pc := 4) 13 dX9_thicks_4 (by decide) (fun c_4 => ?_) (fun c_4 => ?_)
  · have h := aw_neg h c_4
    refine x_aload_n (pc := 13) 0 dX9_thicks_13 rfl rfl ?_
    refine x_get (pc := 14) dX9_thicks_14 lk_X9_72 gc_0 rfl rfl ?_
    refine x_iload_n (pc := 17) 1 dX9_thicks_17 rfl rfl ?_
    obtain ⟨c_5, h⟩ := aw_ck h
    refine x_aald (pc := 18) dX9_thicks_18 gc_58 (fun _ => rfl) c_5 (ga_58 (aw_lt c_5)) ?_
    refine x_astore_n (pc := 19) 2 [(2, .ref (ad (59 + p1.toNatClampNeg))), (0, .ref (ad 0)), (1, .int p1)] dX9_thicks_19 rfl (by decide) rfl ?_
    refine x_aload_n (pc := 20) 2 dX9_thicks_20 rfl rfl ?_
    obtain ⟨r_7, M_8, e_6, h⟩ := aw_bi_e h
    refine x_callV (pc := 21) (As := []) (rest := []) (st' := [.int r_7]) (w := (some (.int r_7))) dX9_thicks_21 cw_X9_309 hd1 (gc_sheet (i := p1.toNatClampNeg) (aw_lt c_5)) rfl rfl rfl (Nat.le_of_ble_eq_true rfl) (tc_Sh_isMissing (d - 1) hh_0 p1.toNatClampNeg (aw_lt c_5) _ _ _ e_6) rfl ?_
    refine x_if_eq (pc := 24) 33 dX9_thicks_24 (by decide) (fun c_9 => ?_) (fun c_9 => ?_)
    · have h := aw_pos h c_9
      refine x_aload_n (pc := 33) 2 dX9_thicks_33 rfl rfl ?_
      refine x_get (pc := 34) dX9_thicks_34 lk_X9_313 (gc_sheet (i := p1.toNatClampNeg) (aw_lt c_5)) rfl rfl ?_
      refine x_aload_n (pc := 37) 0 dX9_thicks_37 rfl rfl ?_
      refine x_get (pc := 38) dX9_thicks_38 lk_X9_10 gc_0 rfl rfl ?_
      refine x_get (pc := 41) dX9_thicks_41 lk_X9_104 gc_1 rfl rfl ?_
      refine x_min (pc := 44) dX9_thicks_44 (tb_in (i := 467) (by decide +kernel) rfl) hm1 (Nat.le_of_ble_eq_true rfl) ?_
      refine x_istore_n (pc := 47) 3 [(3, .int (aw_min (M_8 (59 + p1.toNatClampNeg) 2) (M_8 1 5))), (2, .ref (ad (59 + p1.toNatClampNeg))), (0, .ref (ad 0)), (1, .int p1)] dX9_thicks_47 rfl (by decide) rfl ?_
      refine x_iconst (pc := 48) (w := 0) dX9_thicks_48 ic_0 ?_
      refine x_istore (pc := 49) 4 [(4, .int 0), (3, .int (aw_min (M_8 (59 + p1.toNatClampNeg) 2) (M_8 1 5))), (2, .ref (ad (59 + p1.toNatClampNeg))), (0, .ref (ad 0)), (1, .int p1)] dX9_thicks_49 (by decide) rfl ?_
      refine x_lv [3, 2, 1, 0] [(0, .ref (ad 0)), (2, .ref (ad (59 + p1.toNatClampNeg))), (3, .int (aw_min (M_8 (59 + p1.toNatClampNeg) 2) (M_8 1 5))), (4, .int 0)] rfl ?_
      exact tc_LB_thicks_L51 d hd  2000 p1.toNatClampNeg (aw_lt c_5) (aw_min (M_8 (59 + p1.toNatClampNeg) 2) (M_8 1 5)) 0 _ _ _ h
    · have h := aw_neg h c_9
      refine x_aload_n (pc := 27) 0 dX9_thicks_27 rfl rfl ?_
      refine x_iconst (pc := 28) (w := 2) dX9_thicks_28 ic_2 ?_
      refine x_callV (pc := 29) (As := [.int 2]) (rest := []) (st' := [.int r]) (w := (some (.int r))) dX9_thicks_29 cw_X9_84 hd1 gc_0 rfl rfl rfl (Nat.le_of_ble_eq_true rfl) (tc_LB_error (d - 1) hh_0 2 _ _ _ h) rfl ?_
      exact x_iret (pc := 32) dX9_thicks_32
  · have h := aw_pos h c_4
    refine x_aload_n (pc := 7) 0 dX9_thicks_7 rfl rfl ?_
    refine x_iconst (pc := 8) (w := 1) dX9_thicks_8 ic_1 ?_
    refine x_callV (pc := 9) (As := [.int 1]) (rest := []) (st' := [.int r]) (w := (some (.int r))) dX9_thicks_9 cw_X9_84 hd1 gc_0 rfl rfl rfl (Nat.le_of_ble_eq_true rfl) (tc_LB_error (d - 1) hh_0 1 _ _ _ h) rfl ?_
    exact x_iret (pc := 12) dX9_thicks_12
def fc_LB_judge_L51 : Nat → Nat → Int32 → Int32 → aw_M → Option (Int32 × aw_M)
  | 0, _, _, _, _ => none
  | n + 1, i2, p3, p4, M =>
    if p3 ≤ p4 then (
      if (M (59 + i2) 2) = (M 1 5) then (
        some ((-1), M)
      ) else (
        some (p3, M)
      )
    ) else (
      aw_br (fc_LB_gaugeOf p4 M) fun i_13 M_14 => (
      if 6 ≤ i_13 then none else (
      aw_bi (fc_Ga_shows i_13 0 M_14) fun r_17 M_18 => (
      if aw_in p4 40 then none else (
      if r_17 = (M_18 (63 + i2) p4.toNatClampNeg) then (
        fc_LB_judge_L51 n i2 p3 (p4 + 1) M_18
      ) else (
        some (p4, M_18)
      )
      )
      )
      )
      )
    )
theorem fc_LB_judge_L51_s (n : Nat) (i2 : Nat) (p3 : Int32) (p4 : Int32) (M : aw_M) : fc_LB_judge_L51 (n + 1) i2 p3 p4 M = (
    if p3 ≤ p4 then (
      if (M (59 + i2) 2) = (M 1 5) then (
        some ((-1), M)
      ) else (
        some (p3, M)
      )
    ) else (
      aw_br (fc_LB_gaugeOf p4 M) fun i_13 M_14 => (
      if 6 ≤ i_13 then none else (
      aw_bi (fc_Ga_shows i_13 0 M_14) fun r_17 M_18 => (
      if aw_in p4 40 then none else (
      if r_17 = (M_18 (63 + i2) p4.toNatClampNeg) then (
        fc_LB_judge_L51 n i2 p3 (p4 + 1) M_18
      ) else (
        some (p4, M_18)
      )
      )
      )
      )
      )
    )
    ) := rfl
set_option maxRecDepth 20000 in
theorem tc_LB_judge_L51 {l : Launch} {D : va_G} {cy : Nat → ClassId} {ad : Nat → Nat} {A : Nat → Prop} (d : Nat) (hd : 5 ≤ d) : ∀ (n : Nat) (i2 : Nat) (h2 : i2 < 4) (p3 : Int32) (p4 : Int32) (M : aw_M) (r : Int32) (M1 : aw_M), fc_LB_judge_L51 n i2 p3 p4 M = some (r, M1) → AW l D cy ad A gc_G RX9 cX9_judge 5 (some .int) d (some (.int r)) M1 51 [(0, .ref (ad 0)), (2, .ref (ad (59 + i2))), (3, .int p3), (4, .int p4)] [] M := by
  have hd1 : (d - 1) + 1 ≤ d := by omega
  have hm1 : 1 ≤ d := by omega
  have hh_0 : 0 ≤ d - 1 := by omega
  have hh_4 : 4 ≤ d - 1 := by omega
  intro n
  induction n with
  | zero => intro i2 h2 p3 p4 M r M1 h; cases h
  | succ n ih =>
    intro i2 h2 p3 p4 M r M1 h
    rw [fc_LB_judge_L51_s] at h
    refine x_iload (pc := 51) dX9_judge_51 rfl ?_
    refine x_iload_n (pc := 53) 3 dX9_judge_53 rfl rfl ?_
    refine x_icmp_ge (pc := 54) 92 dX9_judge_54 (by decide) (fun c_10 => ?_) (fun c_10 => ?_)
    · have h := aw_pos h c_10
      refine x_aload_n (pc := 92) 2 dX9_judge_92 rfl rfl ?_
      refine x_get (pc := 93) dX9_judge_93 lk_X9_313 (gc_sheet (i := i2) h2) rfl rfl ?_
      refine x_aload_n (pc := 96) 0 dX9_judge_96 rfl rfl ?_
      refine x_get (pc := 97) dX9_judge_97 lk_X9_10 gc_0 rfl rfl ?_
      refine x_get (pc := 100) dX9_judge_100 lk_X9_104 gc_1 rfl rfl ?_
      refine x_icmp_ne (pc := 103) 110 dX9_judge_103 (by decide) (fun c_11 => ?_) (fun c_11 => ?_)
      · have h := aw_neg h c_11
        refine x_iload_n (pc := 110) 3 dX9_judge_110 rfl rfl ?_
        obtain ⟨rfl, rfl⟩ := aw_so h
        exact x_iret (pc := 111) dX9_judge_111
      · have h := aw_pos h c_11
        refine x_iconst (pc := 106) (w := (-1)) dX9_judge_106 ic_m1 ?_
        refine x_goto (pc := 107) 111 dX9_judge_107 (by decide) ?_
        obtain ⟨rfl, rfl⟩ := aw_so h
        exact x_iret (pc := 111) dX9_judge_111
    · have h := aw_neg h c_10
      refine x_aload_n (pc := 57) 0 dX9_judge_57 rfl rfl ?_
      refine x_iload (pc := 58) dX9_judge_58 rfl ?_
      obtain ⟨i_13, M_14, e_12, h⟩ := aw_br_e h
      obtain ⟨c_15, h⟩ := aw_ck h
      refine x_callV (pc := 60) (As := [.int p4]) (rest := []) (st' := [.ref (ad (39 + i_13))]) (w := (some (.ref (ad (39 + i_13))))) dX9_judge_60 cw_X9_130 hd1 gc_0 rfl rfl rfl (Nat.le_of_ble_eq_true rfl) (tc_LB_gaugeOf (d - 1) hh_4 p4 _ _ _ e_12) rfl ?_
      refine x_aload_n (pc := 63) 0 dX9_judge_63 rfl rfl ?_
      refine x_get (pc := 64) dX9_judge_64 lk_X9_10 gc_0 rfl rfl ?_
      refine x_get (pc := 67) dX9_judge_67 lk_X9_87 gc_1 rfl rfl ?_
      obtain ⟨r_17, M_18, e_16, h⟩ := aw_bi_e h
      refine x_callV (pc := 70) (As := [.ref (ad 3)]) (rest := []) (st' := [.int r_17]) (w := (some (.int r_17))) dX9_judge_70 cw_X9_144 hd1 (gc_gauge (i := i_13) (Nat.lt_of_not_le c_15)) rfl rfl rfl (Nat.le_of_ble_eq_true rfl) (tc_Ga_shows (d - 1) hh_4 i_13 (Nat.lt_of_not_le c_15) 0 (by decide) _ _ _ e_16) rfl ?_
      refine x_aload_n (pc := 73) 2 dX9_judge_73 rfl rfl ?_
      refine x_get (pc := 74) dX9_judge_74 lk_X9_324 (gc_sheet (i := i2) h2) rfl rfl ?_
      refine x_iload (pc := 77) dX9_judge_77 rfl ?_
      obtain ⟨c_19, h⟩ := aw_ck h
      refine x_iald (pc := 79) dX9_judge_79 (gc_nums (i := i2) h2) c_19 ?_
      refine x_icmp_eq (pc := 80) 86 dX9_judge_80 (by decide) (fun c_20 => ?_) (fun c_20 => ?_)
      · have h := aw_pos h c_20
        refine x_iinc (pc := 86) (p4 + 1) [(4, .int (p4 + 1)), (0, .ref (ad 0)), (2, .ref (ad (59 + i2))), (3, .int p3)] dX9_judge_86 rfl (congrArg (fun z => p4 + z) ic_1) (by decide) rfl ?_
        refine x_goto (pc := 89) 51 dX9_judge_89 (by decide) ?_
        refine x_lv [1, 2, 3, 0] [(0, .ref (ad 0)), (2, .ref (ad (59 + i2))), (3, .int p3), (4, .int (p4 + 1))] rfl ?_
        exact ih i2 h2 p3 (p4 + 1) _ _ _ h
      · have h := aw_neg h c_20
        refine x_iload (pc := 83) dX9_judge_83 rfl ?_
        obtain ⟨rfl, rfl⟩ := aw_so h
        exact x_iret (pc := 85) dX9_judge_85
def fc_LB_judge (p1 : Int32) (M : aw_M) : Option (Int32 × aw_M) :=
  aw_bi (fc_LB_isSheet p1 M) fun r_2 M_3 => (
  if r_2 = 0 then (
    fc_LB_error 1 M_3
  ) else (
    if aw_in p1 4 then none else (
    aw_bi (fc_Sh_isMissing p1.toNatClampNeg M_3) fun r_7 M_8 => (
    if r_7 = 0 then (
      fc_LB_judge_L51  2000 p1.toNatClampNeg (aw_min (M_8 (59 + p1.toNatClampNeg) 2) (M_8 1 5)) 0 M_8
    ) else (
      fc_LB_error 2 M_8
    )
    )
    )
  )
  )
set_option maxRecDepth 20000 in
theorem tc_LB_judge {l : Launch} {D : va_G} {cy : Nat → ClassId} {ad : Nat → Nat} {A : Nat → Prop} (d : Nat) (hd : 5 ≤ d) (p1 : Int32) (M : aw_M) (r : Int32) (M1 : aw_M) (h : fc_LB_judge p1 M = some (r, M1)) : AX l D cy ad A gc_G yX9_judge cX9_judge 5 (some .int) d [.ref (ad 0), .int p1] M (some (.int r)) M1 := by
  have hd1 : (d - 1) + 1 ≤ d := by omega
  have hm1 : 1 ≤ d := by omega
  have hh_0 : 0 ≤ d - 1 := by omega
  have hh_4 : 4 ≤ d - 1 := by omega
  refine AX.of (own := RX9) (by decide +kernel) rfl (Nat.le_of_ble_eq_true rfl) ?_
  unfold fc_LB_judge at h
  show AW l D cy ad A gc_G RX9 cX9_judge 5 (some .int) d (some (.int r)) M1 0 [(0, .ref (ad 0)), (1, .int p1)] [] M
  refine x_iload_n (pc := 0) 1 dX9_judge_0 rfl rfl ?_
  obtain ⟨r_2, M_3, e_1, h⟩ := aw_bi_e h
  refine x_callS (pc := 1) (As := [.int p1]) (rest := []) (st' := [.int r_2]) (w := (some (.int r_2))) dX9_judge_1 cw_X9_243 hd1 rfl rfl (Nat.le_of_ble_eq_true rfl) (tc_LB_isSheet (d - 1) hh_0 p1 _ _ _ e_1) rfl ?_
  refine x_if_ne (pc := 4) 13 dX9_judge_4 (by decide) (fun c_4 => ?_) (fun c_4 => ?_)
  · have h := aw_neg h c_4
    refine x_aload_n (pc := 13) 0 dX9_judge_13 rfl rfl ?_
    refine x_get (pc := 14) dX9_judge_14 lk_X9_72 gc_0 rfl rfl ?_
    refine x_iload_n (pc := 17) 1 dX9_judge_17 rfl rfl ?_
    obtain ⟨c_5, h⟩ := aw_ck h
    refine x_aald (pc := 18) dX9_judge_18 gc_58 (fun _ => rfl) c_5 (ga_58 (aw_lt c_5)) ?_
    refine x_astore_n (pc := 19) 2 [(2, .ref (ad (59 + p1.toNatClampNeg))), (0, .ref (ad 0)), (1, .int p1)] dX9_judge_19 rfl (by decide) rfl ?_
    refine x_aload_n (pc := 20) 2 dX9_judge_20 rfl rfl ?_
    obtain ⟨r_7, M_8, e_6, h⟩ := aw_bi_e h
    refine x_callV (pc := 21) (As := []) (rest := []) (st' := [.int r_7]) (w := (some (.int r_7))) dX9_judge_21 cw_X9_309 hd1 (gc_sheet (i := p1.toNatClampNeg) (aw_lt c_5)) rfl rfl rfl (Nat.le_of_ble_eq_true rfl) (tc_Sh_isMissing (d - 1) hh_0 p1.toNatClampNeg (aw_lt c_5) _ _ _ e_6) rfl ?_
    refine x_if_eq (pc := 24) 33 dX9_judge_24 (by decide) (fun c_9 => ?_) (fun c_9 => ?_)
    · have h := aw_pos h c_9
      refine x_aload_n (pc := 33) 2 dX9_judge_33 rfl rfl ?_
      refine x_get (pc := 34) dX9_judge_34 lk_X9_313 (gc_sheet (i := p1.toNatClampNeg) (aw_lt c_5)) rfl rfl ?_
      refine x_aload_n (pc := 37) 0 dX9_judge_37 rfl rfl ?_
      refine x_get (pc := 38) dX9_judge_38 lk_X9_10 gc_0 rfl rfl ?_
      refine x_get (pc := 41) dX9_judge_41 lk_X9_104 gc_1 rfl rfl ?_
      refine x_min (pc := 44) dX9_judge_44 (tb_in (i := 467) (by decide +kernel) rfl) hm1 (Nat.le_of_ble_eq_true rfl) ?_
      refine x_istore_n (pc := 47) 3 [(3, .int (aw_min (M_8 (59 + p1.toNatClampNeg) 2) (M_8 1 5))), (2, .ref (ad (59 + p1.toNatClampNeg))), (0, .ref (ad 0)), (1, .int p1)] dX9_judge_47 rfl (by decide) rfl ?_
      refine x_iconst (pc := 48) (w := 0) dX9_judge_48 ic_0 ?_
      refine x_istore (pc := 49) 4 [(4, .int 0), (3, .int (aw_min (M_8 (59 + p1.toNatClampNeg) 2) (M_8 1 5))), (2, .ref (ad (59 + p1.toNatClampNeg))), (0, .ref (ad 0)), (1, .int p1)] dX9_judge_49 (by decide) rfl ?_
      refine x_lv [3, 2, 1, 0] [(0, .ref (ad 0)), (2, .ref (ad (59 + p1.toNatClampNeg))), (3, .int (aw_min (M_8 (59 + p1.toNatClampNeg) 2) (M_8 1 5))), (4, .int 0)] rfl ?_
      exact tc_LB_judge_L51 d hd  2000 p1.toNatClampNeg (aw_lt c_5) (aw_min (M_8 (59 + p1.toNatClampNeg) 2) (M_8 1 5)) 0 _ _ _ h
    · have h := aw_neg h c_9
      refine x_aload_n (pc := 27) 0 dX9_judge_27 rfl rfl ?_
      refine x_iconst (pc := 28) (w := 2) dX9_judge_28 ic_2 ?_
      refine x_callV (pc := 29) (As := [.int 2]) (rest := []) (st' := [.int r]) (w := (some (.int r))) dX9_judge_29 cw_X9_84 hd1 gc_0 rfl rfl rfl (Nat.le_of_ble_eq_true rfl) (tc_LB_error (d - 1) hh_0 2 _ _ _ h) rfl ?_
      exact x_iret (pc := 32) dX9_judge_32
  · have h := aw_pos h c_4
    refine x_aload_n (pc := 7) 0 dX9_judge_7 rfl rfl ?_
    refine x_iconst (pc := 8) (w := 1) dX9_judge_8 ic_1 ?_
    refine x_callV (pc := 9) (As := [.int 1]) (rest := []) (st' := [.int r]) (w := (some (.int r))) dX9_judge_9 cw_X9_84 hd1 gc_0 rfl rfl rfl (Nat.le_of_ble_eq_true rfl) (tc_LB_error (d - 1) hh_0 1 _ _ _ h) rfl ?_
    exact x_iret (pc := 12) dX9_judge_12
def fc_LB_image  (M : aw_M) : Option (Int32 × aw_M) :=
  aw_bv (fc_St_copyFrom_21  M) fun M_2 => (
  some (((aw_u M_2 0 2 ((M_2 0 2) + 1)) 0 2), (aw_u M_2 0 2 ((M_2 0 2) + 1)))
  )
set_option maxRecDepth 20000 in
theorem tc_LB_image {l : Launch} {D : va_G} {cy : Nat → ClassId} {ad : Nat → Nat} {A : Nat → Prop} (d : Nat) (hd : 4 ≤ d)  (M : aw_M) (r : Int32) (M1 : aw_M) (h : fc_LB_image  M = some (r, M1)) : AX l D cy ad A gc_G yX9_image cX9_image 1 (some .int) d [.ref (ad 0)] M (some (.int r)) M1 := by
  have hd1 : (d - 1) + 1 ≤ d := by omega
  have hm1 : 1 ≤ d := by omega
  have hh_3 : 3 ≤ d - 1 := by omega
  refine AX.of (own := RX9) (by decide +kernel) rfl (Nat.le_of_ble_eq_true rfl) ?_
  unfold fc_LB_image at h
  show AW l D cy ad A gc_G RX9 cX9_image 1 (some .int) d (some (.int r)) M1 0 [(0, .ref (ad 0))] [] M
  refine x_aload_n (pc := 0) 0 dX9_image_0 rfl rfl ?_
  refine x_get (pc := 1) dX9_image_1 lk_X9_16 gc_0 rfl rfl ?_
  refine x_aload_n (pc := 4) 0 dX9_image_4 rfl rfl ?_
  refine x_get (pc := 5) dX9_image_5 lk_X9_10 gc_0 rfl rfl ?_
  obtain ⟨M_2, e_1, h⟩ := aw_bv_e h
  refine x_callV (pc := 8) (As := [.ref (ad 1)]) (rest := []) (st' := []) (w := none) dX9_image_8 cw_X9_339 hd1 gc_2 rfl rfl rfl (Nat.le_of_ble_eq_true rfl) (tc_St_copyFrom_21 (d - 1) hh_3  _  _ e_1) rfl ?_
  refine x_aload_n (pc := 11) 0 dX9_image_11 rfl rfl ?_
  refine x_dup (pc := 12) dX9_image_12 rfl ?_
  refine x_get (pc := 13) dX9_image_13 lk_X9_19 gc_0 rfl rfl ?_
  refine x_iconst (pc := 16) (w := 1) dX9_image_16 ic_1 ?_
  refine x_iadd (pc := 17) dX9_image_17 ?_
  refine x_put (pc := 18) (x := ((M_2 0 2) + 1)) dX9_image_18 lk_X9_19 lp_X9_2 gc_0 rfl rfl rfl rfl ?_
  refine x_aload_n (pc := 21) 0 dX9_image_21 rfl rfl ?_
  refine x_get (pc := 22) dX9_image_22 lk_X9_19 gc_0 rfl rfl ?_
  obtain ⟨rfl, rfl⟩ := aw_so h
  exact x_iret (pc := 25) dX9_image_25
def fc_LB_restore  (M : aw_M) : Option (Int32 × aw_M) :=
  if (M 0 2) = 0 then (
    fc_LB_error 2 M
  ) else (
    aw_bv (fc_St_copyFrom_12  M) fun M_3 => (
    some ((M_3 1 8), M_3)
    )
  )
set_option maxRecDepth 20000 in
theorem tc_LB_restore {l : Launch} {D : va_G} {cy : Nat → ClassId} {ad : Nat → Nat} {A : Nat → Prop} (d : Nat) (hd : 4 ≤ d)  (M : aw_M) (r : Int32) (M1 : aw_M) (h : fc_LB_restore  M = some (r, M1)) : AX l D cy ad A gc_G yX9_restore cX9_restore 1 (some .int) d [.ref (ad 0)] M (some (.int r)) M1 := by
  have hd1 : (d - 1) + 1 ≤ d := by omega
  have hm1 : 1 ≤ d := by omega
  have hh_0 : 0 ≤ d - 1 := by omega
  have hh_3 : 3 ≤ d - 1 := by omega
  refine AX.of (own := RX9) (by decide +kernel) rfl (Nat.le_of_ble_eq_true rfl) ?_
  unfold fc_LB_restore at h
  show AW l D cy ad A gc_G RX9 cX9_restore 1 (some .int) d (some (.int r)) M1 0 [(0, .ref (ad 0))] [] M
  refine x_aload_n (pc := 0) 0 dX9_restore_0 rfl rfl ?_
  refine x_get (pc := 1) dX9_restore_1 lk_X9_19 gc_0 rfl rfl ?_
  refine x_if_ne (pc := 4) 13 dX9_restore_4 (by decide) (fun c_1 => ?_) (fun c_1 => ?_)
  · have h := aw_neg h c_1
    refine x_aload_n (pc := 13) 0 dX9_restore_13 rfl rfl ?_
    refine x_get (pc := 14) dX9_restore_14 lk_X9_10 gc_0 rfl rfl ?_
    refine x_aload_n (pc := 17) 0 dX9_restore_17 rfl rfl ?_
    refine x_get (pc := 18) dX9_restore_18 lk_X9_16 gc_0 rfl rfl ?_
    obtain ⟨M_3, e_2, h⟩ := aw_bv_e h
    refine x_callV (pc := 21) (As := [.ref (ad 2)]) (rest := []) (st' := []) (w := none) dX9_restore_21 cw_X9_339 hd1 gc_1 rfl rfl rfl (Nat.le_of_ble_eq_true rfl) (tc_St_copyFrom_12 (d - 1) hh_3  _  _ e_2) rfl ?_
    refine x_aload_n (pc := 24) 0 dX9_restore_24 rfl rfl ?_
    refine x_get (pc := 25) dX9_restore_25 lk_X9_10 gc_0 rfl rfl ?_
    refine x_get (pc := 28) dX9_restore_28 lk_X9_195 gc_1 rfl rfl ?_
    obtain ⟨rfl, rfl⟩ := aw_so h
    exact x_iret (pc := 31) dX9_restore_31
  · have h := aw_pos h c_1
    refine x_aload_n (pc := 7) 0 dX9_restore_7 rfl rfl ?_
    refine x_iconst (pc := 8) (w := 2) dX9_restore_8 ic_2 ?_
    refine x_callV (pc := 9) (As := [.int 2]) (rest := []) (st' := [.int r]) (w := (some (.int r))) dX9_restore_9 cw_X9_84 hd1 gc_0 rfl rfl rfl (Nat.le_of_ble_eq_true rfl) (tc_LB_error (d - 1) hh_0 2 _ _ _ h) rfl ?_
    exact x_iret (pc := 12) dX9_restore_12
def fc_LB_tell (p1 : Int32) (M : aw_M) : Option (Int32 × aw_M) :=
  if (M 1 7) < 20 then (
    if aw_in (M 1 7) 20 then none else (
    some (((aw_u (aw_u M 12 (M 1 7).toNatClampNeg p1) 1 7 (((aw_u M 12 (M 1 7).toNatClampNeg p1) 1 7) + 1)) 1 7), (aw_u (aw_u M 12 (M 1 7).toNatClampNeg p1) 1 7 (((aw_u M 12 (M 1 7).toNatClampNeg p1) 1 7) + 1)))
    )
  ) else (
    fc_LB_error 4 M
  )
set_option maxRecDepth 20000 in
theorem tc_LB_tell {l : Launch} {D : va_G} {cy : Nat → ClassId} {ad : Nat → Nat} {A : Nat → Prop} (d : Nat) (hd : 1 ≤ d) (p1 : Int32) (M : aw_M) (r : Int32) (M1 : aw_M) (h : fc_LB_tell p1 M = some (r, M1)) : AX l D cy ad A gc_G yX9_tell cX9_tell 2 (some .int) d [.ref (ad 0), .int p1] M (some (.int r)) M1 := by
  have hd1 : (d - 1) + 1 ≤ d := by omega
  have hm1 : 1 ≤ d := by omega
  have hh_0 : 0 ≤ d - 1 := by omega
  refine AX.of (own := RX9) (by decide +kernel) rfl (Nat.le_of_ble_eq_true rfl) ?_
  unfold fc_LB_tell at h
  show AW l D cy ad A gc_G RX9 cX9_tell 2 (some .int) d (some (.int r)) M1 0 [(0, .ref (ad 0)), (1, .int p1)] [] M
  refine x_aload_n (pc := 0) 0 dX9_tell_0 rfl rfl ?_
  refine x_get (pc := 1) dX9_tell_1 lk_X9_10 gc_0 rfl rfl ?_
  refine x_get (pc := 4) dX9_tell_4 lk_X9_342 gc_1 rfl rfl ?_
  refine x_bipush (pc := 7) (w := 20) dX9_tell_7 bi_20 ?_
  refine x_icmp_lt (pc := 9) 18 dX9_tell_9 (by decide) (fun c_1 => ?_) (fun c_1 => ?_)
  · have h := aw_pos h c_1
    refine x_aload_n (pc := 18) 0 dX9_tell_18 rfl rfl ?_
    refine x_get (pc := 19) dX9_tell_19 lk_X9_10 gc_0 rfl rfl ?_
    refine x_get (pc := 22) dX9_tell_22 lk_X9_345 gc_1 rfl rfl ?_
    refine x_aload_n (pc := 25) 0 dX9_tell_25 rfl rfl ?_
    refine x_get (pc := 26) dX9_tell_26 lk_X9_10 gc_0 rfl rfl ?_
    refine x_get (pc := 29) dX9_tell_29 lk_X9_342 gc_1 rfl rfl ?_
    refine x_iload_n (pc := 32) 1 dX9_tell_32 rfl rfl ?_
    obtain ⟨c_2, h⟩ := aw_ck h
    refine x_iast (pc := 33) dX9_tell_33 gc_12 c_2 ?_
    refine x_aload_n (pc := 34) 0 dX9_tell_34 rfl rfl ?_
    refine x_get (pc := 35) dX9_tell_35 lk_X9_10 gc_0 rfl rfl ?_
    refine x_dup (pc := 38) dX9_tell_38 rfl ?_
    refine x_get (pc := 39) dX9_tell_39 lk_X9_342 gc_1 rfl rfl ?_
    refine x_iconst (pc := 42) (w := 1) dX9_tell_42 ic_1 ?_
    refine x_iadd (pc := 43) dX9_tell_43 ?_
    refine x_put (pc := 44) (x := (((aw_u M 12 (M 1 7).toNatClampNeg p1) 1 7) + 1)) dX9_tell_44 lk_X9_342 lp_X7_7 gc_1 rfl rfl rfl rfl ?_
    refine x_aload_n (pc := 47) 0 dX9_tell_47 rfl rfl ?_
    refine x_get (pc := 48) dX9_tell_48 lk_X9_10 gc_0 rfl rfl ?_
    refine x_get (pc := 51) dX9_tell_51 lk_X9_342 gc_1 rfl rfl ?_
    obtain ⟨rfl, rfl⟩ := aw_so h
    exact x_iret (pc := 54) dX9_tell_54
  · have h := aw_neg h c_1
    refine x_aload_n (pc := 12) 0 dX9_tell_12 rfl rfl ?_
    refine x_iconst (pc := 13) (w := 4) dX9_tell_13 ic_4 ?_
    refine x_callV (pc := 14) (As := [.int 4]) (rest := []) (st' := [.int r]) (w := (some (.int r))) dX9_tell_14 cw_X9_84 hd1 gc_0 rfl rfl rfl (Nat.le_of_ble_eq_true rfl) (tc_LB_error (d - 1) hh_0 4 _ _ _ h) rfl ?_
    exact x_iret (pc := 17) dX9_tell_17
def fc_LB_check_L72 : Nat → Int32 → Nat → Int32 → Int32 → aw_M → Option (Int32 × aw_M)
  | 0, _, _, _, _, _ => none
  | n + 1, p1, i2, p3, p4, M =>
    if p1 ≤ p4 then (
      some (0, M)
    ) else (
      aw_bv (fc_Ma_gather 2 p3 M) fun M_14 => (
      aw_bi (fc_Ga_shows i2 2 M_14) fun r_16 M_17 => (
      if aw_in p4 20 then none else (
      if r_16 = (M_17 12 p4.toNatClampNeg) then (
        fc_LB_check_L72 n p1 i2 p3 (p4 + 1) M_17
      ) else (
        some ((1 + p4), M_17)
      )
      )
      )
      )
    )
theorem fc_LB_check_L72_s (n : Nat) (p1 : Int32) (i2 : Nat) (p3 : Int32) (p4 : Int32) (M : aw_M) : fc_LB_check_L72 (n + 1) p1 i2 p3 p4 M = (
    if p1 ≤ p4 then (
      some (0, M)
    ) else (
      aw_bv (fc_Ma_gather 2 p3 M) fun M_14 => (
      aw_bi (fc_Ga_shows i2 2 M_14) fun r_16 M_17 => (
      if aw_in p4 20 then none else (
      if r_16 = (M_17 12 p4.toNatClampNeg) then (
        fc_LB_check_L72 n p1 i2 p3 (p4 + 1) M_17
      ) else (
        some ((1 + p4), M_17)
      )
      )
      )
      )
    )
    ) := rfl
set_option maxRecDepth 20000 in
theorem tc_LB_check_L72 {l : Launch} {D : va_G} {cy : Nat → ClassId} {ad : Nat → Nat} {A : Nat → Prop} (d : Nat) (hd : 5 ≤ d) : ∀ (n : Nat) (p1 : Int32) (i2 : Nat) (h2 : i2 < 6) (p3 : Int32) (p4 : Int32) (M : aw_M) (r : Int32) (M1 : aw_M), fc_LB_check_L72 n p1 i2 p3 p4 M = some (r, M1) → AW l D cy ad A gc_G RX9 cX9_check 5 (some .int) d (some (.int r)) M1 72 [(0, .ref (ad 0)), (1, .int p1), (2, .ref (ad (39 + i2))), (3, .int p3), (4, .int p4)] [] M := by
  have hd1 : (d - 1) + 1 ≤ d := by omega
  have hm1 : 1 ≤ d := by omega
  have hh_0 : 0 ≤ d - 1 := by omega
  have hh_1 : 1 ≤ d - 1 := by omega
  have hh_4 : 4 ≤ d - 1 := by omega
  intro n
  induction n with
  | zero => intro p1 i2 h2 p3 p4 M r M1 h; cases h
  | succ n ih =>
    intro p1 i2 h2 p3 p4 M r M1 h
    rw [fc_LB_check_L72_s] at h
    refine x_iload (pc := 72) dX9_check_72 rfl ?_
    refine x_iload_n (pc := 74) 1 dX9_check_74 rfl rfl ?_
    refine x_icmp_ge (pc := 75) 118 dX9_check_75 (by decide) (fun c_12 => ?_) (fun c_12 => ?_)
    · have h := aw_pos h c_12
      refine x_iconst (pc := 118) (w := 0) dX9_check_118 ic_0 ?_
      obtain ⟨rfl, rfl⟩ := aw_so h
      exact x_iret (pc := 119) dX9_check_119
    · have h := aw_neg h c_12
      refine x_aload_n (pc := 78) 0 dX9_check_78 rfl rfl ?_
      refine x_get (pc := 79) dX9_check_79 lk_X9_26 gc_0 rfl rfl ?_
      refine x_iload_n (pc := 82) 3 dX9_check_82 rfl rfl ?_
      obtain ⟨M_14, e_13, h⟩ := aw_bv_e h
      refine x_callV (pc := 83) (As := [.int p3]) (rest := []) (st' := []) (w := none) dX9_check_83 cw_X9_229 hd1 (gc_mach (i := 2) (by decide)) rfl rfl rfl (Nat.le_of_ble_eq_true rfl) (tc_Ma_gather (d - 1) hh_1 2 (by decide) p3 _  _ e_13) rfl ?_
      refine x_aload_n (pc := 86) 2 dX9_check_86 rfl rfl ?_
      refine x_aload_n (pc := 87) 0 dX9_check_87 rfl rfl ?_
      refine x_get (pc := 88) dX9_check_88 lk_X9_26 gc_0 rfl rfl ?_
      obtain ⟨r_16, M_17, e_15, h⟩ := aw_bi_e h
      refine x_callV (pc := 91) (As := [.ref (ad 5)]) (rest := []) (st' := [.int r_16]) (w := (some (.int r_16))) dX9_check_91 cw_X9_144 hd1 (gc_gauge (i := i2) h2) rfl rfl rfl (Nat.le_of_ble_eq_true rfl) (tc_Ga_shows (d - 1) hh_4 i2 h2 2 (by decide) _ _ _ e_15) rfl ?_
      refine x_aload_n (pc := 94) 0 dX9_check_94 rfl rfl ?_
      refine x_get (pc := 95) dX9_check_95 lk_X9_10 gc_0 rfl rfl ?_
      refine x_get (pc := 98) dX9_check_98 lk_X9_345 gc_1 rfl rfl ?_
      refine x_iload (pc := 101) dX9_check_101 rfl ?_
      obtain ⟨c_18, h⟩ := aw_ck h
      refine x_iald (pc := 103) dX9_check_103 gc_12 c_18 ?_
      refine x_icmp_eq (pc := 104) 112 dX9_check_104 (by decide) (fun c_19 => ?_) (fun c_19 => ?_)
      · have h := aw_pos h c_19
        refine x_iinc (pc := 112) (p4 + 1) [(4, .int (p4 + 1)), (0, .ref (ad 0)), (1, .int p1), (2, .ref (ad (39 + i2))), (3, .int p3)] dX9_check_112 rfl (congrArg (fun z => p4 + z) ic_1) (by decide) rfl ?_
        refine x_goto (pc := 115) 72 dX9_check_115 (by decide) ?_
        refine x_lv [1, 2, 3, 4, 0] [(0, .ref (ad 0)), (1, .int p1), (2, .ref (ad (39 + i2))), (3, .int p3), (4, .int (p4 + 1))] rfl ?_
        exact ih p1 i2 h2 p3 (p4 + 1) _ _ _ h
      · have h := aw_neg h c_19
        refine x_iconst (pc := 107) (w := 1) dX9_check_107 ic_1 ?_
        refine x_iload (pc := 108) dX9_check_108 rfl ?_
        refine x_iadd (pc := 110) dX9_check_110 ?_
        obtain ⟨rfl, rfl⟩ := aw_so h
        exact x_iret (pc := 111) dX9_check_111
def fc_LB_check  (M : aw_M) : Option (Int32 × aw_M) :=
  if ((aw_u M 1 7 0) 1 5) = 0 then (
    if (M 1 7) = 0 then (
      some (0, (aw_u M 1 7 0))
    ) else (
      some (1, (aw_u M 1 7 0))
    )
  ) else (
    aw_br (fc_LB_gaugeOf 0 (aw_u M 1 7 0)) fun i_3 M_4 => (
    if 6 ≤ i_3 then none else (
    aw_bi (fc_Cl_lintOfYard 0 M_4) fun r_7 M_8 => (
    aw_bv (fc_Ma_copyFrom 2 0 M_8) fun M_10 => (
    fc_LB_check_L72  2000 (M 1 7) i_3 r_7 0 M_10
    )
    )
    )
    )
  )
set_option maxRecDepth 20000 in
theorem tc_LB_check {l : Launch} {D : va_G} {cy : Nat → ClassId} {ad : Nat → Nat} {A : Nat → Prop} (d : Nat) (hd : 5 ≤ d)  (M : aw_M) (r : Int32) (M1 : aw_M) (h : fc_LB_check  M = some (r, M1)) : AX l D cy ad A gc_G yX9_check cX9_check 5 (some .int) d [.ref (ad 0)] M (some (.int r)) M1 := by
  have hd1 : (d - 1) + 1 ≤ d := by omega
  have hm1 : 1 ≤ d := by omega
  have hh_0 : 0 ≤ d - 1 := by omega
  have hh_1 : 1 ≤ d - 1 := by omega
  have hh_4 : 4 ≤ d - 1 := by omega
  refine AX.of (own := RX9) (by decide +kernel) rfl (Nat.le_of_ble_eq_true rfl) ?_
  unfold fc_LB_check at h
  show AW l D cy ad A gc_G RX9 cX9_check 5 (some .int) d (some (.int r)) M1 0 [(0, .ref (ad 0))] [] M
  refine x_aload_n (pc := 0) 0 dX9_check_0 rfl rfl ?_
  refine x_get (pc := 1) dX9_check_1 lk_X9_10 gc_0 rfl rfl ?_
  refine x_get (pc := 4) dX9_check_4 lk_X9_342 gc_1 rfl rfl ?_
  refine x_istore_n (pc := 7) 1 [(1, .int (M 1 7)), (0, .ref (ad 0))] dX9_check_7 rfl (by decide) rfl ?_
  refine x_aload_n (pc := 8) 0 dX9_check_8 rfl rfl ?_
  refine x_get (pc := 9) dX9_check_9 lk_X9_10 gc_0 rfl rfl ?_
  refine x_iconst (pc := 12) (w := 0) dX9_check_12 ic_0 ?_
  refine x_put (pc := 13) (x := 0) dX9_check_13 lk_X9_342 lp_X7_7 gc_1 rfl rfl rfl rfl ?_
  refine x_aload_n (pc := 16) 0 dX9_check_16 rfl rfl ?_
  refine x_get (pc := 17) dX9_check_17 lk_X9_10 gc_0 rfl rfl ?_
  refine x_get (pc := 20) dX9_check_20 lk_X9_104 gc_1 rfl rfl ?_
  refine x_if_ne (pc := 23) 36 dX9_check_23 (by decide) (fun c_1 => ?_) (fun c_1 => ?_)
  · have h := aw_neg h c_1
    refine x_aload_n (pc := 36) 0 dX9_check_36 rfl rfl ?_
    refine x_iconst (pc := 37) (w := 0) dX9_check_37 ic_0 ?_
    obtain ⟨i_3, M_4, e_2, h⟩ := aw_br_e h
    obtain ⟨c_5, h⟩ := aw_ck h
    refine x_callV (pc := 38) (As := [.int 0]) (rest := []) (st' := [.ref (ad (39 + i_3))]) (w := (some (.ref (ad (39 + i_3))))) dX9_check_38 cw_X9_130 hd1 gc_0 rfl rfl rfl (Nat.le_of_ble_eq_true rfl) (tc_LB_gaugeOf (d - 1) hh_4 0 _ _ _ e_2) rfl ?_
    refine x_astore_n (pc := 41) 2 [(2, .ref (ad (39 + i_3))), (1, .int (M 1 7)), (0, .ref (ad 0))] dX9_check_41 rfl (by decide) rfl ?_
    refine x_aload_n (pc := 42) 0 dX9_check_42 rfl rfl ?_
    refine x_get (pc := 43) dX9_check_43 lk_X9_10 gc_0 rfl rfl ?_
    refine x_get (pc := 46) dX9_check_46 lk_X9_36 gc_1 rfl rfl ?_
    refine x_iconst (pc := 49) (w := 0) dX9_check_49 ic_0 ?_
    refine x_aald (pc := 50) dX9_check_50 gc_6 (fun _ => rfl) (by decide) rfl ?_
    obtain ⟨r_7, M_8, e_6, h⟩ := aw_bi_e h
    refine x_callV (pc := 51) (As := []) (rest := []) (st' := [.int r_7]) (w := (some (.int r_7))) dX9_check_51 cw_X9_226 hd1 (gc_cloth (i := 0) (by decide)) rfl rfl rfl (Nat.le_of_ble_eq_true rfl) (tc_Cl_lintOfYard (d - 1) hh_0 0 (by decide) _ _ _ e_6) rfl ?_
    refine x_istore_n (pc := 54) 3 [(3, .int r_7), (2, .ref (ad (39 + i_3))), (1, .int (M 1 7)), (0, .ref (ad 0))] dX9_check_54 rfl (by decide) rfl ?_
    refine x_aload_n (pc := 55) 0 dX9_check_55 rfl rfl ?_
    refine x_get (pc := 56) dX9_check_56 lk_X9_26 gc_0 rfl rfl ?_
    refine x_aload_n (pc := 59) 0 dX9_check_59 rfl rfl ?_
    refine x_get (pc := 60) dX9_check_60 lk_X9_10 gc_0 rfl rfl ?_
    refine x_get (pc := 63) dX9_check_63 lk_X9_87 gc_1 rfl rfl ?_
    obtain ⟨M_10, e_9, h⟩ := aw_bv_e h
    refine x_callV (pc := 66) (As := [.ref (ad 3)]) (rest := []) (st' := []) (w := none) dX9_check_66 cw_X9_222 hd1 (gc_mach (i := 2) (by decide)) rfl rfl rfl (Nat.le_of_ble_eq_true rfl) (tc_Ma_copyFrom (d - 1) hh_0 2 (by decide) 0 (by decide) _  _ e_9) rfl ?_
    refine x_iconst (pc := 69) (w := 0) dX9_check_69 ic_0 ?_
    refine x_istore (pc := 70) 4 [(4, .int 0), (3, .int r_7), (2, .ref (ad (39 + i_3))), (1, .int (M 1 7)), (0, .ref (ad 0))] dX9_check_70 (by decide) rfl ?_
    refine x_lv [4, 3, 2, 1, 0] [(0, .ref (ad 0)), (1, .int (M 1 7)), (2, .ref (ad (39 + i_3))), (3, .int r_7), (4, .int 0)] rfl ?_
    exact tc_LB_check_L72 d hd  2000 (M 1 7) i_3 (Nat.lt_of_not_le c_5) r_7 0 _ _ _ h
  · have h := aw_pos h c_1
    refine x_iload_n (pc := 26) 1 dX9_check_26 rfl rfl ?_
    refine x_if_ne (pc := 27) 34 dX9_check_27 (by decide) (fun c_11 => ?_) (fun c_11 => ?_)
    · have h := aw_neg h c_11
      refine x_iconst (pc := 34) (w := 1) dX9_check_34 ic_1 ?_
      obtain ⟨rfl, rfl⟩ := aw_so h
      exact x_iret (pc := 35) dX9_check_35
    · have h := aw_pos h c_11
      refine x_iconst (pc := 30) (w := 0) dX9_check_30 ic_0 ?_
      refine x_goto (pc := 31) 35 dX9_check_31 (by decide) ?_
      obtain ⟨rfl, rfl⟩ := aw_so h
      exact x_iret (pc := 35) dX9_check_35
def fc_LB_count (p1 : Int32) (M : aw_M) : Option (Int32 × aw_M) :=
  if p1 = 0 then (
    some ((M 1 5), M)
  ) else (
    if p1 = 1 then (
      some ((M 1 8), M)
    ) else (
      if p1 = 2 then (
        fc_St_allYards  M
      ) else (
        if p1 = 3 then (
          fc_St_allSpoilt  M
        ) else (
          if p1 = 4 then (
            some ((M 1 6), M)
          ) else (
            if p1 = 5 then (
              some ((M 1 7), M)
            ) else (
              if p1 = 6 then (
                some ((M 56 1), M)
              ) else (
                if p1 = 7 then (
                  some ((M 1 9), M)
                ) else (
                  fc_LB_error 1 M
                )
              )
            )
          )
        )
      )
    )
  )
set_option maxRecDepth 20000 in
theorem tc_LB_count {l : Launch} {D : va_G} {cy : Nat → ClassId} {ad : Nat → Nat} {A : Nat → Prop} (d : Nat) (hd : 1 ≤ d) (p1 : Int32) (M : aw_M) (r : Int32) (M1 : aw_M) (h : fc_LB_count p1 M = some (r, M1)) : AX l D cy ad A gc_G yX9_count cX9_count 2 (some .int) d [.ref (ad 0), .int p1] M (some (.int r)) M1 := by
  have hd1 : (d - 1) + 1 ≤ d := by omega
  have hm1 : 1 ≤ d := by omega
  have hh_0 : 0 ≤ d - 1 := by omega
  refine AX.of (own := RX9) (by decide +kernel) rfl (Nat.le_of_ble_eq_true rfl) ?_
  unfold fc_LB_count at h
  show AW l D cy ad A gc_G RX9 cX9_count 2 (some .int) d (some (.int r)) M1 0 [(0, .ref (ad 0)), (1, .int p1)] [] M
  refine x_iload_n (pc := 0) 1 dX9_count_0 rfl rfl ?_
  by_cases c_1 : p1 = 0
  · have h := aw_pos h c_1
    refine x_tin (pc := 1) (off := 47) 0 48 dX9_count_1 c_1 (by decide) (by decide) rfl (by decide) ?_
    refine x_aload_n (pc := 48) 0 dX9_count_48 rfl rfl ?_
    refine x_get (pc := 49) dX9_count_49 lk_X9_10 gc_0 rfl rfl ?_
    refine x_get (pc := 52) dX9_count_52 lk_X9_104 gc_1 rfl rfl ?_
    obtain ⟨rfl, rfl⟩ := aw_so h
    exact x_iret (pc := 55) dX9_count_55
  · have h := aw_neg h c_1
    by_cases c_2 : p1 = 1
    · have h := aw_pos h c_2
      refine x_tin (pc := 1) (off := 55) 1 56 dX9_count_1 c_2 (by decide) (by decide) rfl (by decide) ?_
      refine x_aload_n (pc := 56) 0 dX9_count_56 rfl rfl ?_
      refine x_get (pc := 57) dX9_count_57 lk_X9_10 gc_0 rfl rfl ?_
      refine x_get (pc := 60) dX9_count_60 lk_X9_195 gc_1 rfl rfl ?_
      obtain ⟨rfl, rfl⟩ := aw_so h
      exact x_iret (pc := 63) dX9_count_63
    · have h := aw_neg h c_2
      by_cases c_3 : p1 = 2
      · have h := aw_pos h c_3
        refine x_tin (pc := 1) (off := 63) 2 64 dX9_count_1 c_3 (by decide) (by decide) rfl (by decide) ?_
        refine x_aload_n (pc := 64) 0 dX9_count_64 rfl rfl ?_
        refine x_get (pc := 65) dX9_count_65 lk_X9_10 gc_0 rfl rfl ?_
        refine x_callV (pc := 68) (As := []) (rest := []) (st' := [.int r]) (w := (some (.int r))) dX9_count_68 cw_X9_348 hd1 gc_1 rfl rfl rfl (Nat.le_of_ble_eq_true rfl) (tc_St_allYards (d - 1) hh_0  _ _ _ h) rfl ?_
        exact x_iret (pc := 71) dX9_count_71
      · have h := aw_neg h c_3
        by_cases c_4 : p1 = 3
        · have h := aw_pos h c_4
          refine x_tin (pc := 1) (off := 71) 3 72 dX9_count_1 c_4 (by decide) (by decide) rfl (by decide) ?_
          refine x_aload_n (pc := 72) 0 dX9_count_72 rfl rfl ?_
          refine x_get (pc := 73) dX9_count_73 lk_X9_10 gc_0 rfl rfl ?_
          refine x_callV (pc := 76) (As := []) (rest := []) (st' := [.int r]) (w := (some (.int r))) dX9_count_76 cw_X9_351 hd1 gc_1 rfl rfl rfl (Nat.le_of_ble_eq_true rfl) (tc_St_allSpoilt (d - 1) hh_0  _ _ _ h) rfl ?_
          exact x_iret (pc := 79) dX9_count_79
        · have h := aw_neg h c_4
          by_cases c_5 : p1 = 4
          · have h := aw_pos h c_5
            refine x_tin (pc := 1) (off := 79) 4 80 dX9_count_1 c_5 (by decide) (by decide) rfl (by decide) ?_
            refine x_aload_n (pc := 80) 0 dX9_count_80 rfl rfl ?_
            refine x_get (pc := 81) dX9_count_81 lk_X9_10 gc_0 rfl rfl ?_
            refine x_get (pc := 84) dX9_count_84 lk_X9_154 gc_1 rfl rfl ?_
            obtain ⟨rfl, rfl⟩ := aw_so h
            exact x_iret (pc := 87) dX9_count_87
          · have h := aw_neg h c_5
            by_cases c_6 : p1 = 5
            · have h := aw_pos h c_6
              refine x_tin (pc := 1) (off := 87) 5 88 dX9_count_1 c_6 (by decide) (by decide) rfl (by decide) ?_
              refine x_aload_n (pc := 88) 0 dX9_count_88 rfl rfl ?_
              refine x_get (pc := 89) dX9_count_89 lk_X9_10 gc_0 rfl rfl ?_
              refine x_get (pc := 92) dX9_count_92 lk_X9_342 gc_1 rfl rfl ?_
              obtain ⟨rfl, rfl⟩ := aw_so h
              exact x_iret (pc := 95) dX9_count_95
            · have h := aw_neg h c_6
              by_cases c_7 : p1 = 6
              · have h := aw_pos h c_7
                refine x_tin (pc := 1) (off := 95) 6 96 dX9_count_1 c_7 (by decide) (by decide) rfl (by decide) ?_
                refine x_aload_n (pc := 96) 0 dX9_count_96 rfl rfl ?_
                refine x_get (pc := 97) dX9_count_97 lk_X9_66 gc_0 rfl rfl ?_
                refine x_get (pc := 100) dX9_count_100 lk_X9_299 gc_56 rfl rfl ?_
                obtain ⟨rfl, rfl⟩ := aw_so h
                exact x_iret (pc := 103) dX9_count_103
              · have h := aw_neg h c_7
                by_cases c_8 : p1 = 7
                · have h := aw_pos h c_8
                  refine x_tin (pc := 1) (off := 103) 7 104 dX9_count_1 c_8 (by decide) (by decide) rfl (by decide) ?_
                  refine x_aload_n (pc := 104) 0 dX9_count_104 rfl rfl ?_
                  refine x_get (pc := 105) dX9_count_105 lk_X9_10 gc_0 rfl rfl ?_
                  refine x_get (pc := 108) dX9_count_108 lk_X9_292 gc_1 rfl rfl ?_
                  obtain ⟨rfl, rfl⟩ := aw_so h
                  exact x_iret (pc := 111) dX9_count_111
                · have h := aw_neg h c_8
                  refine x_tout (pc := 1) 112 dX9_count_1 (by have z0 := lv_neT c_1 (a := 0) rfl; have z1 := lv_neT c_2 (a := 1) rfl; have z2 := lv_neT c_3 (a := 2) rfl; have z3 := lv_neT c_4 (a := 3) rfl; have z4 := lv_neT c_5 (a := 4) rfl; have z5 := lv_neT c_6 (a := 5) rfl; have z6 := lv_neT c_7 (a := 6) rfl; have z7 := lv_neT c_8 (a := 7) rfl; omega) (by decide) ?_
                  refine x_aload_n (pc := 112) 0 dX9_count_112 rfl rfl ?_
                  refine x_iconst (pc := 113) (w := 1) dX9_count_113 ic_1 ?_
                  refine x_callV (pc := 114) (As := [.int 1]) (rest := []) (st' := [.int r]) (w := (some (.int r))) dX9_count_114 cw_X9_84 hd1 gc_0 rfl rfl rfl (Nat.le_of_ble_eq_true rfl) (tc_LB_error (d - 1) hh_0 1 _ _ _ h) rfl ?_
                  exact x_iret (pc := 117) dX9_count_117
def fc_LB_told (p1 : Int32) (M : aw_M) : Option (Int32 × aw_M) :=
  if p1 < 1 then (
    fc_LB_error 1 M
  ) else (
    if p1 ≤ 5 then (
      if aw_in p1 6 then none else (
      some ((M 67 p1.toNatClampNeg), M)
      )
    ) else (
      fc_LB_error 1 M
    )
  )
set_option maxRecDepth 20000 in
theorem tc_LB_told {l : Launch} {D : va_G} {cy : Nat → ClassId} {ad : Nat → Nat} {A : Nat → Prop} (d : Nat) (hd : 1 ≤ d) (p1 : Int32) (M : aw_M) (r : Int32) (M1 : aw_M) (h : fc_LB_told p1 M = some (r, M1)) : AX l D cy ad A gc_G yX9_told cX9_told 2 (some .int) d [.ref (ad 0), .int p1] M (some (.int r)) M1 := by
  have hd1 : (d - 1) + 1 ≤ d := by omega
  have hm1 : 1 ≤ d := by omega
  have hh_0 : 0 ≤ d - 1 := by omega
  refine AX.of (own := RX9) (by decide +kernel) rfl (Nat.le_of_ble_eq_true rfl) ?_
  unfold fc_LB_told at h
  show AW l D cy ad A gc_G RX9 cX9_told 2 (some .int) d (some (.int r)) M1 0 [(0, .ref (ad 0)), (1, .int p1)] [] M
  refine x_iload_n (pc := 0) 1 dX9_told_0 rfl rfl ?_
  refine x_iconst (pc := 1) (w := 1) dX9_told_1 ic_1 ?_
  refine x_icmp_lt (pc := 2) 10 dX9_told_2 (by decide) (fun c_1 => ?_) (fun c_1 => ?_)
  · have h := aw_pos h c_1
    refine x_aload_n (pc := 10) 0 dX9_told_10 rfl rfl ?_
    refine x_iconst (pc := 11) (w := 1) dX9_told_11 ic_1 ?_
    refine x_callV (pc := 12) (As := [.int 1]) (rest := []) (st' := [.int r]) (w := (some (.int r))) dX9_told_12 cw_X9_84 hd1 gc_0 rfl rfl rfl (Nat.le_of_ble_eq_true rfl) (tc_LB_error (d - 1) hh_0 1 _ _ _ h) rfl ?_
    exact x_iret (pc := 15) dX9_told_15
  · have h := aw_neg h c_1
    refine x_iload_n (pc := 5) 1 dX9_told_5 rfl rfl ?_
    refine x_iconst (pc := 6) (w := 5) dX9_told_6 ic_5 ?_
    refine x_icmp_le (pc := 7) 16 dX9_told_7 (by decide) (fun c_2 => ?_) (fun c_2 => ?_)
    · have h := aw_pos h c_2
      refine x_aload_n (pc := 16) 0 dX9_told_16 rfl rfl ?_
      refine x_get (pc := 17) dX9_told_17 lk_X9_77 gc_0 rfl rfl ?_
      refine x_iload_n (pc := 20) 1 dX9_told_20 rfl rfl ?_
      obtain ⟨c_3, h⟩ := aw_ck h
      refine x_iald (pc := 21) dX9_told_21 gc_67 c_3 ?_
      obtain ⟨rfl, rfl⟩ := aw_so h
      exact x_iret (pc := 22) dX9_told_22
    · have h := aw_neg h c_2
      refine x_aload_n (pc := 10) 0 dX9_told_10 rfl rfl ?_
      refine x_iconst (pc := 11) (w := 1) dX9_told_11 ic_1 ?_
      refine x_callV (pc := 12) (As := [.int 1]) (rest := []) (st' := [.int r]) (w := (some (.int r))) dX9_told_12 cw_X9_84 hd1 gc_0 rfl rfl rfl (Nat.le_of_ble_eq_true rfl) (tc_LB_error (d - 1) hh_0 1 _ _ _ h) rfl ?_
      exact x_iret (pc := 15) dX9_told_15
