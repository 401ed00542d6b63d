def fc_Ma_gather (i0 : Nat) (p1 : Int32) (M : aw_M) : Option aw_M :=
  some (aw_u M (3 + i0) 4 (aw_min 99 ((M (3 + i0) 4) + p1)))
set_option maxRecDepth 20000 in
theorem tc_Ma_gather {l : Launch} {D : va_G} {cy : Nat → ClassId} {ad : Nat → Nat} {A : Nat → Prop} (d : Nat) (hd : 1 ≤ d) (i0 : Nat) (h0 : i0 < 3) (p1 : Int32) (M : aw_M) (M1 : aw_M) (h : fc_Ma_gather i0 p1 M = some M1) : AX l D cy ad A gc_G yX4_gather cX4_gather 2 none d [.ref (ad (3 + i0)), .int p1] M none M1 := by
  have hd1 : (d - 1) + 1 ≤ d := by omega
  have hm1 : 1 ≤ d := by omega
  refine AX.of (own := RX4) (by decide +kernel) rfl (Nat.le_of_ble_eq_true rfl) ?_
  unfold fc_Ma_gather at h
  show AW l D cy ad A gc_G RX4 cX4_gather 2 none d none M1 0 [(0, .ref (ad (3 + i0))), (1, .int p1)] [] M
  refine x_aload_n (pc := 0) 0 dX4_gather_0 rfl rfl ?_
  refine x_bipush (pc := 1) (w := 99) dX4_gather_1 bi_99 ?_
  refine x_aload_n (pc := 3) 0 dX4_gather_3 rfl rfl ?_
  refine x_get (pc := 4) dX4_gather_4 lk_X4_24 (gc_mach (i := i0) h0) rfl rfl ?_
  refine x_iload_n (pc := 7) 1 dX4_gather_7 rfl rfl ?_
  refine x_iadd (pc := 8) dX4_gather_8 ?_
  refine x_min (pc := 9) dX4_gather_9 (tb_in (i := 692) (by decide +kernel) rfl) hm1 (Nat.le_of_ble_eq_true rfl) ?_
  refine x_put (pc := 12) (x := (aw_min 99 ((M (3 + i0) 4) + p1))) dX4_gather_12 lk_X4_24 lp_X4_4 (gc_mach (i := i0) h0) rfl rfl rfl rfl ?_
  obtain rfl := aw_sv h
  exact x_vret (pc := 15) dX4_gather_15
def fc_Ma_hasRoomFor (i0 : Nat) (p1 : Int32) (M : aw_M) : Option (Int32 × aw_M) :=
  if p1 = 3 then (
    if (9 : Int32) ≤ (M (3 + i0) 1) then (
      some (0, M)
    ) else (
      some (1, M)
    )
  ) else (
    if p1 = 4 then (
      if (M (3 + i0) 1) ≤ 0 then (
        some (0, M)
      ) else (
        some (1, M)
      )
    ) else (
      if p1 = 5 then (
        if (9 : Int32) ≤ (M (3 + i0) 2) then (
          some (0, M)
        ) else (
          some (1, M)
        )
      ) else (
        if p1 = 6 then (
          if (M (3 + i0) 2) ≤ 0 then (
            some (0, M)
          ) else (
            some (1, M)
          )
        ) else (
          some (1, M)
        )
      )
    )
  )
set_option maxRecDepth 20000 in
theorem tc_Ma_hasRoomFor {l : Launch} {D : va_G} {cy : Nat → ClassId} {ad : Nat → Nat} {A : Nat → Prop} (d : Nat) (hd : 0 ≤ d) (i0 : Nat) (h0 : i0 < 3) (p1 : Int32) (M : aw_M) (r : Int32) (M1 : aw_M) (h : fc_Ma_hasRoomFor i0 p1 M = some (r, M1)) : AX l D cy ad A gc_G yX4_hasRoomFor cX4_hasRoomFor 2 (some .boolean) d [.ref (ad (3 + i0)), .int p1] M (some (.int r)) M1 := by
  refine AX.of (own := RX4) (by decide +kernel) rfl (Nat.le_of_ble_eq_true rfl) ?_
  unfold fc_Ma_hasRoomFor at h
  show AW l D cy ad A gc_G RX4 cX4_hasRoomFor 2 (some .boolean) d (some (.int r)) M1 0 [(0, .ref (ad (3 + i0))), (1, .int p1)] [] M
  refine x_iload_n (pc := 0) 1 dX4_hasRoomFor_0 rfl rfl ?_
  by_cases c_1 : p1 = 3
  · have h := aw_pos h c_1
    refine x_tin (pc := 1) (off := 31) 3 32 dX4_hasRoomFor_1 c_1 (by decide) (by decide) rfl (by decide) ?_
    refine x_aload_n (pc := 32) 0 dX4_hasRoomFor_32 rfl rfl ?_
    refine x_get (pc := 33) dX4_hasRoomFor_33 lk_X4_15 (gc_mach (i := i0) h0) rfl rfl ?_
    refine x_bipush (pc := 36) (w := 9) dX4_hasRoomFor_36 bi_9 ?_
    refine x_icmp_ge (pc := 38) 45 dX4_hasRoomFor_38 (by decide) (fun c_2 => ?_) (fun c_2 => ?_)
    · have h := aw_pos h c_2
      refine x_iconst (pc := 45) (w := 0) dX4_hasRoomFor_45 ic_0 ?_
      obtain ⟨rfl, rfl⟩ := aw_so h
      exact x_zret (pc := 46) aw_b0 dX4_hasRoomFor_46
    · have h := aw_neg h c_2
      refine x_iconst (pc := 41) (w := 1) dX4_hasRoomFor_41 ic_1 ?_
      refine x_goto (pc := 42) 46 dX4_hasRoomFor_42 (by decide) ?_
      obtain ⟨rfl, rfl⟩ := aw_so h
      exact x_zret (pc := 46) aw_b1 dX4_hasRoomFor_46
  · have h := aw_neg h c_1
    by_cases c_3 : p1 = 4
    · have h := aw_pos h c_3
      refine x_tin (pc := 1) (off := 46) 4 47 dX4_hasRoomFor_1 c_3 (by decide) (by decide) rfl (by decide) ?_
      refine x_aload_n (pc := 47) 0 dX4_hasRoomFor_47 rfl rfl ?_
      refine x_get (pc := 48) dX4_hasRoomFor_48 lk_X4_15 (gc_mach (i := i0) h0) rfl rfl ?_
      refine x_if_le (pc := 51) 58 dX4_hasRoomFor_51 (by decide) (fun c_4 => ?_) (fun c_4 => ?_)
      · have h := aw_pos h c_4
        refine x_iconst (pc := 58) (w := 0) dX4_hasRoomFor_58 ic_0 ?_
        obtain ⟨rfl, rfl⟩ := aw_so h
        exact x_zret (pc := 59) aw_b0 dX4_hasRoomFor_59
      · have h := aw_neg h c_4
        refine x_iconst (pc := 54) (w := 1) dX4_hasRoomFor_54 ic_1 ?_
        refine x_goto (pc := 55) 59 dX4_hasRoomFor_55 (by decide) ?_
        obtain ⟨rfl, rfl⟩ := aw_so h
        exact x_zret (pc := 59) aw_b1 dX4_hasRoomFor_59
    · have h := aw_neg h c_3
      by_cases c_5 : p1 = 5
      · have h := aw_pos h c_5
        refine x_tin (pc := 1) (off := 59) 5 60 dX4_hasRoomFor_1 c_5 (by decide) (by decide) rfl (by decide) ?_
        refine x_aload_n (pc := 60) 0 dX4_hasRoomFor_60 rfl rfl ?_
        refine x_get (pc := 61) dX4_hasRoomFor_61 lk_X4_18 (gc_mach (i := i0) h0) rfl rfl ?_
        refine x_bipush (pc := 64) (w := 9) dX4_hasRoomFor_64 bi_9 ?_
        refine x_icmp_ge (pc := 66) 73 dX4_hasRoomFor_66 (by decide) (fun c_6 => ?_) (fun c_6 => ?_)
        · have h := aw_pos h c_6
          refine x_iconst (pc := 73) (w := 0) dX4_hasRoomFor_73 ic_0 ?_
          obtain ⟨rfl, rfl⟩ := aw_so h
          exact x_zret (pc := 74) aw_b0 dX4_hasRoomFor_74
        · have h := aw_neg h c_6
          refine x_iconst (pc := 69) (w := 1) dX4_hasRoomFor_69 ic_1 ?_
          refine x_goto (pc := 70) 74 dX4_hasRoomFor_70 (by decide) ?_
          obtain ⟨rfl, rfl⟩ := aw_so h
          exact x_zret (pc := 74) aw_b1 dX4_hasRoomFor_74
      · have h := aw_neg h c_5
        by_cases c_7 : p1 = 6
        · have h := aw_pos h c_7
          refine x_tin (pc := 1) (off := 74) 6 75 dX4_hasRoomFor_1 c_7 (by decide) (by decide) rfl (by decide) ?_
          refine x_aload_n (pc := 75) 0 dX4_hasRoomFor_75 rfl rfl ?_
          refine x_get (pc := 76) dX4_hasRoomFor_76 lk_X4_18 (gc_mach (i := i0) h0) rfl rfl ?_
          refine x_if_le (pc := 79) 86 dX4_hasRoomFor_79 (by decide) (fun c_8 => ?_) (fun c_8 => ?_)
          · have h := aw_pos h c_8
            refine x_iconst (pc := 86) (w := 0) dX4_hasRoomFor_86 ic_0 ?_
            obtain ⟨rfl, rfl⟩ := aw_so h
            exact x_zret (pc := 87) aw_b0 dX4_hasRoomFor_87
          · have h := aw_neg h c_8
            refine x_iconst (pc := 82) (w := 1) dX4_hasRoomFor_82 ic_1 ?_
            refine x_goto (pc := 83) 87 dX4_hasRoomFor_83 (by decide) ?_
            obtain ⟨rfl, rfl⟩ := aw_so h
            exact x_zret (pc := 87) aw_b1 dX4_hasRoomFor_87
        · have h := aw_neg h c_7
          refine x_tout (pc := 1) 88 dX4_hasRoomFor_1 (by have z0 := lv_neT c_1 (a := 3) rfl; have z1 := lv_neT c_3 (a := 4) rfl; have z2 := lv_neT c_5 (a := 5) rfl; have z3 := lv_neT c_7 (a := 6) rfl; omega) (by decide) ?_
          refine x_iconst (pc := 88) (w := 1) dX4_hasRoomFor_88 ic_1 ?_
          obtain ⟨rfl, rfl⟩ := aw_so h
          exact x_zret (pc := 89) aw_b1 dX4_hasRoomFor_89
def fc_Ma_follow (i0 : Nat) (p1 : Int32) (M : aw_M) : Option aw_M :=
  if p1 = 0 then (
    some (aw_u M (3 + i0) 0 0)
  ) else (
    if p1 = 1 then (
      some (aw_u M (3 + i0) 3 0)
    ) else (
      if p1 = 2 then (
        some (aw_u M (3 + i0) 4 0)
      ) else (
        if p1 = 3 then (
          some (aw_u M (3 + i0) 1 ((M (3 + i0) 1) + 1))
        ) else (
          if p1 = 4 then (
            some (aw_u M (3 + i0) 1 ((M (3 + i0) 1) - 1))
          ) else (
            if p1 = 5 then (
              some (aw_u M (3 + i0) 2 ((M (3 + i0) 2) + 1))
            ) else (
              some (aw_u M (3 + i0) 2 ((M (3 + i0) 2) - 1))
            )
          )
        )
      )
    )
  )
set_option maxRecDepth 20000 in
theorem tc_Ma_follow {l : Launch} {D : va_G} {cy : Nat → ClassId} {ad : Nat → Nat} {A : Nat → Prop} (d : Nat) (hd : 0 ≤ d) (i0 : Nat) (h0 : i0 < 3) (p1 : Int32) (M : aw_M) (M1 : aw_M) (h : fc_Ma_follow i0 p1 M = some M1) : AX l D cy ad A gc_G yX4_follow cX4_follow 2 none d [.ref (ad (3 + i0)), .int p1] M none M1 := by
  refine AX.of (own := RX4) (by decide +kernel) rfl (Nat.le_of_ble_eq_true rfl) ?_
  unfold fc_Ma_follow at h
  show AW l D cy ad A gc_G RX4 cX4_follow 2 none d none M1 0 [(0, .ref (ad (3 + i0))), (1, .int p1)] [] M
  refine x_iload_n (pc := 0) 1 dX4_follow_0 rfl rfl ?_
  by_cases c_1 : p1 = 0
  · have h := aw_pos h c_1
    refine x_tin (pc := 1) (off := 39) 0 40 dX4_follow_1 c_1 (by decide) (by decide) rfl (by decide) ?_
    refine x_aload_n (pc := 40) 0 dX4_follow_40 rfl rfl ?_
    refine x_iconst (pc := 41) (w := 0) dX4_follow_41 ic_0 ?_
    refine x_put (pc := 42) (x := 0) dX4_follow_42 lk_X4_9 lp_X4_0 (gc_mach (i := i0) h0) rfl rfl rfl rfl ?_
    refine x_goto (pc := 45) 113 dX4_follow_45 (by decide) ?_
    obtain rfl := aw_sv h
    exact x_vret (pc := 113) dX4_follow_113
  · have h := aw_neg h c_1
    by_cases c_2 : p1 = 1
    · have h := aw_pos h c_2
      refine x_tin (pc := 1) (off := 47) 1 48 dX4_follow_1 c_2 (by decide) (by decide) rfl (by decide) ?_
      refine x_aload_n (pc := 48) 0 dX4_follow_48 rfl rfl ?_
      refine x_iconst (pc := 49) (w := 0) dX4_follow_49 ic_0 ?_
      refine x_put (pc := 50) (x := 0) dX4_follow_50 lk_X4_21 lp_X4_3 (gc_mach (i := i0) h0) rfl rfl rfl rfl ?_
      refine x_goto (pc := 53) 113 dX4_follow_53 (by decide) ?_
      obtain rfl := aw_sv h
      exact x_vret (pc := 113) dX4_follow_113
    · have h := aw_neg h c_2
      by_cases c_3 : p1 = 2
      · have h := aw_pos h c_3
        refine x_tin (pc := 1) (off := 55) 2 56 dX4_follow_1 c_3 (by decide) (by decide) rfl (by decide) ?_
        refine x_aload_n (pc := 56) 0 dX4_follow_56 rfl rfl ?_
        refine x_iconst (pc := 57) (w := 0) dX4_follow_57 ic_0 ?_
        refine x_put (pc := 58) (x := 0) dX4_follow_58 lk_X4_24 lp_X4_4 (gc_mach (i := i0) h0) rfl rfl rfl rfl ?_
        refine x_goto (pc := 61) 113 dX4_follow_61 (by decide) ?_
        obtain rfl := aw_sv h
        exact x_vret (pc := 113) dX4_follow_113
      · have h := aw_neg h c_3
        by_cases c_4 : p1 = 3
        · have h := aw_pos h c_4
          refine x_tin (pc := 1) (off := 63) 3 64 dX4_follow_1 c_4 (by decide) (by decide) rfl (by decide) ?_
          refine x_aload_n (pc := 64) 0 dX4_follow_64 rfl rfl ?_
          refine x_dup (pc := 65) dX4_follow_65 rfl ?_
          refine x_get (pc := 66) dX4_follow_66 lk_X4_15 (gc_mach (i := i0) h0) rfl rfl ?_
          refine x_iconst (pc := 69) (w := 1) dX4_follow_69 ic_1 ?_
          refine x_iadd (pc := 70) dX4_follow_70 ?_
          refine x_put (pc := 71) (x := ((M (3 + i0) 1) + 1)) dX4_follow_71 lk_X4_15 lp_X4_1 (gc_mach (i := i0) h0) rfl rfl rfl rfl ?_
          refine x_goto (pc := 74) 113 dX4_follow_74 (by decide) ?_
          obtain rfl := aw_sv h
          exact x_vret (pc := 113) dX4_follow_113
        · have h := aw_neg h c_4
          by_cases c_5 : p1 = 4
          · have h := aw_pos h c_5
            refine x_tin (pc := 1) (off := 76) 4 77 dX4_follow_1 c_5 (by decide) (by decide) rfl (by decide) ?_
            refine x_aload_n (pc := 77) 0 dX4_follow_77 rfl rfl ?_
            refine x_dup (pc := 78) dX4_follow_78 rfl ?_
            refine x_get (pc := 79) dX4_follow_79 lk_X4_15 (gc_mach (i := i0) h0) rfl rfl ?_
            refine x_iconst (pc := 82) (w := 1) dX4_follow_82 ic_1 ?_
            refine x_isub (pc := 83) dX4_follow_83 ?_
            refine x_put (pc := 84) (x := ((M (3 + i0) 1) - 1)) dX4_follow_84 lk_X4_15 lp_X4_1 (gc_mach (i := i0) h0) rfl rfl rfl rfl ?_
            refine x_goto (pc := 87) 113 dX4_follow_87 (by decide) ?_
            obtain rfl := aw_sv h
            exact x_vret (pc := 113) dX4_follow_113
          · have h := aw_neg h c_5
            by_cases c_6 : p1 = 5
            · have h := aw_pos h c_6
              refine x_tin (pc := 1) (off := 89) 5 90 dX4_follow_1 c_6 (by decide) (by decide) rfl (by decide) ?_
              refine x_aload_n (pc := 90) 0 dX4_follow_90 rfl rfl ?_
              refine x_dup (pc := 91) dX4_follow_91 rfl ?_
              refine x_get (pc := 92) dX4_follow_92 lk_X4_18 (gc_mach (i := i0) h0) rfl rfl ?_
              refine x_iconst (pc := 95) (w := 1) dX4_follow_95 ic_1 ?_
              refine x_iadd (pc := 96) dX4_follow_96 ?_
              refine x_put (pc := 97) (x := ((M (3 + i0) 2) + 1)) dX4_follow_97 lk_X4_18 lp_X4_2 (gc_mach (i := i0) h0) rfl rfl rfl rfl ?_
              refine x_goto (pc := 100) 113 dX4_follow_100 (by decide) ?_
              obtain rfl := aw_sv h
              exact x_vret (pc := 113) dX4_follow_113
            · have h := aw_neg h c_6
              refine x_tout (pc := 1) 103 dX4_follow_1 (by have z0 := lv_neT c_1 (a := 0) rfl; have z1 := lv_neT c_2 (a := 1) rfl; have z2 := lv_neT c_3 (a := 2) rfl; have z3 := lv_neT c_4 (a := 3) rfl; have z4 := lv_neT c_5 (a := 4) rfl; have z5 := lv_neT c_6 (a := 5) rfl; omega) (by decide) ?_
              refine x_aload_n (pc := 103) 0 dX4_follow_103 rfl rfl ?_
              refine x_dup (pc := 104) dX4_follow_104 rfl ?_
              refine x_get (pc := 105) dX4_follow_105 lk_X4_18 (gc_mach (i := i0) h0) rfl rfl ?_
              refine x_iconst (pc := 108) (w := 1) dX4_follow_108 ic_1 ?_
              refine x_isub (pc := 109) dX4_follow_109 ?_
              refine x_put (pc := 110) (x := ((M (3 + i0) 2) - 1)) dX4_follow_110 lk_X4_18 lp_X4_2 (gc_mach (i := i0) h0) rfl rfl rfl rfl ?_
              obtain rfl := aw_sv h
              exact x_vret (pc := 113) dX4_follow_113
def fc_Ro_begin (p1 : Int32) (p2 : Int32) (p3 : Int32) (M : aw_M) : Option aw_M :=
  aw_bi (fc_LB_held p1 0 6 M) fun r_2 M_3 => (
  some (aw_u (aw_u (aw_u (aw_u (aw_u M_3 52 2 r_2) 52 3 p2) 52 4 p3) 52 5 1000000) 52 6 0)
  )
set_option maxRecDepth 20000 in
theorem tc_Ro_begin {l : Launch} {D : va_G} {cy : Nat → ClassId} {ad : Nat → Nat} {A : Nat → Prop} (d : Nat) (hd : 2 ≤ d) (p1 : Int32) (p2 : Int32) (p3 : Int32) (M : aw_M) (M1 : aw_M) (h : fc_Ro_begin p1 p2 p3 M = some M1) : AX l D cy ad A gc_G yX5_begin cX5_begin 4 none d [.ref (ad 52), .int p1, .int p2, .int p3] M none M1 := by
  have hd1 : (d - 1) + 1 ≤ d := by omega
  have hm1 : 1 ≤ d := by omega
  have hh_1 : 1 ≤ d - 1 := by omega
  refine AX.of (own := RX5) (by decide +kernel) rfl (Nat.le_of_ble_eq_true rfl) ?_
  unfold fc_Ro_begin at h
  show AW l D cy ad A gc_G RX5 cX5_begin 4 none d none M1 0 [(0, .ref (ad 52)), (1, .int p1), (2, .int p2), (3, .int p3)] [] M
  refine x_aload_n (pc := 0) 0 dX5_begin_0 rfl rfl ?_
  refine x_iload_n (pc := 1) 1 dX5_begin_1 rfl rfl ?_
  refine x_iconst (pc := 2) (w := 0) dX5_begin_2 ic_0 ?_
  refine x_aload_n (pc := 3) 0 dX5_begin_3 rfl rfl ?_
  refine x_get (pc := 4) dX5_begin_4 lk_X5_9 gc_52 rfl rfl ?_
  refine x_rlen (pc := 7) (w := 6) dX5_begin_7 gc_38 (fun _ => rfl) rfl ?_
  obtain ⟨r_2, M_3, e_1, h⟩ := aw_bi_e h
  refine x_callSN (pc := 8) (As := [.int p1, .int 0, .int 6]) (rest := [.ref (ad 52)]) (st' := [.int r_2, .ref (ad 52)]) (w := (some (.int r_2))) (host := "LoopsBelow") dX5_begin_8 (by decide +kernel) cw_X5_19 hd1 rfl rfl (Nat.le_of_ble_eq_true rfl) (tc_LB_held (d - 1) hh_1 p1 0 6 _ _ _ e_1) rfl ?_
  refine x_put (pc := 11) (x := r_2) dX5_begin_11 lk_X5_23 lp_X5_2 gc_52 rfl rfl rfl rfl ?_
  refine x_aload_n (pc := 14) 0 dX5_begin_14 rfl rfl ?_
  refine x_iload_n (pc := 15) 2 dX5_begin_15 rfl rfl ?_
  refine x_put (pc := 16) (x := p2) dX5_begin_16 lk_X5_27 lp_X5_3 gc_52 rfl rfl rfl rfl ?_
  refine x_aload_n (pc := 19) 0 dX5_begin_19 rfl rfl ?_
  refine x_iload_n (pc := 20) 3 dX5_begin_20 rfl rfl ?_
  refine x_put (pc := 21) (x := p3) dX5_begin_21 lk_X5_30 lp_X5_4 gc_52 rfl rfl rfl rfl ?_
  refine x_aload_n (pc := 24) 0 dX5_begin_24 rfl rfl ?_
  refine x_ldc (pc := 25) dX5_begin_25 wk_X5_33 ?_
  refine x_put (pc := 27) (x := 1000000) dX5_begin_27 lk_X5_34 lp_X5_5 gc_52 rfl rfl rfl rfl ?_
  refine x_aload_n (pc := 30) 0 dX5_begin_30 rfl rfl ?_
  refine x_iconst (pc := 31) (w := 0) dX5_begin_31 ic_0 ?_
  refine x_put (pc := 32) (x := 0) dX5_begin_32 lk_X5_37 lp_X5_6 gc_52 rfl rfl rfl rfl ?_
  obtain rfl := aw_sv h
  exact x_vret (pc := 35) dX5_begin_35
def fc_Ro_sewOn_L4 : Nat → Nat → Int32 → Int32 → aw_M → Option (Int32 × aw_M)
  | 0, _, _, _, _ => none
  | n + 1, i1, p2, p3, M =>
    if (M 52 4) ≤ p3 then (
      some (p2, M)
    ) else (
      aw_bi (fc_Ga_shows i1 2 M) fun r_3 M_4 => (
      if r_3 = 0 then (
        aw_bi (fc_Cl_lintOfYard i1 M_4) fun r_7 M_8 => (
        aw_bv (fc_Ma_gather 2 r_7 M_8) fun M_10 => (
        fc_Ro_sewOn_L4 n i1 p2 (p3 + 1) M_10
        )
        )
      ) else (
        aw_bi (fc_Cl_lintOfYard i1 M_4) fun r_12 M_13 => (
        aw_bv (fc_Ma_gather 2 r_12 M_13) fun M_15 => (
        fc_Ro_sewOn_L4 n i1 (p2 + 1) (p3 + 1) M_15
        )
        )
      )
      )
    )
theorem fc_Ro_sewOn_L4_s (n : Nat) (i1 : Nat) (p2 : Int32) (p3 : Int32) (M : aw_M) : fc_Ro_sewOn_L4 (n + 1) i1 p2 p3 M = (
    if (M 52 4) ≤ p3 then (
      some (p2, M)
    ) else (
      aw_bi (fc_Ga_shows i1 2 M) fun r_3 M_4 => (
      if r_3 = 0 then (
        aw_bi (fc_Cl_lintOfYard i1 M_4) fun r_7 M_8 => (
        aw_bv (fc_Ma_gather 2 r_7 M_8) fun M_10 => (
        fc_Ro_sewOn_L4 n i1 p2 (p3 + 1) M_10
        )
        )
      ) else (
        aw_bi (fc_Cl_lintOfYard i1 M_4) fun r_12 M_13 => (
        aw_bv (fc_Ma_gather 2 r_12 M_13) fun M_15 => (
        fc_Ro_sewOn_L4 n i1 (p2 + 1) (p3 + 1) M_15
        )
        )
      )
      )
    )
    ) := rfl
set_option maxRecDepth 20000 in
theorem tc_Ro_sewOn_L4 {l : Launch} {D : va_G} {cy : Nat → ClassId} {ad : Nat → Nat} {A : Nat → Prop} (d : Nat) (hd : 5 ≤ d) : ∀ (n : Nat) (i1 : Nat) (h1 : i1 < 6) (p2 : Int32) (p3 : Int32) (M : aw_M) (r : Int32) (M1 : aw_M), fc_Ro_sewOn_L4 n i1 p2 p3 M = some (r, M1) → AW l D cy ad A gc_G RX5 cX5_sewOn 4 (some .int) d (some (.int r)) M1 4 [(0, .ref (ad 52)), (1, .ref (ad (39 + i1))), (2, .int p2), (3, .int p3)] [] M := by
  have hd1 : (d - 1) + 1 ≤ d := by omega
  have hm1 : 1 ≤ d := by omega
  have hh_0 : 0 ≤ d - 1 := by omega
  have hh_1 : 1 ≤ d - 1 := by omega
  have hh_4 : 4 ≤ d - 1 := by omega
  intro n
  induction n with
  | zero => intro i1 h1 p2 p3 M r M1 h; cases h
  | succ n ih =>
    intro i1 h1 p2 p3 M r M1 h
    rw [fc_Ro_sewOn_L4_s] at h
    refine x_iload_n (pc := 4) 3 dX5_sewOn_4 rfl rfl ?_
    refine x_aload_n (pc := 5) 0 dX5_sewOn_5 rfl rfl ?_
    refine x_get (pc := 6) dX5_sewOn_6 lk_X5_30 gc_52 rfl rfl ?_
    refine x_icmp_ge (pc := 9) 46 dX5_sewOn_9 (by decide) (fun c_1 => ?_) (fun c_1 => ?_)
    · have h := aw_pos h c_1
      refine x_iload_n (pc := 46) 2 dX5_sewOn_46 rfl rfl ?_
      obtain ⟨rfl, rfl⟩ := aw_so h
      exact x_iret (pc := 47) dX5_sewOn_47
    · have h := aw_neg h c_1
      refine x_aload_n (pc := 12) 1 dX5_sewOn_12 rfl rfl ?_
      refine x_aload_n (pc := 13) 0 dX5_sewOn_13 rfl rfl ?_
      refine x_get (pc := 14) dX5_sewOn_14 lk_X5_15 gc_52 rfl rfl ?_
      obtain ⟨r_3, M_4, e_2, h⟩ := aw_bi_e h
      refine x_callV (pc := 17) (As := [.ref (ad 5)]) (rest := []) (st' := [.int r_3]) (w := (some (.int r_3))) dX5_sewOn_17 cw_X5_53 hd1 (gc_gauge (i := i1) h1) rfl rfl rfl (Nat.le_of_ble_eq_true rfl) (tc_Ga_shows (d - 1) hh_4 i1 h1 2 (by decide) _ _ _ e_2) rfl ?_
      refine x_if_eq (pc := 20) 26 dX5_sewOn_20 (by decide) (fun c_5 => ?_) (fun c_5 => ?_)
      · have h := aw_pos h c_5
        refine x_aload_n (pc := 26) 0 dX5_sewOn_26 rfl rfl ?_
        refine x_get (pc := 27) dX5_sewOn_27 lk_X5_15 gc_52 rfl rfl ?_
        refine x_aload_n (pc := 30) 1 dX5_sewOn_30 rfl rfl ?_
        refine x_get (pc := 31) dX5_sewOn_31 lk_X5_59 (gc_gauge (i := i1) h1) rfl rfl ?_
        obtain ⟨r_7, M_8, e_6, h⟩ := aw_bi_e h
        refine x_callV (pc := 34) (As := []) (rest := [.ref (ad 5)]) (st' := [.int r_7, .ref (ad 5)]) (w := (some (.int r_7))) dX5_sewOn_34 cw_X5_63 hd1 (gc_cloth (i := i1) (Nat.lt_of_lt_of_le h1 (by decide))) rfl rfl rfl (Nat.le_of_ble_eq_true rfl) (tc_Cl_lintOfYard (d - 1) hh_0 i1 (Nat.lt_of_lt_of_le h1 (by decide)) _ _ _ e_6) rfl ?_
        obtain ⟨M_10, e_9, h⟩ := aw_bv_e h
        refine x_callV (pc := 37) (As := [.int r_7]) (rest := []) (st' := []) (w := none) dX5_sewOn_37 cw_X5_69 hd1 (gc_mach (i := 2) (by decide)) rfl rfl rfl (Nat.le_of_ble_eq_true rfl) (tc_Ma_gather (d - 1) hh_1 2 (by decide) r_7 _  _ e_9) rfl ?_
        refine x_iinc (pc := 40) (p3 + 1) [(3, .int (p3 + 1)), (0, .ref (ad 52)), (1, .ref (ad (39 + i1))), (2, .int p2)] dX5_sewOn_40 rfl (congrArg (fun z => p3 + z) ic_1) (by decide) rfl ?_
        refine x_goto (pc := 43) 4 dX5_sewOn_43 (by decide) ?_
        refine x_lv [1, 2, 3, 0] [(0, .ref (ad 52)), (1, .ref (ad (39 + i1))), (2, .int p2), (3, .int (p3 + 1))] rfl ?_
        exact ih i1 h1 p2 (p3 + 1) _ _ _ h
      · have h := aw_neg h c_5
        refine x_iinc (pc := 23) (p2 + 1) [(2, .int (p2 + 1)), (0, .ref (ad 52)), (1, .ref (ad (39 + i1))), (3, .int p3)] dX5_sewOn_23 rfl (congrArg (fun z => p2 + z) ic_1) (by decide) rfl ?_
        refine x_aload_n (pc := 26) 0 dX5_sewOn_26 rfl rfl ?_
        refine x_get (pc := 27) dX5_sewOn_27 lk_X5_15 gc_52 rfl rfl ?_
        refine x_aload_n (pc := 30) 1 dX5_sewOn_30 rfl rfl ?_
        refine x_get (pc := 31) dX5_sewOn_31 lk_X5_59 (gc_gauge (i := i1) h1) rfl rfl ?_
        obtain ⟨r_12, M_13, e_11, h⟩ := aw_bi_e h
        refine x_callV (pc := 34) (As := []) (rest := [.ref (ad 5)]) (st' := [.int r_12, .ref (ad 5)]) (w := (some (.int r_12))) dX5_sewOn_34 cw_X5_63 hd1 (gc_cloth (i := i1) (Nat.lt_of_lt_of_le h1 (by decide))) rfl rfl rfl (Nat.le_of_ble_eq_true rfl) (tc_Cl_lintOfYard (d - 1) hh_0 i1 (Nat.lt_of_lt_of_le h1 (by decide)) _ _ _ e_11) rfl ?_
        obtain ⟨M_15, e_14, h⟩ := aw_bv_e h
        refine x_callV (pc := 37) (As := [.int r_12]) (rest := []) (st' := []) (w := none) dX5_sewOn_37 cw_X5_69 hd1 (gc_mach (i := 2) (by decide)) rfl rfl rfl (Nat.le_of_ble_eq_true rfl) (tc_Ma_gather (d - 1) hh_1 2 (by decide) r_12 _  _ e_14) rfl ?_
        refine x_iinc (pc := 40) (p3 + 1) [(3, .int (p3 + 1)), (2, .int (p2 + 1)), (0, .ref (ad 52)), (1, .ref (ad (39 + i1)))] dX5_sewOn_40 rfl (congrArg (fun z => p3 + z) ic_1) (by decide) rfl ?_
        refine x_goto (pc := 43) 4 dX5_sewOn_43 (by decide) ?_
        refine x_lv [2, 3, 1, 0] [(0, .ref (ad 52)), (1, .ref (ad (39 + i1))), (2, .int (p2 + 1)), (3, .int (p3 + 1))] rfl ?_
        exact ih i1 h1 (p2 + 1) (p3 + 1) _ _ _ h
def fc_Ro_sewOn (i1 : Nat) (M : aw_M) : Option (Int32 × aw_M) :=
  fc_Ro_sewOn_L4  2000 i1 0 0 M
set_option maxRecDepth 20000 in
theorem tc_Ro_sewOn {l : Launch} {D : va_G} {cy : Nat → ClassId} {ad : Nat → Nat} {A : Nat → Prop} (d : Nat) (hd : 5 ≤ d) (i1 : Nat) (h1 : i1 < 6) (M : aw_M) (r : Int32) (M1 : aw_M) (h : fc_Ro_sewOn i1 M = some (r, M1)) : AX l D cy ad A gc_G yX5_sewOn cX5_sewOn 4 (some .int) d [.ref (ad 52), .ref (ad (39 + i1))] M (some (.int r)) M1 := by
  have hd1 : (d - 1) + 1 ≤ d := by omega
  have hm1 : 1 ≤ d := by omega
  have hh_0 : 0 ≤ d - 1 := by omega
  have hh_1 : 1 ≤ d - 1 := by omega
  have hh_4 : 4 ≤ d - 1 := by omega
  refine AX.of (own := RX5) (by decide +kernel) rfl (Nat.le_of_ble_eq_true rfl) ?_
  unfold fc_Ro_sewOn at h
  show AW l D cy ad A gc_G RX5 cX5_sewOn 4 (some .int) d (some (.int r)) M1 0 [(0, .ref (ad 52)), (1, .ref (ad (39 + i1)))] [] M
  refine x_iconst (pc := 0) (w := 0) dX5_sewOn_0 ic_0 ?_
  refine x_istore_n (pc := 1) 2 [(2, .int 0), (0, .ref (ad 52)), (1, .ref (ad (39 + i1)))] dX5_sewOn_1 rfl (by decide) rfl ?_
  refine x_iconst (pc := 2) (w := 0) dX5_sewOn_2 ic_0 ?_
  refine x_istore_n (pc := 3) 3 [(3, .int 0), (2, .int 0), (0, .ref (ad 52)), (1, .ref (ad (39 + i1)))] dX5_sewOn_3 rfl (by decide) rfl ?_
  refine x_lv [2, 3, 1, 0] [(0, .ref (ad 52)), (1, .ref (ad (39 + i1))), (2, .int 0), (3, .int 0)] rfl ?_
  exact tc_Ro_sewOn_L4 d hd  2000 i1 h1 0 0 _ _ _ h
def fc_Ro_extend_L41 (g_tc_Ro_extend : Int32 → Int32 → Int32 → Int32 → aw_M → Option aw_M) : Nat → Int32 → Int32 → Int32 → Int32 → Int32 → Int32 → aw_M → Option aw_M
  | 0, _, _, _, _, _, _, _ => none
  | n + 1, p1, p2, p3, p4, p5, p6, M =>
    if (M 52 2) ≤ p6 then (
      some M
    ) else (
      if ((p2 >>> (p6 &&& 31)) &&& 1) = 0 then (
        if aw_in p6 6 then none else (
        aw_bi (fc_Ro_sewOn p6.toNatClampNeg (aw_u M 5 4 p5)) fun r_7 M_8 => (
        if p1 = 0 then (
          aw_bv (g_tc_Ro_extend (p1 + 1) (p2 ||| (1 <<< (p6 &&& 31))) (p3 + r_7) p6 M_8) fun M_13 => (
          fc_Ro_extend_L41 g_tc_Ro_extend n p1 p2 p3 p4 p5 (p6 + 1) M_13
          )
        ) else (
          aw_bv (g_tc_Ro_extend (p1 + 1) (p2 ||| (1 <<< (p6 &&& 31))) (p3 + r_7) p4 M_8) fun M_11 => (
          fc_Ro_extend_L41 g_tc_Ro_extend n p1 p2 p3 p4 p5 (p6 + 1) M_11
          )
        )
        )
        )
      ) else (
        fc_Ro_extend_L41 g_tc_Ro_extend n p1 p2 p3 p4 p5 (p6 + 1) M
      )
    )
theorem fc_Ro_extend_L41_s (g_tc_Ro_extend : Int32 → Int32 → Int32 → Int32 → aw_M → Option aw_M) (n : Nat) (p1 : Int32) (p2 : Int32) (p3 : Int32) (p4 : Int32) (p5 : Int32) (p6 : Int32) (M : aw_M) : fc_Ro_extend_L41 g_tc_Ro_extend (n + 1) p1 p2 p3 p4 p5 p6 M = (
    if (M 52 2) ≤ p6 then (
      some M
    ) else (
      if ((p2 >>> (p6 &&& 31)) &&& 1) = 0 then (
        if aw_in p6 6 then none else (
        aw_bi (fc_Ro_sewOn p6.toNatClampNeg (aw_u M 5 4 p5)) fun r_7 M_8 => (
        if p1 = 0 then (
          aw_bv (g_tc_Ro_extend (p1 + 1) (p2 ||| (1 <<< (p6 &&& 31))) (p3 + r_7) p6 M_8) fun M_13 => (
          fc_Ro_extend_L41 g_tc_Ro_extend n p1 p2 p3 p4 p5 (p6 + 1) M_13
          )
        ) else (
          aw_bv (g_tc_Ro_extend (p1 + 1) (p2 ||| (1 <<< (p6 &&& 31))) (p3 + r_7) p4 M_8) fun M_11 => (
          fc_Ro_extend_L41 g_tc_Ro_extend n p1 p2 p3 p4 p5 (p6 + 1) M_11
          )
        )
        )
        )
      ) else (
        fc_Ro_extend_L41 g_tc_Ro_extend n p1 p2 p3 p4 p5 (p6 + 1) M
      )
    )
    ) := rfl
set_option maxRecDepth 20000 in
theorem tc_Ro_extend_L41 {l : Launch} {D : va_G} {cy : Nat → ClassId} {ad : Nat → Nat} {A : Nat → Prop} (d0 : Nat) (g_tc_Ro_extend : Int32 → Int32 → Int32 → Int32 → aw_M → Option aw_M) (hg_tc_Ro_extend : ∀ (d : Nat), d0 + 0 ≤ d → ∀ (p1 : Int32) (p2 : Int32) (p3 : Int32) (p4 : Int32) (M : aw_M) (M1 : aw_M), g_tc_Ro_extend  p1 p2 p3 p4 M = some M1 → AX l D cy ad A gc_G yX5_extend cX5_extend 8 none d [.ref (ad 52), .int p1, .int p2, .int p3, .int p4] M none M1) (d : Nat) (hd : d0 + 6 ≤ d) : ∀ (n : Nat) (p1 : Int32) (p2 : Int32) (p3 : Int32) (p4 : Int32) (p5 : Int32) (p6 : Int32) (M : aw_M) (M1 : aw_M), fc_Ro_extend_L41 g_tc_Ro_extend n p1 p2 p3 p4 p5 p6 M = some M1 → AW l D cy ad A gc_G RX5 cX5_extend 8 none d none M1 41 [(0, .ref (ad 52)), (1, .int p1), (2, .int p2), (3, .int p3), (4, .int p4), (5, .int p5), (6, .int p6)] [] M := by
  have hd1 : (d - 1) + 1 ≤ d := by omega
  have hm1 : 1 ≤ d := by omega
  have hh_5 : 5 ≤ d - 1 := by omega
  have ho_0 : d0 + 0 ≤ d - 1 := by omega
  intro n
  induction n with
  | zero => intro p1 p2 p3 p4 p5 p6 M M1 h; cases h
  | succ n ih =>
    intro p1 p2 p3 p4 p5 p6 M M1 h
    rw [fc_Ro_extend_L41_s] at h
    refine x_iload (pc := 41) dX5_extend_41 rfl ?_
    refine x_aload_n (pc := 43) 0 dX5_extend_43 rfl rfl ?_
    refine x_get (pc := 44) dX5_extend_44 lk_X5_23 gc_52 rfl rfl ?_
    refine x_icmp_ge (pc := 47) 115 dX5_extend_47 (by decide) (fun c_3 => ?_) (fun c_3 => ?_)
    · have h := aw_pos h c_3
      obtain rfl := aw_sv h
      exact x_vret (pc := 115) dX5_extend_115
    · have h := aw_neg h c_3
      refine x_iload_n (pc := 50) 2 dX5_extend_50 rfl rfl ?_
      refine x_iload (pc := 51) dX5_extend_51 rfl ?_
      refine x_ishr (pc := 53) dX5_extend_53 ?_
      refine x_iconst (pc := 54) (w := 1) dX5_extend_54 ic_1 ?_
      refine x_iand (pc := 55) dX5_extend_55 ?_
      refine x_if_ne (pc := 56) 109 dX5_extend_56 (by decide) (fun c_4 => ?_) (fun c_4 => ?_)
      · have h := aw_neg h c_4
        refine x_iinc (pc := 109) (p6 + 1) [(6, .int (p6 + 1)), (0, .ref (ad 52)), (1, .int p1), (2, .int p2), (3, .int p3), (4, .int p4), (5, .int p5)] dX5_extend_109 rfl (congrArg (fun z => p6 + z) ic_1) (by decide) rfl ?_
        refine x_goto (pc := 112) 41 dX5_extend_112 (by decide) ?_
        refine x_lv [1, 2, 3, 4, 5, 6, 0] [(0, .ref (ad 52)), (1, .int p1), (2, .int p2), (3, .int p3), (4, .int p4), (5, .int p5), (6, .int (p6 + 1))] rfl ?_
        exact ih p1 p2 p3 p4 p5 (p6 + 1) _ _ h
      · have h := aw_pos h c_4
        refine x_aload_n (pc := 59) 0 dX5_extend_59 rfl rfl ?_
        refine x_get (pc := 60) dX5_extend_60 lk_X5_15 gc_52 rfl rfl ?_
        refine x_iload (pc := 63) dX5_extend_63 rfl ?_
        refine x_put (pc := 65) (x := p5) dX5_extend_65 lk_X5_40 lp_X4_4 (gc_mach (i := 2) (by decide)) rfl rfl rfl rfl ?_
        refine x_aload_n (pc := 68) 0 dX5_extend_68 rfl rfl ?_
        refine x_aload_n (pc := 69) 0 dX5_extend_69 rfl rfl ?_
        refine x_get (pc := 70) dX5_extend_70 lk_X5_9 gc_52 rfl rfl ?_
        refine x_iload (pc := 73) dX5_extend_73 rfl ?_
        obtain ⟨c_5, h⟩ := aw_ck h
        refine x_aald (pc := 75) dX5_extend_75 gc_38 (fun _ => rfl) c_5 (ga_38 (aw_lt c_5)) ?_
        obtain ⟨r_7, M_8, e_6, h⟩ := aw_bi_e h
        refine x_callV (pc := 76) (As := [.ref (ad (39 + p6.toNatClampNeg))]) (rest := []) (st' := [.int r_7]) (w := (some (.int r_7))) dX5_extend_76 cw_X5_45 hd1 gc_52 rfl rfl rfl (Nat.le_of_ble_eq_true rfl) (tc_Ro_sewOn (d - 1) hh_5 p6.toNatClampNeg (aw_lt c_5) _ _ _ e_6) rfl ?_
        refine x_istore (pc := 79) 7 [(7, .int r_7), (0, .ref (ad 52)), (1, .int p1), (2, .int p2), (3, .int p3), (4, .int p4), (5, .int p5), (6, .int p6)] dX5_extend_79 (by decide) rfl ?_
        refine x_aload_n (pc := 81) 0 dX5_extend_81 rfl rfl ?_
        refine x_iload_n (pc := 82) 1 dX5_extend_82 rfl rfl ?_
        refine x_iconst (pc := 83) (w := 1) dX5_extend_83 ic_1 ?_
        refine x_iadd (pc := 84) dX5_extend_84 ?_
        refine x_iload_n (pc := 85) 2 dX5_extend_85 rfl rfl ?_
        refine x_iconst (pc := 86) (w := 1) dX5_extend_86 ic_1 ?_
        refine x_iload (pc := 87) dX5_extend_87 rfl ?_
        refine x_ishl (pc := 89) dX5_extend_89 ?_
        refine x_ior (pc := 90) dX5_extend_90 ?_
        refine x_iload_n (pc := 91) 3 dX5_extend_91 rfl rfl ?_
        refine x_iload (pc := 92) dX5_extend_92 rfl ?_
        refine x_iadd (pc := 94) dX5_extend_94 ?_
        refine x_iload_n (pc := 95) 1 dX5_extend_95 rfl rfl ?_
        refine x_if_ne (pc := 96) 104 dX5_extend_96 (by decide) (fun c_9 => ?_) (fun c_9 => ?_)
        · have h := aw_neg h c_9
          refine x_iload (pc := 104) dX5_extend_104 rfl ?_
          obtain ⟨M_11, e_10, h⟩ := aw_bv_e h
          refine x_callV (pc := 106) (As := [.int (p1 + 1), .int (p2 ||| (1 <<< (p6 &&& 31))), .int (p3 + r_7), .int p4]) (rest := []) (st' := []) (w := none) dX5_extend_106 cw_X5_49 hd1 gc_52 rfl rfl rfl (Nat.le_of_ble_eq_true rfl) (hg_tc_Ro_extend (d - 1) ho_0 (p1 + 1) (p2 ||| (1 <<< (p6 &&& 31))) (p3 + r_7) p4 _  _ e_10) rfl ?_
          refine x_iinc (pc := 109) (p6 + 1) [(6, .int (p6 + 1)), (7, .int r_7), (0, .ref (ad 52)), (1, .int p1), (2, .int p2), (3, .int p3), (4, .int p4), (5, .int p5)] dX5_extend_109 rfl (congrArg (fun z => p6 + z) ic_1) (by decide) rfl ?_
          refine x_goto (pc := 112) 41 dX5_extend_112 (by decide) ?_
          refine x_lv [2, 3, 4, 5, 6, 7, 0] [(0, .ref (ad 52)), (1, .int p1), (2, .int p2), (3, .int p3), (4, .int p4), (5, .int p5), (6, .int (p6 + 1))] rfl ?_
          exact ih p1 p2 p3 p4 p5 (p6 + 1) _ _ h
        · have h := aw_pos h c_9
          refine x_iload (pc := 99) dX5_extend_99 rfl ?_
          refine x_goto (pc := 101) 106 dX5_extend_101 (by decide) ?_
          obtain ⟨M_13, e_12, h⟩ := aw_bv_e h
          refine x_callV (pc := 106) (As := [.int (p1 + 1), .int (p2 ||| (1 <<< (p6 &&& 31))), .int (p3 + r_7), .int p6]) (rest := []) (st' := []) (w := none) dX5_extend_106 cw_X5_49 hd1 gc_52 rfl rfl rfl (Nat.le_of_ble_eq_true rfl) (hg_tc_Ro_extend (d - 1) ho_0 (p1 + 1) (p2 ||| (1 <<< (p6 &&& 31))) (p3 + r_7) p6 _  _ e_12) rfl ?_
          refine x_iinc (pc := 109) (p6 + 1) [(6, .int (p6 + 1)), (7, .int r_7), (0, .ref (ad 52)), (1, .int p1), (2, .int p2), (3, .int p3), (4, .int p4), (5, .int p5)] dX5_extend_109 rfl (congrArg (fun z => p6 + z) ic_1) (by decide) rfl ?_
          refine x_goto (pc := 112) 41 dX5_extend_112 (by decide) ?_
          refine x_lv [2, 3, 4, 5, 6, 7, 0] [(0, .ref (ad 52)), (1, .int p1), (2, .int p2), (3, .int p3), (4, .int p4), (5, .int p5), (6, .int (p6 + 1))] rfl ?_
          exact ih p1 p2 p3 p4 p5 (p6 + 1) _ _ h
def fc_Ro_extend (g_tc_Ro_extend : Int32 → Int32 → Int32 → Int32 → aw_M → Option aw_M) (p1 : Int32) (p2 : Int32) (p3 : Int32) (p4 : Int32) (M : aw_M) : Option aw_M :=
  if p3 < (M 52 5) then (
    if p1 < (M 52 3) then (
      fc_Ro_extend_L41 g_tc_Ro_extend  2000 p1 p2 p3 p4 (M 5 4) 0 M
    ) else (
      some (aw_u (aw_u M 52 5 p3) 52 6 p4)
    )
  ) else (
    some M
  )
set_option maxRecDepth 20000 in
theorem tc_Ro_extend {l : Launch} {D : va_G} {cy : Nat → ClassId} {ad : Nat → Nat} {A : Nat → Prop} (d0 : Nat) (g_tc_Ro_extend : Int32 → Int32 → Int32 → Int32 → aw_M → Option aw_M) (hg_tc_Ro_extend : ∀ (d : Nat), d0 + 0 ≤ d → ∀ (p1 : Int32) (p2 : Int32) (p3 : Int32) (p4 : Int32) (M : aw_M) (M1 : aw_M), g_tc_Ro_extend  p1 p2 p3 p4 M = some M1 → AX l D cy ad A gc_G yX5_extend cX5_extend 8 none d [.ref (ad 52), .int p1, .int p2, .int p3, .int p4] M none M1) (d : Nat) (hd : d0 + 6 ≤ d) (p1 : Int32) (p2 : Int32) (p3 : Int32) (p4 : Int32) (M : aw_M) (M1 : aw_M) (h : fc_Ro_extend g_tc_Ro_extend p1 p2 p3 p4 M = some M1) : AX l D cy ad A gc_G yX5_extend cX5_extend 8 none d [.ref (ad 52), .int p1, .int p2, .int p3, .int p4] M none M1 := by
  have hd1 : (d - 1) + 1 ≤ d := by omega
  have hm1 : 1 ≤ d := by omega
  have hh_5 : 5 ≤ d - 1 := by omega
  have ho_0 : d0 + 0 ≤ d - 1 := by omega
  refine AX.of (own := RX5) (by decide +kernel) rfl (Nat.le_of_ble_eq_true rfl) ?_
  unfold fc_Ro_extend at h
  show AW l D cy ad A gc_G RX5 cX5_extend 8 none d none M1 0 [(0, .ref (ad 52)), (1, .int p1), (2, .int p2), (3, .int p3), (4, .int p4)] [] M
  refine x_iload_n (pc := 0) 3 dX5_extend_0 rfl rfl ?_
  refine x_aload_n (pc := 1) 0 dX5_extend_1 rfl rfl ?_
  refine x_get (pc := 2) dX5_extend_2 lk_X5_34 gc_52 rfl rfl ?_
  refine x_icmp_lt (pc := 5) 9 dX5_extend_5 (by decide) (fun c_1 => ?_) (fun c_1 => ?_)
  · have h := aw_pos h c_1
    refine x_iload_n (pc := 9) 1 dX5_extend_9 rfl rfl ?_
    refine x_aload_n (pc := 10) 0 dX5_extend_10 rfl rfl ?_
    refine x_get (pc := 11) dX5_extend_11 lk_X5_27 gc_52 rfl rfl ?_
    refine x_icmp_lt (pc := 14) 29 dX5_extend_14 (by decide) (fun c_2 => ?_) (fun c_2 => ?_)
    · have h := aw_pos h c_2
      refine x_aload_n (pc := 29) 0 dX5_extend_29 rfl rfl ?_
      refine x_get (pc := 30) dX5_extend_30 lk_X5_15 gc_52 rfl rfl ?_
      refine x_get (pc := 33) dX5_extend_33 lk_X5_40 (gc_mach (i := 2) (by decide)) rfl rfl ?_
      refine x_istore (pc := 36) 5 [(5, .int (M 5 4)), (0, .ref (ad 52)), (1, .int p1), (2, .int p2), (3, .int p3), (4, .int p4)] dX5_extend_36 (by decide) rfl ?_
      refine x_iconst (pc := 38) (w := 0) dX5_extend_38 ic_0 ?_
      refine x_istore (pc := 39) 6 [(6, .int 0), (5, .int (M 5 4)), (0, .ref (ad 52)), (1, .int p1), (2, .int p2), (3, .int p3), (4, .int p4)] dX5_extend_39 (by decide) rfl ?_
      refine x_lv [2, 3, 4, 5, 6, 1, 0] [(0, .ref (ad 52)), (1, .int p1), (2, .int p2), (3, .int p3), (4, .int p4), (5, .int (M 5 4)), (6, .int 0)] rfl ?_
      exact tc_Ro_extend_L41 d0  g_tc_Ro_extend hg_tc_Ro_extend d hd  2000 p1 p2 p3 p4 (M 5 4) 0 _ _ h
    · have h := aw_neg h c_2
      refine x_aload_n (pc := 17) 0 dX5_extend_17 rfl rfl ?_
      refine x_iload_n (pc := 18) 3 dX5_extend_18 rfl rfl ?_
      refine x_put (pc := 19) (x := p3) dX5_extend_19 lk_X5_34 lp_X5_5 gc_52 rfl rfl rfl rfl ?_
      refine x_aload_n (pc := 22) 0 dX5_extend_22 rfl rfl ?_
      refine x_iload (pc := 23) dX5_extend_23 rfl ?_
      refine x_put (pc := 25) (x := p4) dX5_extend_25 lk_X5_37 lp_X5_6 gc_52 rfl rfl rfl rfl ?_
      obtain rfl := aw_sv h
      exact x_vret (pc := 28) dX5_extend_28
  · have h := aw_neg h c_1
    obtain rfl := aw_sv h
    exact x_vret (pc := 8) dX5_extend_8
def FX_fc_Ro_extend : Nat → Int32 → Int32 → Int32 → Int32 → aw_M → Option aw_M
  | 0, _, _, _, _, _ => none
  | n + 1, p1, p2, p3, p4, M => fc_Ro_extend (FX_fc_Ro_extend n) p1 p2 p3 p4 M
theorem FX_fc_Ro_extend_ok {l : Launch} {D : va_G} {cy : Nat → ClassId} {ad : Nat → Nat} {A : Nat → Prop} : ∀ (n d : Nat), n * 7 ≤ d → ∀ (p1 : Int32) (p2 : Int32) (p3 : Int32) (p4 : Int32) (M : aw_M) (M1 : aw_M), FX_fc_Ro_extend n p1 p2 p3 p4 M = some M1 → AX l D cy ad A gc_G yX5_extend cX5_extend 8 none d [.ref (ad 52), .int p1, .int p2, .int p3, .int p4] M none M1 := by
  intro n
  induction n with
  | zero => intro d _ p1 p2 p3 p4 M M1 h; cases h
  | succ n ih =>
    intro d hd p1 p2 p3 p4 M M1 h
    exact tc_Ro_extend (n * 7) (FX_fc_Ro_extend n) (fun d hd => ih d (by omega)) d (by omega) p1 p2 p3 p4 M M1 h
def fc_Sh_isMissing (i0 : Nat) (M : aw_M) : Option (Int32 × aw_M) :=
  if (M (59 + i0) 1) = 0 then (
    some (1, M)
  ) else (
    some (0, M)
  )
set_option maxRecDepth 20000 in
theorem tc_Sh_isMissing {l : Launch} {D : va_G} {cy : Nat → ClassId} {ad : Nat → Nat} {A : Nat → Prop} (d : Nat) (hd : 0 ≤ d) (i0 : Nat) (h0 : i0 < 4) (M : aw_M) (r : Int32) (M1 : aw_M) (h : fc_Sh_isMissing i0 M = some (r, M1)) : AX l D cy ad A gc_G yX6_isMissing cX6_isMissing 1 (some .boolean) d [.ref (ad (59 + i0))] M (some (.int r)) M1 := by
  refine AX.of (own := RX6) (by decide +kernel) rfl (Nat.le_of_ble_eq_true rfl) ?_
  unfold fc_Sh_isMissing at h
  show AW l D cy ad A gc_G RX6 cX6_isMissing 1 (some .boolean) d (some (.int r)) M1 0 [(0, .ref (ad (59 + i0)))] [] M
  refine x_aload_n (pc := 0) 0 dX6_isMissing_0 rfl rfl ?_
  refine x_get (pc := 1) dX6_isMissing_1 lk_X6_15 (gc_sheet (i := i0) h0) rfl rfl ?_
  refine x_if_ne (pc := 4) 11 dX6_isMissing_4 (by decide) (fun c_1 => ?_) (fun c_1 => ?_)
  · have h := aw_neg h c_1
    refine x_iconst (pc := 11) (w := 0) dX6_isMissing_11 ic_0 ?_
    obtain ⟨rfl, rfl⟩ := aw_so h
    exact x_zret (pc := 12) aw_b0 dX6_isMissing_12
  · have h := aw_pos h c_1
    refine x_iconst (pc := 7) (w := 1) dX6_isMissing_7 ic_1 ?_
    refine x_goto (pc := 8) 12 dX6_isMissing_8 (by decide) ?_
    obtain ⟨rfl, rfl⟩ := aw_so h
    exact x_zret (pc := 12) aw_b1 dX6_isMissing_12
def fc_Sh_lay (i0 : Nat) (p1 : Int32) (p2 : Int32) (M : aw_M) : Option aw_M :=
  aw_bv (fc_Ar_fill (63 + i0) 40 0 (aw_u (aw_u M (59 + i0) 1 p1) (59 + i0) 2 p2)) fun M_2 => (
  some M_2
  )
set_option maxRecDepth 20000 in
theorem tc_Sh_lay {l : Launch} {D : va_G} {cy : Nat → ClassId} {ad : Nat → Nat} {A : Nat → Prop} (d : Nat) (hd : 1 ≤ d) (i0 : Nat) (h0 : i0 < 4) (p1 : Int32) (p2 : Int32) (M : aw_M) (M1 : aw_M) (h : fc_Sh_lay i0 p1 p2 M = some M1) : AX l D cy ad A gc_G yX6_lay cX6_lay 3 none d [.ref (ad (59 + i0)), .int p1, .int p2] M none M1 := by
  have hd1 : (d - 1) + 1 ≤ d := by omega
  have hm1 : 1 ≤ d := by omega
  have hh_0 : 0 ≤ d - 1 := by omega
  refine AX.of (own := RX6) (by decide +kernel) rfl (Nat.le_of_ble_eq_true rfl) ?_
  unfold fc_Sh_lay at h
  show AW l D cy ad A gc_G RX6 cX6_lay 3 none d none M1 0 [(0, .ref (ad (59 + i0))), (1, .int p1), (2, .int p2)] [] M
  refine x_aload_n (pc := 0) 0 dX6_lay_0 rfl rfl ?_
  refine x_iload_n (pc := 1) 1 dX6_lay_1 rfl rfl ?_
  refine x_put (pc := 2) (x := p1) dX6_lay_2 lk_X6_15 lp_X6_1 (gc_sheet (i := i0) h0) rfl rfl rfl rfl ?_
  refine x_aload_n (pc := 5) 0 dX6_lay_5 rfl rfl ?_
  refine x_iload_n (pc := 6) 2 dX6_lay_6 rfl rfl ?_
  refine x_put (pc := 7) (x := p2) dX6_lay_7 lk_X6_19 lp_X6_2 (gc_sheet (i := i0) h0) rfl rfl rfl rfl ?_
  refine x_aload_n (pc := 10) 0 dX6_lay_10 rfl rfl ?_
  refine x_get (pc := 11) dX6_lay_11 lk_X6_9 (gc_sheet (i := i0) h0) rfl rfl ?_
  refine x_iconst (pc := 14) (w := 0) dX6_lay_14 ic_0 ?_
  obtain ⟨M_2, e_1, h⟩ := aw_bv_e h
  refine x_callS (pc := 15) (As := [.ref (ad (63 + i0)), .int 0]) (rest := []) (st' := []) (w := none) dX6_lay_15 cw_X6_22 hd1 rfl rfl (Nat.le_of_ble_eq_true rfl) (tc_Ar_fill (d - 1) hh_0 (63 + i0) 40 (gc_nums (i := i0) h0) 0 _  _ e_1) rfl ?_
  obtain rfl := aw_sv h
  exact x_vret (pc := 18) dX6_lay_18
def fc_Sh_write (i0 : Nat) (p1 : Int32) (p2 : Int32) (M : aw_M) : Option aw_M :=
  if (M (59 + i0) 1) = 8 then (
    if aw_in p1 40 then none else (
    some (aw_u M (63 + i0) p1.toNatClampNeg p2.toInt8.toInt32)
    )
  ) else (
    if (M (59 + i0) 1) = 16 then (
      if aw_in p1 40 then none else (
      some (aw_u M (63 + i0) p1.toNatClampNeg p2.toInt16.toInt32)
      )
    ) else (
      if aw_in p1 40 then none else (
      some (aw_u M (63 + i0) p1.toNatClampNeg p2)
      )
    )
  )
set_option maxRecDepth 20000 in
theorem tc_Sh_write {l : Launch} {D : va_G} {cy : Nat → ClassId} {ad : Nat → Nat} {A : Nat → Prop} (d : Nat) (hd : 0 ≤ d) (i0 : Nat) (h0 : i0 < 4) (p1 : Int32) (p2 : Int32) (M : aw_M) (M1 : aw_M) (h : fc_Sh_write i0 p1 p2 M = some M1) : AX l D cy ad A gc_G yX6_write cX6_write 3 none d [.ref (ad (59 + i0)), .int p1, .int p2] M none M1 := by
  refine AX.of (own := RX6) (by decide +kernel) rfl (Nat.le_of_ble_eq_true rfl) ?_
  unfold fc_Sh_write at h
  show AW l D cy ad A gc_G RX6 cX6_write 3 none d none M1 0 [(0, .ref (ad (59 + i0))), (1, .int p1), (2, .int p2)] [] M
  refine x_aload_n (pc := 0) 0 dX6_write_0 rfl rfl ?_
  refine x_get (pc := 1) dX6_write_1 lk_X6_9 (gc_sheet (i := i0) h0) rfl rfl ?_
  refine x_iload_n (pc := 4) 1 dX6_write_4 rfl rfl ?_
  refine x_aload_n (pc := 5) 0 dX6_write_5 rfl rfl ?_
  refine x_get (pc := 6) dX6_write_6 lk_X6_15 (gc_sheet (i := i0) h0) rfl rfl ?_
  refine x_bipush (pc := 9) (w := 8) dX6_write_9 bi_8 ?_
  refine x_icmp_ne (pc := 11) 19 dX6_write_11 (by decide) (fun c_1 => ?_) (fun c_1 => ?_)
  · have h := aw_neg h c_1
    refine x_aload_n (pc := 19) 0 dX6_write_19 rfl rfl ?_
    refine x_get (pc := 20) dX6_write_20 lk_X6_15 (gc_sheet (i := i0) h0) rfl rfl ?_
    refine x_bipush (pc := 23) (w := 16) dX6_write_23 bi_16 ?_
    refine x_icmp_ne (pc := 25) 33 dX6_write_25 (by decide) (fun c_2 => ?_) (fun c_2 => ?_)
    · have h := aw_neg h c_2
      refine x_iload_n (pc := 33) 2 dX6_write_33 rfl rfl ?_
      obtain ⟨c_3, h⟩ := aw_ck h
      refine x_iast (pc := 34) dX6_write_34 (gc_nums (i := i0) h0) c_3 ?_
      obtain rfl := aw_sv h
      exact x_vret (pc := 35) dX6_write_35
    · have h := aw_pos h c_2
      refine x_iload_n (pc := 28) 2 dX6_write_28 rfl rfl ?_
      refine x_i2s (pc := 29) dX6_write_29 ?_
      refine x_goto (pc := 30) 34 dX6_write_30 (by decide) ?_
      obtain ⟨c_4, h⟩ := aw_ck h
      refine x_iast (pc := 34) dX6_write_34 (gc_nums (i := i0) h0) c_4 ?_
      obtain rfl := aw_sv h
      exact x_vret (pc := 35) dX6_write_35
  · have h := aw_pos h c_1
    refine x_iload_n (pc := 14) 2 dX6_write_14 rfl rfl ?_
    refine x_i2b (pc := 15) dX6_write_15 ?_
    refine x_goto (pc := 16) 34 dX6_write_16 (by decide) ?_
    obtain ⟨c_5, h⟩ := aw_ck h
    refine x_iast (pc := 34) dX6_write_34 (gc_nums (i := i0) h0) c_5 ?_
    obtain rfl := aw_sv h
    exact x_vret (pc := 35) dX6_write_35
def fc_Sh_hasRun (i0 : Nat) (p1 : Int32) (p2 : Int32) (M : aw_M) : Option (Int32 × aw_M) :=
  if p1 < 0 then (
    some (0, M)
  ) else (
    if p2 < 0 then (
      some (0, M)
    ) else (
      if (M (59 + i0) 2) < p2 then (
        some (0, M)
      ) else (
        if ((M (59 + i0) 2) - p2) < p1 then (
          some (0, M)
        ) else (
          some (1, M)
        )
      )
    )
  )
set_option maxRecDepth 20000 in
theorem tc_Sh_hasRun {l : Launch} {D : va_G} {cy : Nat → ClassId} {ad : Nat → Nat} {A : Nat → Prop} (d : Nat) (hd : 0 ≤ d) (i0 : Nat) (h0 : i0 < 4) (p1 : Int32) (p2 : Int32) (M : aw_M) (r : Int32) (M1 : aw_M) (h : fc_Sh_hasRun i0 p1 p2 M = some (r, M1)) : AX l D cy ad A gc_G yX6_hasRun cX6_hasRun 3 (some .boolean) d [.ref (ad (59 + i0)), .int p1, .int p2] M (some (.int r)) M1 := by
  refine AX.of (own := RX6) (by decide +kernel) rfl (Nat.le_of_ble_eq_true rfl) ?_
  unfold fc_Sh_hasRun at h
  show AW l D cy ad A gc_G RX6 cX6_hasRun 3 (some .boolean) d (some (.int r)) M1 0 [(0, .ref (ad (59 + i0))), (1, .int p1), (2, .int p2)] [] M
  refine x_iload_n (pc := 0) 1 dX6_hasRun_0 rfl rfl ?_
  refine x_if_lt (pc := 1) 30 dX6_hasRun_1 (by decide) (fun c_1 => ?_) (fun c_1 => ?_)
  · have h := aw_pos h c_1
    refine x_iconst (pc := 30) (w := 0) dX6_hasRun_30 ic_0 ?_
    obtain ⟨rfl, rfl⟩ := aw_so h
    exact x_zret (pc := 31) aw_b0 dX6_hasRun_31
  · have h := aw_neg h c_1
    refine x_iload_n (pc := 4) 2 dX6_hasRun_4 rfl rfl ?_
    refine x_if_lt (pc := 5) 30 dX6_hasRun_5 (by decide) (fun c_2 => ?_) (fun c_2 => ?_)
    · have h := aw_pos h c_2
      refine x_iconst (pc := 30) (w := 0) dX6_hasRun_30 ic_0 ?_
      obtain ⟨rfl, rfl⟩ := aw_so h
      exact x_zret (pc := 31) aw_b0 dX6_hasRun_31
    · have h := aw_neg h c_2
      refine x_iload_n (pc := 8) 2 dX6_hasRun_8 rfl rfl ?_
      refine x_aload_n (pc := 9) 0 dX6_hasRun_9 rfl rfl ?_
      refine x_get (pc := 10) dX6_hasRun_10 lk_X6_19 (gc_sheet (i := i0) h0) rfl rfl ?_
      refine x_icmp_gt (pc := 13) 30 dX6_hasRun_13 (by decide) (fun c_3 => ?_) (fun c_3 => ?_)
      · have h := aw_pos h c_3
        refine x_iconst (pc := 30) (w := 0) dX6_hasRun_30 ic_0 ?_
        obtain ⟨rfl, rfl⟩ := aw_so h
        exact x_zret (pc := 31) aw_b0 dX6_hasRun_31
      · have h := aw_neg h c_3
        refine x_iload_n (pc := 16) 1 dX6_hasRun_16 rfl rfl ?_
        refine x_aload_n (pc := 17) 0 dX6_hasRun_17 rfl rfl ?_
        refine x_get (pc := 18) dX6_hasRun_18 lk_X6_19 (gc_sheet (i := i0) h0) rfl rfl ?_
        refine x_iload_n (pc := 21) 2 dX6_hasRun_21 rfl rfl ?_
        refine x_isub (pc := 22) dX6_hasRun_22 ?_
        refine x_icmp_gt (pc := 23) 30 dX6_hasRun_23 (by decide) (fun c_4 => ?_) (fun c_4 => ?_)
        · have h := aw_pos h c_4
          refine x_iconst (pc := 30) (w := 0) dX6_hasRun_30 ic_0 ?_
          obtain ⟨rfl, rfl⟩ := aw_so h
          exact x_zret (pc := 31) aw_b0 dX6_hasRun_31
        · have h := aw_neg h c_4
          refine x_iconst (pc := 26) (w := 1) dX6_hasRun_26 ic_1 ?_
          refine x_goto (pc := 27) 31 dX6_hasRun_27 (by decide) ?_
          obtain ⟨rfl, rfl⟩ := aw_so h
          exact x_zret (pc := 31) aw_b1 dX6_hasRun_31
def fc_St_copyFrom_12_L13 : Nat → Int32 → aw_M → Option aw_M
  | 0, _, _ => none
  | n + 1, p2, M =>
    if (6 : Int32) ≤ p2 then (
      aw_bv (fc_La_take 0 32 (M 28 2) M) fun M_5 => (
      aw_bv (fc_La_take 1 33 (M_5 29 2) M_5) fun M_7 => (
      if ¬ (¬ (0 : Int32) < 0 ∧ ¬ (0 : Int32) < 0 ∧ ¬ (50 : Int32) < 0 ∧ (0 : Int32).toNatClampNeg + (50 : Int32).toNatClampNeg ≤ 50 ∧ (0 : Int32).toNatClampNeg + (50 : Int32).toNatClampNeg ≤ 50) then none else (
      if ¬ (∀ j, j < (50 : Int32).toNatClampNeg → fits .byte (.int (M_7 11 ((0 : Int32).toNatClampNeg + j))) = true) then none else (
      if ¬ (¬ (0 : Int32) < 0 ∧ ¬ (0 : Int32) < 0 ∧ ¬ (20 : Int32) < 0 ∧ (0 : Int32).toNatClampNeg + (20 : Int32).toNatClampNeg ≤ 20 ∧ (0 : Int32).toNatClampNeg + (20 : Int32).toNatClampNeg ≤ 20) then none else (
      some (aw_u (aw_u (aw_u (aw_u (aw_u (aw_un (aw_un M_7 10 (va_cpy (M_7 11) (M_7 10) (0 : Int32).toNatClampNeg (0 : Int32).toNatClampNeg (50 : Int32).toNatClampNeg)) 12 (va_cpy ((aw_un M_7 10 (va_cpy (M_7 11) (M_7 10) (0 : Int32).toNatClampNeg (0 : Int32).toNatClampNeg (50 : Int32).toNatClampNeg)) 13) ((aw_un M_7 10 (va_cpy (M_7 11) (M_7 10) (0 : Int32).toNatClampNeg (0 : Int32).toNatClampNeg (50 : Int32).toNatClampNeg)) 12) (0 : Int32).toNatClampNeg (0 : Int32).toNatClampNeg (20 : Int32).toNatClampNeg)) 1 5 ((aw_un (aw_un M_7 10 (va_cpy (M_7 11) (M_7 10) (0 : Int32).toNatClampNeg (0 : Int32).toNatClampNeg (50 : Int32).toNatClampNeg)) 12 (va_cpy ((aw_un M_7 10 (va_cpy (M_7 11) (M_7 10) (0 : Int32).toNatClampNeg (0 : Int32).toNatClampNeg (50 : Int32).toNatClampNeg)) 13) ((aw_un M_7 10 (va_cpy (M_7 11) (M_7 10) (0 : Int32).toNatClampNeg (0 : Int32).toNatClampNeg (50 : Int32).toNatClampNeg)) 12) (0 : Int32).toNatClampNeg (0 : Int32).toNatClampNeg (20 : Int32).toNatClampNeg)) 2 5)) 1 6 ((aw_u (aw_un (aw_un M_7 10 (va_cpy (M_7 11) (M_7 10) (0 : Int32).toNatClampNeg (0 : Int32).toNatClampNeg (50 : Int32).toNatClampNeg)) 12 (va_cpy ((aw_un M_7 10 (va_cpy (M_7 11) (M_7 10) (0 : Int32).toNatClampNeg (0 : Int32).toNatClampNeg (50 : Int32).toNatClampNeg)) 13) ((aw_un M_7 10 (va_cpy (M_7 11) (M_7 10) (0 : Int32).toNatClampNeg (0 : Int32).toNatClampNeg (50 : Int32).toNatClampNeg)) 12) (0 : Int32).toNatClampNeg (0 : Int32).toNatClampNeg (20 : Int32).toNatClampNeg)) 1 5 ((aw_un (aw_un M_7 10 (va_cpy (M_7 11) (M_7 10) (0 : Int32).toNatClampNeg (0 : Int32).toNatClampNeg (50 : Int32).toNatClampNeg)) 12 (va_cpy ((aw_un M_7 10 (va_cpy (M_7 11) (M_7 10) (0 : Int32).toNatClampNeg (0 : Int32).toNatClampNeg (50 : Int32).toNatClampNeg)) 13) ((aw_un M_7 10 (va_cpy (M_7 11) (M_7 10) (0 : Int32).toNatClampNeg (0 : Int32).toNatClampNeg (50 : Int32).toNatClampNeg)) 12) (0 : Int32).toNatClampNeg (0 : Int32).toNatClampNeg (20 : Int32).toNatClampNeg)) 2 5)) 2 6)) 1 7 ((aw_u (aw_u (aw_un (aw_un M_7 10 (va_cpy (M_7 11) (M_7 10) (0 : Int32).toNatClampNeg (0 : Int32).toNatClampNeg (50 : Int32).toNatClampNeg)) 12 (va_cpy ((aw_un M_7 10 (va_cpy (M_7 11) (M_7 10) (0 : Int32).toNatClampNeg (0 : Int32).toNatClampNeg (50 : Int32).toNatClampNeg)) 13) ((aw_un M_7 10 (va_cpy (M_7 11) (M_7 10) (0 : Int32).toNatClampNeg (0 : Int32).toNatClampNeg (50 : Int32).toNatClampNeg)) 12) (0 : Int32).toNatClampNeg (0 : Int32).toNatClampNeg (20 : Int32).toNatClampNeg)) 1 5 ((aw_un (aw_un M_7 10 (va_cpy (M_7 11) (M_7 10) (0 : Int32).toNatClampNeg (0 : Int32).toNatClampNeg (50 : Int32).toNatClampNeg)) 12 (va_cpy ((aw_un M_7 10 (va_cpy (M_7 11) (M_7 10) (0 : Int32).toNatClampNeg (0 : Int32).toNatClampNeg (50 : Int32).toNatClampNeg)) 13) ((aw_un M_7 10 (va_cpy (M_7 11) (M_7 10) (0 : Int32).toNatClampNeg (0 : Int32).toNatClampNeg (50 : Int32).toNatClampNeg)) 12) (0 : Int32).toNatClampNeg (0 : Int32).toNatClampNeg (20 : Int32).toNatClampNeg)) 2 5)) 1 6 ((aw_u (aw_un (aw_un M_7 10 (va_cpy (M_7 11) (M_7 10) (0 : Int32).toNatClampNeg (0 : Int32).toNatClampNeg (50 : Int32).toNatClampNeg)) 12 (va_cpy ((aw_un M_7 10 (va_cpy (M_7 11) (M_7 10) (0 : Int32).toNatClampNeg (0 : Int32).toNatClampNeg (50 : Int32).toNatClampNeg)) 13) ((aw_un M_7 10 (va_cpy (M_7 11) (M_7 10) (0 : Int32).toNatClampNeg (0 : Int32).toNatClampNeg (50 : Int32).toNatClampNeg)) 12) (0 : Int32).toNatClampNeg (0 : Int32).toNatClampNeg (20 : Int32).toNatClampNeg)) 1 5 ((aw_un (aw_un M_7 10 (va_cpy (M_7 11) (M_7 10) (0 : Int32).toNatClampNeg (0 : Int32).toNatClampNeg (50 : Int32).toNatClampNeg)) 12 (va_cpy ((aw_un M_7 10 (va_cpy (M_7 11) (M_7 10) (0 : Int32).toNatClampNeg (0 : Int32).toNatClampNeg (50 : Int32).toNatClampNeg)) 13) ((aw_un M_7 10 (va_cpy (M_7 11) (M_7 10) (0 : Int32).toNatClampNeg (0 : Int32).toNatClampNeg (50 : Int32).toNatClampNeg)) 12) (0 : Int32).toNatClampNeg (0 : Int32).toNatClampNeg (20 : Int32).toNatClampNeg)) 2 5)) 2 6)) 2 7)) 1 8 ((aw_u (aw_u (aw_u (aw_un (aw_un M_7 10 (va_cpy (M_7 11) (M_7 10) (0 : Int32).toNatClampNeg (0 : Int32).toNatClampNeg (50 : Int32).toNatClampNeg)) 12 (va_cpy ((aw_un M_7 10 (va_cpy (M_7 11) (M_7 10) (0 : Int32).toNatClampNeg (0 : Int32).toNatClampNeg (50 : Int32).toNatClampNeg)) 13) ((aw_un M_7 10 (va_cpy (M_7 11) (M_7 10) (0 : Int32).toNatClampNeg (0 : Int32).toNatClampNeg (50 : Int32).toNatClampNeg)) 12) (0 : Int32).toNatClampNeg (0 : Int32).toNatClampNeg (20 : Int32).toNatClampNeg)) 1 5 ((aw_un (aw_un M_7 10 (va_cpy (M_7 11) (M_7 10) (0 : Int32).toNatClampNeg (0 : Int32).toNatClampNeg (50 : Int32).toNatClampNeg)) 12 (va_cpy ((aw_un M_7 10 (va_cpy (M_7 11) (M_7 10) (0 : Int32).toNatClampNeg (0 : Int32).toNatClampNeg (50 : Int32).toNatClampNeg)) 13) ((aw_un M_7 10 (va_cpy (M_7 11) (M_7 10) (0 : Int32).toNatClampNeg (0 : Int32).toNatClampNeg (50 : Int32).toNatClampNeg)) 12) (0 : Int32).toNatClampNeg (0 : Int32).toNatClampNeg (20 : Int32).toNatClampNeg)) 2 5)) 1 6 ((aw_u (aw_un (aw_un M_7 10 (va_cpy (M_7 11) (M_7 10) (0 : Int32).toNatClampNeg (0 : Int32).toNatClampNeg (50 : Int32).toNatClampNeg)) 12 (va_cpy ((aw_un M_7 10 (va_cpy (M_7 11) (M_7 10) (0 : Int32).toNatClampNeg (0 : Int32).toNatClampNeg (50 : Int32).toNatClampNeg)) 13) ((aw_un M_7 10 (va_cpy (M_7 11) (M_7 10) (0 : Int32).toNatClampNeg (0 : Int32).toNatClampNeg (50 : Int32).toNatClampNeg)) 12) (0 : Int32).toNatClampNeg (0 : Int32).toNatClampNeg (20 : Int32).toNatClampNeg)) 1 5 ((aw_un (aw_un M_7 10 (va_cpy (M_7 11) (M_7 10) (0 : Int32).toNatClampNeg (0 : Int32).toNatClampNeg (50 : Int32).toNatClampNeg)) 12 (va_cpy ((aw_un M_7 10 (va_cpy (M_7 11) (M_7 10) (0 : Int32).toNatClampNeg (0 : Int32).toNatClampNeg (50 : Int32).toNatClampNeg)) 13) ((aw_un M_7 10 (va_cpy (M_7 11) (M_7 10) (0 : Int32).toNatClampNeg (0 : Int32).toNatClampNeg (50 : Int32).toNatClampNeg)) 12) (0 : Int32).toNatClampNeg (0 : Int32).toNatClampNeg (20 : Int32).toNatClampNeg)) 2 5)) 2 6)) 1 7 ((aw_u (aw_u (aw_un (aw_un M_7 10 (va_cpy (M_7 11) (M_7 10) (0 : Int32).toNatClampNeg (0 : Int32).toNatClampNeg (50 : Int32).toNatClampNeg)) 12 (va_cpy ((aw_un M_7 10 (va_cpy (M_7 11) (M_7 10) (0 : Int32).toNatClampNeg (0 : Int32).toNatClampNeg (50 : Int32).toNatClampNeg)) 13) ((aw_un M_7 10 (va_cpy (M_7 11) (M_7 10) (0 : Int32).toNatClampNeg (0 : Int32).toNatClampNeg (50 : Int32).toNatClampNeg)) 12) (0 : Int32).toNatClampNeg (0 : Int32).toNatClampNeg (20 : Int32).toNatClampNeg)) 1 5 ((aw_un (aw_un M_7 10 (va_cpy (M_7 11) (M_7 10) (0 : Int32).toNatClampNeg (0 : Int32).toNatClampNeg (50 : Int32).toNatClampNeg)) 12 (va_cpy ((aw_un M_7 10 (va_cpy (M_7 11) (M_7 10) (0 : Int32).toNatClampNeg (0 : Int32).toNatClampNeg (50 : Int32).toNatClampNeg)) 13) ((aw_un M_7 10 (va_cpy (M_7 11) (M_7 10) (0 : Int32).toNatClampNeg (0 : Int32).toNatClampNeg (50 : Int32).toNatClampNeg)) 12) (0 : Int32).toNatClampNeg (0 : Int32).toNatClampNeg (20 : Int32).toNatClampNeg)) 2 5)) 1 6 ((aw_u (aw_un (aw_un M_7 10 (va_cpy (M_7 11) (M_7 10) (0 : Int32).toNatClampNeg (0 : Int32).toNatClampNeg (50 : Int32).toNatClampNeg)) 12 (va_cpy ((aw_un M_7 10 (va_cpy (M_7 11) (M_7 10) (0 : Int32).toNatClampNeg (0 : Int32).toNatClampNeg (50 : Int32).toNatClampNeg)) 13) ((aw_un M_7 10 (va_cpy (M_7 11) (M_7 10) (0 : Int32).toNatClampNeg (0 : Int32).toNatClampNeg (50 : Int32).toNatClampNeg)) 12) (0 : Int32).toNatClampNeg (0 : Int32).toNatClampNeg (20 : Int32).toNatClampNeg)) 1 5 ((aw_un (aw_un M_7 10 (va_cpy (M_7 11) (M_7 10) (0 : Int32).toNatClampNeg (0 : Int32).toNatClampNeg (50 : Int32).toNatClampNeg)) 12 (va_cpy ((aw_un M_7 10 (va_cpy (M_7 11) (M_7 10) (0 : Int32).toNatClampNeg (0 : Int32).toNatClampNeg (50 : Int32).toNatClampNeg)) 13) ((aw_un M_7 10 (va_cpy (M_7 11) (M_7 10) (0 : Int32).toNatClampNeg (0 : Int32).toNatClampNeg (50 : Int32).toNatClampNeg)) 12) (0 : Int32).toNatClampNeg (0 : Int32).toNatClampNeg (20 : Int32).toNatClampNeg)) 2 5)) 2 6)) 2 7)) 2 8)) 1 9 ((aw_u (aw_u (aw_u (aw_u (aw_un (aw_un M_7 10 (va_cpy (M_7 11) (M_7 10) (0 : Int32).toNatClampNeg (0 : Int32).toNatClampNeg (50 : Int32).toNatClampNeg)) 12 (va_cpy ((aw_un M_7 10 (va_cpy (M_7 11) (M_7 10) (0 : Int32).toNatClampNeg (0 : Int32).toNatClampNeg (50 : Int32).toNatClampNeg)) 13) ((aw_un M_7 10 (va_cpy (M_7 11) (M_7 10) (0 : Int32).toNatClampNeg (0 : Int32).toNatClampNeg (50 : Int32).toNatClampNeg)) 12) (0 : Int32).toNatClampNeg (0 : Int32).toNatClampNeg (20 : Int32).toNatClampNeg)) 1 5 ((aw_un (aw_un M_7 10 (va_cpy (M_7 11) (M_7 10) (0 : Int32).toNatClampNeg (0 : Int32).toNatClampNeg (50 : Int32).toNatClampNeg)) 12 (va_cpy ((aw_un M_7 10 (va_cpy (M_7 11) (M_7 10) (0 : Int32).toNatClampNeg (0 : Int32).toNatClampNeg (50 : Int32).toNatClampNeg)) 13) ((aw_un M_7 10 (va_cpy (M_7 11) (M_7 10) (0 : Int32).toNatClampNeg (0 : Int32).toNatClampNeg (50 : Int32).toNatClampNeg)) 12) (0 : Int32).toNatClampNeg (0 : Int32).toNatClampNeg (20 : Int32).toNatClampNeg)) 2 5)) 1 6 ((aw_u (aw_un (aw_un M_7 10 (va_cpy (M_7 11) (M_7 10) (0 : Int32).toNatClampNeg (0 : Int32).toNatClampNeg (50 : Int32).toNatClampNeg)) 12 (va_cpy ((aw_un M_7 10 (va_cpy (M_7 11) (M_7 10) (0 : Int32).toNatClampNeg (0 : Int32).toNatClampNeg (50 : Int32).toNatClampNeg)) 13) ((aw_un M_7 10 (va_cpy (M_7 11) (M_7 10) (0 : Int32).toNatClampNeg (0 : Int32).toNatClampNeg (50 : Int32).toNatClampNeg)) 12) (0 : Int32).toNatClampNeg (0 : Int32).toNatClampNeg (20 : Int32).toNatClampNeg)) 1 5 ((aw_un (aw_un M_7 10 (va_cpy (M_7 11) (M_7 10) (0 : Int32).toNatClampNeg (0 : Int32).toNatClampNeg (50 : Int32).toNatClampNeg)) 12 (va_cpy ((aw_un M_7 10 (va_cpy (M_7 11) (M_7 10) (0 : Int32).toNatClampNeg (0 : Int32).toNatClampNeg (50 : Int32).toNatClampNeg)) 13) ((aw_un M_7 10 (va_cpy (M_7 11) (M_7 10) (0 : Int32).toNatClampNeg (0 : Int32).toNatClampNeg (50 : Int32).toNatClampNeg)) 12) (0 : Int32).toNatClampNeg (0 : Int32).toNatClampNeg (20 : Int32).toNatClampNeg)) 2 5)) 2 6)) 1 7 ((aw_u (aw_u (aw_un (aw_un M_7 10 (va_cpy (M_7 11) (M_7 10) (0 : Int32).toNatClampNeg (0 : Int32).toNatClampNeg (50 : Int32).toNatClampNeg)) 12 (va_cpy ((aw_un M_7 10 (va_cpy (M_7 11) (M_7 10) (0 : Int32).toNatClampNeg (0 : Int32).toNatClampNeg (50 : Int32).toNatClampNeg)) 13) ((aw_un M_7 10 (va_cpy (M_7 11) (M_7 10) (0 : Int32).toNatClampNeg (0 : Int32).toNatClampNeg (50 : Int32).toNatClampNeg)) 12) (0 : Int32).toNatClampNeg (0 : Int32).toNatClampNeg (20 : Int32).toNatClampNeg)) 1 5 ((aw_un (aw_un M_7 10 (va_cpy (M_7 11) (M_7 10) (0 : Int32).toNatClampNeg (0 : Int32).toNatClampNeg (50 : Int32).toNatClampNeg)) 12 (va_cpy ((aw_un M_7 10 (va_cpy (M_7 11) (M_7 10) (0 : Int32).toNatClampNeg (0 : Int32).toNatClampNeg (50 : Int32).toNatClampNeg)) 13) ((aw_un M_7 10 (va_cpy (M_7 11) (M_7 10) (0 : Int32).toNatClampNeg (0 : Int32).toNatClampNeg (50 : Int32).toNatClampNeg)) 12) (0 : Int32).toNatClampNeg (0 : Int32).toNatClampNeg (20 : Int32).toNatClampNeg)) 2 5)) 1 6 ((aw_u (aw_un (aw_un M_7 10 (va_cpy (M_7 11) (M_7 10) (0 : Int32).toNatClampNeg (0 : Int32).toNatClampNeg (50 : Int32).toNatClampNeg)) 12 (va_cpy ((aw_un M_7 10 (va_cpy (M_7 11) (M_7 10) (0 : Int32).toNatClampNeg (0 : Int32).toNatClampNeg (50 : Int32).toNatClampNeg)) 13) ((aw_un M_7 10 (va_cpy (M_7 11) (M_7 10) (0 : Int32).toNatClampNeg (0 : Int32).toNatClampNeg (50 : Int32).toNatClampNeg)) 12) (0 : Int32).toNatClampNeg (0 : Int32).toNatClampNeg (20 : Int32).toNatClampNeg)) 1 5 ((aw_un (aw_un M_7 10 (va_cpy (M_7 11) (M_7 10) (0 : Int32).toNatClampNeg (0 : Int32).toNatClampNeg (50 : Int32).toNatClampNeg)) 12 (va_cpy ((aw_un M_7 10 (va_cpy (M_7 11) (M_7 10) (0 : Int32).toNatClampNeg (0 : Int32).toNatClampNeg (50 : Int32).toNatClampNeg)) 13) ((aw_un M_7 10 (va_cpy (M_7 11) (M_7 10) (0 : Int32).toNatClampNeg (0 : Int32).toNatClampNeg (50 : Int32).toNatClampNeg)) 12) (0 : Int32).toNatClampNeg (0 : Int32).toNatClampNeg (20 : Int32).toNatClampNeg)) 2 5)) 2 6)) 2 7)) 1 8 ((aw_u (aw_u (aw_u (aw_un (aw_un M_7 10 (va_cpy (M_7 11) (M_7 10) (0 : Int32).toNatClampNeg (0 : Int32).toNatClampNeg (50 : Int32).toNatClampNeg)) 12 (va_cpy ((aw_un M_7 10 (va_cpy (M_7 11) (M_7 10) (0 : Int32).toNatClampNeg (0 : Int32).toNatClampNeg (50 : Int32).toNatClampNeg)) 13) ((aw_un M_7 10 (va_cpy (M_7 11) (M_7 10) (0 : Int32).toNatClampNeg (0 : Int32).toNatClampNeg (50 : Int32).toNatClampNeg)) 12) (0 : Int32).toNatClampNeg (0 : Int32).toNatClampNeg (20 : Int32).toNatClampNeg)) 1 5 ((aw_un (aw_un M_7 10 (va_cpy (M_7 11) (M_7 10) (0 : Int32).toNatClampNeg (0 : Int32).toNatClampNeg (50 : Int32).toNatClampNeg)) 12 (va_cpy ((aw_un M_7 10 (va_cpy (M_7 11) (M_7 10) (0 : Int32).toNatClampNeg (0 : Int32).toNatClampNeg (50 : Int32).toNatClampNeg)) 13) ((aw_un M_7 10 (va_cpy (M_7 11) (M_7 10) (0 : Int32).toNatClampNeg (0 : Int32).toNatClampNeg (50 : Int32).toNatClampNeg)) 12) (0 : Int32).toNatClampNeg (0 : Int32).toNatClampNeg (20 : Int32).toNatClampNeg)) 2 5)) 1 6 ((aw_u (aw_un (aw_un M_7 10 (va_cpy (M_7 11) (M_7 10) (0 : Int32).toNatClampNeg (0 : Int32).toNatClampNeg (50 : Int32).toNatClampNeg)) 12 (va_cpy ((aw_un M_7 10 (va_cpy (M_7 11) (M_7 10) (0 : Int32).toNatClampNeg (0 : Int32).toNatClampNeg (50 : Int32).toNatClampNeg)) 13) ((aw_un M_7 10 (va_cpy (M_7 11) (M_7 10) (0 : Int32).toNatClampNeg (0 : Int32).toNatClampNeg (50 : Int32).toNatClampNeg)) 12) (0 : Int32).toNatClampNeg (0 : Int32).toNatClampNeg (20 : Int32).toNatClampNeg)) 1 5 ((aw_un (aw_un M_7 10 (va_cpy (M_7 11) (M_7 10) (0 : Int32).toNatClampNeg (0 : Int32).toNatClampNeg (50 : Int32).toNatClampNeg)) 12 (va_cpy ((aw_un M_7 10 (va_cpy (M_7 11) (M_7 10) (0 : Int32).toNatClampNeg (0 : Int32).toNatClampNeg (50 : Int32).toNatClampNeg)) 13) ((aw_un M_7 10 (va_cpy (M_7 11) (M_7 10) (0 : Int32).toNatClampNeg (0 : Int32).toNatClampNeg (50 : Int32).toNatClampNeg)) 12) (0 : Int32).toNatClampNeg (0 : Int32).toNatClampNeg (20 : Int32).toNatClampNeg)) 2 5)) 2 6)) 1 7 ((aw_u (aw_u (aw_un (aw_un M_7 10 (va_cpy (M_7 11) (M_7 10) (0 : Int32).toNatClampNeg (0 : Int32).toNatClampNeg (50 : Int32).toNatClampNeg)) 12 (va_cpy ((aw_un M_7 10 (va_cpy (M_7 11) (M_7 10) (0 : Int32).toNatClampNeg (0 : Int32).toNatClampNeg (50 : Int32).toNatClampNeg)) 13) ((aw_un M_7 10 (va_cpy (M_7 11) (M_7 10) (0 : Int32).toNatClampNeg (0 : Int32).toNatClampNeg (50 : Int32).toNatClampNeg)) 12) (0 : Int32).toNatClampNeg (0 : Int32).toNatClampNeg (20 : Int32).toNatClampNeg)) 1 5 ((aw_un (aw_un M_7 10 (va_cpy (M_7 11) (M_7 10) (0 : Int32).toNatClampNeg (0 : Int32).toNatClampNeg (50 : Int32).toNatClampNeg)) 12 (va_cpy ((aw_un M_7 10 (va_cpy (M_7 11) (M_7 10) (0 : Int32).toNatClampNeg (0 : Int32).toNatClampNeg (50 : Int32).toNatClampNeg)) 13) ((aw_un M_7 10 (va_cpy (M_7 11) (M_7 10) (0 : Int32).toNatClampNeg (0 : Int32).toNatClampNeg (50 : Int32).toNatClampNeg)) 12) (0 : Int32).toNatClampNeg (0 : Int32).toNatClampNeg (20 : Int32).toNatClampNeg)) 2 5)) 1 6 ((aw_u (aw_un (aw_un M_7 10 (va_cpy (M_7 11) (M_7 10) (0 : Int32).toNatClampNeg (0 : Int32).toNatClampNeg (50 : Int32).toNatClampNeg)) 12 (va_cpy ((aw_un M_7 10 (va_cpy (M_7 11) (M_7 10) (0 : Int32).toNatClampNeg (0 : Int32).toNatClampNeg (50 : Int32).toNatClampNeg)) 13) ((aw_un M_7 10 (va_cpy (M_7 11) (M_7 10) (0 : Int32).toNatClampNeg (0 : Int32).toNatClampNeg (50 : Int32).toNatClampNeg)) 12) (0 : Int32).toNatClampNeg (0 : Int32).toNatClampNeg (20 : Int32).toNatClampNeg)) 1 5 ((aw_un (aw_un M_7 10 (va_cpy (M_7 11) (M_7 10) (0 : Int32).toNatClampNeg (0 : Int32).toNatClampNeg (50 : Int32).toNatClampNeg)) 12 (va_cpy ((aw_un M_7 10 (va_cpy (M_7 11) (M_7 10) (0 : Int32).toNatClampNeg (0 : Int32).toNatClampNeg (50 : Int32).toNatClampNeg)) 13) ((aw_un M_7 10 (va_cpy (M_7 11) (M_7 10) (0 : Int32).toNatClampNeg (0 : Int32).toNatClampNeg (50 : Int32).toNatClampNeg)) 12) (0 : Int32).toNatClampNeg (0 : Int32).toNatClampNeg (20 : Int32).toNatClampNeg)) 2 5)) 2 6)) 2 7)) 2 8)) 2 9))
      )
      )
      )
      )
      )
    ) else (
      if aw_in p2 6 then none else (
      if aw_in p2 6 then none else (
      aw_bv (fc_Cl_copyFrom p2.toNatClampNeg (6 + p2.toNatClampNeg) M) fun M_14 => (
      fc_St_copyFrom_12_L13 n (p2 + 1) M_14
      )
      )
      )
    )
theorem fc_St_copyFrom_12_L13_s (n : Nat) (p2 : Int32) (M : aw_M) : fc_St_copyFrom_12_L13 (n + 1) p2 M = (
    if (6 : Int32) ≤ p2 then (
      aw_bv (fc_La_take 0 32 (M 28 2) M) fun M_5 => (
      aw_bv (fc_La_take 1 33 (M_5 29 2) M_5) fun M_7 => (
      if ¬ (¬ (0 : Int32) < 0 ∧ ¬ (0 : Int32) < 0 ∧ ¬ (50 : Int32) < 0 ∧ (0 : Int32).toNatClampNeg + (50 : Int32).toNatClampNeg ≤ 50 ∧ (0 : Int32).toNatClampNeg + (50 : Int32).toNatClampNeg ≤ 50) then none else (
      if ¬ (∀ j, j < (50 : Int32).toNatClampNeg → fits .byte (.int (M_7 11 ((0 : Int32).toNatClampNeg + j))) = true) then none else (
      if ¬ (¬ (0 : Int32) < 0 ∧ ¬ (0 : Int32) < 0 ∧ ¬ (20 : Int32) < 0 ∧ (0 : Int32).toNatClampNeg + (20 : Int32).toNatClampNeg ≤ 20 ∧ (0 : Int32).toNatClampNeg + (20 : Int32).toNatClampNeg ≤ 20) then none else (
      some (aw_u (aw_u (aw_u (aw_u (aw_u (aw_un (aw_un M_7 10 (va_cpy (M_7 11) (M_7 10) (0 : Int32).toNatClampNeg (0 : Int32).toNatClampNeg (50 : Int32).toNatClampNeg)) 12 (va_cpy ((aw_un M_7 10 (va_cpy (M_7 11) (M_7 10) (0 : Int32).toNatClampNeg (0 : Int32).toNatClampNeg (50 : Int32).toNatClampNeg)) 13) ((aw_un M_7 10 (va_cpy (M_7 11) (M_7 10) (0 : Int32).toNatClampNeg (0 : Int32).toNatClampNeg (50 : Int32).toNatClampNeg)) 12) (0 : Int32).toNatClampNeg (0 : Int32).toNatClampNeg (20 : Int32).toNatClampNeg)) 1 5 ((aw_un (aw_un M_7 10 (va_cpy (M_7 11) (M_7 10) (0 : Int32).toNatClampNeg (0 : Int32).toNatClampNeg (50 : Int32).toNatClampNeg)) 12 (va_cpy ((aw_un M_7 10 (va_cpy (M_7 11) (M_7 10) (0 : Int32).toNatClampNeg (0 : Int32).toNatClampNeg (50 : Int32).toNatClampNeg)) 13) ((aw_un M_7 10 (va_cpy (M_7 11) (M_7 10) (0 : Int32).toNatClampNeg (0 : Int32).toNatClampNeg (50 : Int32).toNatClampNeg)) 12) (0 : Int32).toNatClampNeg (0 : Int32).toNatClampNeg (20 : Int32).toNatClampNeg)) 2 5)) 1 6 ((aw_u (aw_un (aw_un M_7 10 (va_cpy (M_7 11) (M_7 10) (0 : Int32).toNatClampNeg (0 : Int32).toNatClampNeg (50 : Int32).toNatClampNeg)) 12 (va_cpy ((aw_un M_7 10 (va_cpy (M_7 11) (M_7 10) (0 : Int32).toNatClampNeg (0 : Int32).toNatClampNeg (50 : Int32).toNatClampNeg)) 13) ((aw_un M_7 10 (va_cpy (M_7 11) (M_7 10) (0 : Int32).toNatClampNeg (0 : Int32).toNatClampNeg (50 : Int32).toNatClampNeg)) 12) (0 : Int32).toNatClampNeg (0 : Int32).toNatClampNeg (20 : Int32).toNatClampNeg)) 1 5 ((aw_un (aw_un M_7 10 (va_cpy (M_7 11) (M_7 10) (0 : Int32).toNatClampNeg (0 : Int32).toNatClampNeg (50 : Int32).toNatClampNeg)) 12 (va_cpy ((aw_un M_7 10 (va_cpy (M_7 11) (M_7 10) (0 : Int32).toNatClampNeg (0 : Int32).toNatClampNeg (50 : Int32).toNatClampNeg)) 13) ((aw_un M_7 10 (va_cpy (M_7 11) (M_7 10) (0 : Int32).toNatClampNeg (0 : Int32).toNatClampNeg (50 : Int32).toNatClampNeg)) 12) (0 : Int32).toNatClampNeg (0 : Int32).toNatClampNeg (20 : Int32).toNatClampNeg)) 2 5)) 2 6)) 1 7 ((aw_u (aw_u (aw_un (aw_un M_7 10 (va_cpy (M_7 11) (M_7 10) (0 : Int32).toNatClampNeg (0 : Int32).toNatClampNeg (50 : Int32).toNatClampNeg)) 12 (va_cpy ((aw_un M_7 10 (va_cpy (M_7 11) (M_7 10) (0 : Int32).toNatClampNeg (0 : Int32).toNatClampNeg (50 : Int32).toNatClampNeg)) 13) ((aw_un M_7 10 (va_cpy (M_7 11) (M_7 10) (0 : Int32).toNatClampNeg (0 : Int32).toNatClampNeg (50 : Int32).toNatClampNeg)) 12) (0 : Int32).toNatClampNeg (0 : Int32).toNatClampNeg (20 : Int32).toNatClampNeg)) 1 5 ((aw_un (aw_un M_7 10 (va_cpy (M_7 11) (M_7 10) (0 : Int32).toNatClampNeg (0 : Int32).toNatClampNeg (50 : Int32).toNatClampNeg)) 12 (va_cpy ((aw_un M_7 10 (va_cpy (M_7 11) (M_7 10) (0 : Int32).toNatClampNeg (0 : Int32).toNatClampNeg (50 : Int32).toNatClampNeg)) 13) ((aw_un M_7 10 (va_cpy (M_7 11) (M_7 10) (0 : Int32).toNatClampNeg (0 : Int32).toNatClampNeg (50 : Int32).toNatClampNeg)) 12) (0 : Int32).toNatClampNeg (0 : Int32).toNatClampNeg (20 : Int32).toNatClampNeg)) 2 5)) 1 6 ((aw_u (aw_un (aw_un M_7 10 (va_cpy (M_7 11) (M_7 10) (0 : Int32).toNatClampNeg (0 : Int32).toNatClampNeg (50 : Int32).toNatClampNeg)) 12 (va_cpy ((aw_un M_7 10 (va_cpy (M_7 11) (M_7 10) (0 : Int32).toNatClampNeg (0 : Int32).toNatClampNeg (50 : Int32).toNatClampNeg)) 13) ((aw_un M_7 10 (va_cpy (M_7 11) (M_7 10) (0 : Int32).toNatClampNeg (0 : Int32).toNatClampNeg (50 : Int32).toNatClampNeg)) 12) (0 : Int32).toNatClampNeg (0 : Int32).toNatClampNeg (20 : Int32).toNatClampNeg)) 1 5 ((aw_un (aw_un M_7 10 (va_cpy (M_7 11) (M_7 10) (0 : Int32).toNatClampNeg (0 : Int32).toNatClampNeg (50 : Int32).toNatClampNeg)) 12 (va_cpy ((aw_un M_7 10 (va_cpy (M_7 11) (M_7 10) (0 : Int32).toNatClampNeg (0 : Int32).toNatClampNeg (50 : Int32).toNatClampNeg)) 13) ((aw_un M_7 10 (va_cpy (M_7 11) (M_7 10) (0 : Int32).toNatClampNeg (0 : Int32).toNatClampNeg (50 : Int32).toNatClampNeg)) 12) (0 : Int32).toNatClampNeg (0 : Int32).toNatClampNeg (20 : Int32).toNatClampNeg)) 2 5)) 2 6)) 2 7)) 1 8 ((aw_u (aw_u (aw_u (aw_un (aw_un M_7 10 (va_cpy (M_7 11) (M_7 10) (0 : Int32).toNatClampNeg (0 : Int32).toNatClampNeg (50 : Int32).toNatClampNeg)) 12 (va_cpy ((aw_un M_7 10 (va_cpy (M_7 11) (M_7 10) (0 : Int32).toNatClampNeg (0 : Int32).toNatClampNeg (50 : Int32).toNatClampNeg)) 13) ((aw_un M_7 10 (va_cpy (M_7 11) (M_7 10) (0 : Int32).toNatClampNeg (0 : Int32).toNatClampNeg (50 : Int32).toNatClampNeg)) 12) (0 : Int32).toNatClampNeg (0 : Int32).toNatClampNeg (20 : Int32).toNatClampNeg)) 1 5 ((aw_un (aw_un M_7 10 (va_cpy (M_7 11) (M_7 10) (0 : Int32).toNatClampNeg (0 : Int32).toNatClampNeg (50 : Int32).toNatClampNeg)) 12 (va_cpy ((aw_un M_7 10 (va_cpy (M_7 11) (M_7 10) (0 : Int32).toNatClampNeg (0 : Int32).toNatClampNeg (50 : Int32).toNatClampNeg)) 13) ((aw_un M_7 10 (va_cpy (M_7 11) (M_7 10) (0 : Int32).toNatClampNeg (0 : Int32).toNatClampNeg (50 : Int32).toNatClampNeg)) 12) (0 : Int32).toNatClampNeg (0 : Int32).toNatClampNeg (20 : Int32).toNatClampNeg)) 2 5)) 1 6 ((aw_u (aw_un (aw_un M_7 10 (va_cpy (M_7 11) (M_7 10) (0 : Int32).toNatClampNeg (0 : Int32).toNatClampNeg (50 : Int32).toNatClampNeg)) 12 (va_cpy ((aw_un M_7 10 (va_cpy (M_7 11) (M_7 10) (0 : Int32).toNatClampNeg (0 : Int32).toNatClampNeg (50 : Int32).toNatClampNeg)) 13) ((aw_un M_7 10 (va_cpy (M_7 11) (M_7 10) (0 : Int32).toNatClampNeg (0 : Int32).toNatClampNeg (50 : Int32).toNatClampNeg)) 12) (0 : Int32).toNatClampNeg (0 : Int32).toNatClampNeg (20 : Int32).toNatClampNeg)) 1 5 ((aw_un (aw_un M_7 10 (va_cpy (M_7 11) (M_7 10) (0 : Int32).toNatClampNeg (0 : Int32).toNatClampNeg (50 : Int32).toNatClampNeg)) 12 (va_cpy ((aw_un M_7 10 (va_cpy (M_7 11) (M_7 10) (0 : Int32).toNatClampNeg (0 : Int32).toNatClampNeg (50 : Int32).toNatClampNeg)) 13) ((aw_un M_7 10 (va_cpy (M_7 11) (M_7 10) (0 : Int32).toNatClampNeg (0 : Int32).toNatClampNeg (50 : Int32).toNatClampNeg)) 12) (0 : Int32).toNatClampNeg (0 : Int32).toNatClampNeg (20 : Int32).toNatClampNeg)) 2 5)) 2 6)) 1 7 ((aw_u (aw_u (aw_un (aw_un M_7 10 (va_cpy (M_7 11) (M_7 10) (0 : Int32).toNatClampNeg (0 : Int32).toNatClampNeg (50 : Int32).toNatClampNeg)) 12 (va_cpy ((aw_un M_7 10 (va_cpy (M_7 11) (M_7 10) (0 : Int32).toNatClampNeg (0 : Int32).toNatClampNeg (50 : Int32).toNatClampNeg)) 13) ((aw_un M_7 10 (va_cpy (M_7 11) (M_7 10) (0 : Int32).toNatClampNeg (0 : Int32).toNatClampNeg (50 : Int32).toNatClampNeg)) 12) (0 : Int32).toNatClampNeg (0 : Int32).toNatClampNeg (20 : Int32).toNatClampNeg)) 1 5 ((aw_un (aw_un M_7 10 (va_cpy (M_7 11) (M_7 10) (0 : Int32).toNatClampNeg (0 : Int32).toNatClampNeg (50 : Int32).toNatClampNeg)) 12 (va_cpy ((aw_un M_7 10 (va_cpy (M_7 11) (M_7 10) (0 : Int32).toNatClampNeg (0 : Int32).toNatClampNeg (50 : Int32).toNatClampNeg)) 13) ((aw_un M_7 10 (va_cpy (M_7 11) (M_7 10) (0 : Int32).toNatClampNeg (0 : Int32).toNatClampNeg (50 : Int32).toNatClampNeg)) 12) (0 : Int32).toNatClampNeg (0 : Int32).toNatClampNeg (20 : Int32).toNatClampNeg)) 2 5)) 1 6 ((aw_u (aw_un (aw_un M_7 10 (va_cpy (M_7 11) (M_7 10) (0 : Int32).toNatClampNeg (0 : Int32).toNatClampNeg (50 : Int32).toNatClampNeg)) 12 (va_cpy ((aw_un M_7 10 (va_cpy (M_7 11) (M_7 10) (0 : Int32).toNatClampNeg (0 : Int32).toNatClampNeg (50 : Int32).toNatClampNeg)) 13) ((aw_un M_7 10 (va_cpy (M_7 11) (M_7 10) (0 : Int32).toNatClampNeg (0 : Int32).toNatClampNeg (50 : Int32).toNatClampNeg)) 12) (0 : Int32).toNatClampNeg (0 : Int32).toNatClampNeg (20 : Int32).toNatClampNeg)) 1 5 ((aw_un (aw_un M_7 10 (va_cpy (M_7 11) (M_7 10) (0 : Int32).toNatClampNeg (0 : Int32).toNatClampNeg (50 : Int32).toNatClampNeg)) 12 (va_cpy ((aw_un M_7 10 (va_cpy (M_7 11) (M_7 10) (0 : Int32).toNatClampNeg (0 : Int32).toNatClampNeg (50 : Int32).toNatClampNeg)) 13) ((aw_un M_7 10 (va_cpy (M_7 11) (M_7 10) (0 : Int32).toNatClampNeg (0 : Int32).toNatClampNeg (50 : Int32).toNatClampNeg)) 12) (0 : Int32).toNatClampNeg (0 : Int32).toNatClampNeg (20 : Int32).toNatClampNeg)) 2 5)) 2 6)) 2 7)) 2 8)) 1 9 ((aw_u (aw_u (aw_u (aw_u (aw_un (aw_un M_7 10 (va_cpy (M_7 11) (M_7 10) (0 : Int32).toNatClampNeg (0 : Int32).toNatClampNeg (50 : Int32).toNatClampNeg)) 12 (va_cpy ((aw_un M_7 10 (va_cpy (M_7 11) (M_7 10) (0 : Int32).toNatClampNeg (0 : Int32).toNatClampNeg (50 : Int32).toNatClampNeg)) 13) ((aw_un M_7 10 (va_cpy (M_7 11) (M_7 10) (0 : Int32).toNatClampNeg (0 : Int32).toNatClampNeg (50 : Int32).toNatClampNeg)) 12) (0 : Int32).toNatClampNeg (0 : Int32).toNatClampNeg (20 : Int32).toNatClampNeg)) 1 5 ((aw_un (aw_un M_7 10 (va_cpy (M_7 11) (M_7 10) (0 : Int32).toNatClampNeg (0 : Int32).toNatClampNeg (50 : Int32).toNatClampNeg)) 12 (va_cpy ((aw_un M_7 10 (va_cpy (M_7 11) (M_7 10) (0 : Int32).toNatClampNeg (0 : Int32).toNatClampNeg (50 : Int32).toNatClampNeg)) 13) ((aw_un M_7 10 (va_cpy (M_7 11) (M_7 10) (0 : Int32).toNatClampNeg (0 : Int32).toNatClampNeg (50 : Int32).toNatClampNeg)) 12) (0 : Int32).toNatClampNeg (0 : Int32).toNatClampNeg (20 : Int32).toNatClampNeg)) 2 5)) 1 6 ((aw_u (aw_un (aw_un M_7 10 (va_cpy (M_7 11) (M_7 10) (0 : Int32).toNatClampNeg (0 : Int32).toNatClampNeg (50 : Int32).toNatClampNeg)) 12 (va_cpy ((aw_un M_7 10 (va_cpy (M_7 11) (M_7 10) (0 : Int32).toNatClampNeg (0 : Int32).toNatClampNeg (50 : Int32).toNatClampNeg)) 13) ((aw_un M_7 10 (va_cpy (M_7 11) (M_7 10) (0 : Int32).toNatClampNeg (0 : Int32).toNatClampNeg (50 : Int32).toNatClampNeg)) 12) (0 : Int32).toNatClampNeg (0 : Int32).toNatClampNeg (20 : Int32).toNatClampNeg)) 1 5 ((aw_un (aw_un M_7 10 (va_cpy (M_7 11) (M_7 10) (0 : Int32).toNatClampNeg (0 : Int32).toNatClampNeg (50 : Int32).toNatClampNeg)) 12 (va_cpy ((aw_un M_7 10 (va_cpy (M_7 11) (M_7 10) (0 : Int32).toNatClampNeg (0 : Int32).toNatClampNeg (50 : Int32).toNatClampNeg)) 13) ((aw_un M_7 10 (va_cpy (M_7 11) (M_7 10) (0 : Int32).toNatClampNeg (0 : Int32).toNatClampNeg (50 : Int32).toNatClampNeg)) 12) (0 : Int32).toNatClampNeg (0 : Int32).toNatClampNeg (20 : Int32).toNatClampNeg)) 2 5)) 2 6)) 1 7 ((aw_u (aw_u (aw_un (aw_un M_7 10 (va_cpy (M_7 11) (M_7 10) (0 : Int32).toNatClampNeg (0 : Int32).toNatClampNeg (50 : Int32).toNatClampNeg)) 12 (va_cpy ((aw_un M_7 10 (va_cpy (M_7 11) (M_7 10) (0 : Int32).toNatClampNeg (0 : Int32).toNatClampNeg (50 : Int32).toNatClampNeg)) 13) ((aw_un M_7 10 (va_cpy (M_7 11) (M_7 10) (0 : Int32).toNatClampNeg (0 : Int32).toNatClampNeg (50 : Int32).toNatClampNeg)) 12) (0 : Int32).toNatClampNeg (0 : Int32).toNatClampNeg (20 : Int32).toNatClampNeg)) 1 5 ((aw_un (aw_un M_7 10 (va_cpy (M_7 11) (M_7 10) (0 : Int32).toNatClampNeg (0 : Int32).toNatClampNeg (50 : Int32).toNatClampNeg)) 12 (va_cpy ((aw_un M_7 10 (va_cpy (M_7 11) (M_7 10) (0 : Int32).toNatClampNeg (0 : Int32).toNatClampNeg (50 : Int32).toNatClampNeg)) 13) ((aw_un M_7 10 (va_cpy (M_7 11) (M_7 10) (0 : Int32).toNatClampNeg (0 : Int32).toNatClampNeg (50 : Int32).toNatClampNeg)) 12) (0 : Int32).toNatClampNeg (0 : Int32).toNatClampNeg (20 : Int32).toNatClampNeg)) 2 5)) 1 6 ((aw_u (aw_un (aw_un M_7 10 (va_cpy (M_7 11) (M_7 10) (0 : Int32).toNatClampNeg (0 : Int32).toNatClampNeg (50 : Int32).toNatClampNeg)) 12 (va_cpy ((aw_un M_7 10 (va_cpy (M_7 11) (M_7 10) (0 : Int32).toNatClampNeg (0 : Int32).toNatClampNeg (50 : Int32).toNatClampNeg)) 13) ((aw_un M_7 10 (va_cpy (M_7 11) (M_7 10) (0 : Int32).toNatClampNeg (0 : Int32).toNatClampNeg (50 : Int32).toNatClampNeg)) 12) (0 : Int32).toNatClampNeg (0 : Int32).toNatClampNeg (20 : Int32).toNatClampNeg)) 1 5 ((aw_un (aw_un M_7 10 (va_cpy (M_7 11) (M_7 10) (0 : Int32).toNatClampNeg (0 : Int32).toNatClampNeg (50 : Int32).toNatClampNeg)) 12 (va_cpy ((aw_un M_7 10 (va_cpy (M_7 11) (M_7 10) (0 : Int32).toNatClampNeg (0 : Int32).toNatClampNeg (50 : Int32).toNatClampNeg)) 13) ((aw_un M_7 10 (va_cpy (M_7 11) (M_7 10) (0 : Int32).toNatClampNeg (0 : Int32).toNatClampNeg (50 : Int32).toNatClampNeg)) 12) (0 : Int32).toNatClampNeg (0 : Int32).toNatClampNeg (20 : Int32).toNatClampNeg)) 2 5)) 2 6)) 2 7)) 1 8 ((aw_u (aw_u (aw_u (aw_un (aw_un M_7 10 (va_cpy (M_7 11) (M_7 10) (0 : Int32).toNatClampNeg (0 : Int32).toNatClampNeg (50 : Int32).toNatClampNeg)) 12 (va_cpy ((aw_un M_7 10 (va_cpy (M_7 11) (M_7 10) (0 : Int32).toNatClampNeg (0 : Int32).toNatClampNeg (50 : Int32).toNatClampNeg)) 13) ((aw_un M_7 10 (va_cpy (M_7 11) (M_7 10) (0 : Int32).toNatClampNeg (0 : Int32).toNatClampNeg (50 : Int32).toNatClampNeg)) 12) (0 : Int32).toNatClampNeg (0 : Int32).toNatClampNeg (20 : Int32).toNatClampNeg)) 1 5 ((aw_un (aw_un M_7 10 (va_cpy (M_7 11) (M_7 10) (0 : Int32).toNatClampNeg (0 : Int32).toNatClampNeg (50 : Int32).toNatClampNeg)) 12 (va_cpy ((aw_un M_7 10 (va_cpy (M_7 11) (M_7 10) (0 : Int32).toNatClampNeg (0 : Int32).toNatClampNeg (50 : Int32).toNatClampNeg)) 13) ((aw_un M_7 10 (va_cpy (M_7 11) (M_7 10) (0 : Int32).toNatClampNeg (0 : Int32).toNatClampNeg (50 : Int32).toNatClampNeg)) 12) (0 : Int32).toNatClampNeg (0 : Int32).toNatClampNeg (20 : Int32).toNatClampNeg)) 2 5)) 1 6 ((aw_u (aw_un (aw_un M_7 10 (va_cpy (M_7 11) (M_7 10) (0 : Int32).toNatClampNeg (0 : Int32).toNatClampNeg (50 : Int32).toNatClampNeg)) 12 (va_cpy ((aw_un M_7 10 (va_cpy (M_7 11) (M_7 10) (0 : Int32).toNatClampNeg (0 : Int32).toNatClampNeg (50 : Int32).toNatClampNeg)) 13) ((aw_un M_7 10 (va_cpy (M_7 11) (M_7 10) (0 : Int32).toNatClampNeg (0 : Int32).toNatClampNeg (50 : Int32).toNatClampNeg)) 12) (0 : Int32).toNatClampNeg (0 : Int32).toNatClampNeg (20 : Int32).toNatClampNeg)) 1 5 ((aw_un (aw_un M_7 10 (va_cpy (M_7 11) (M_7 10) (0 : Int32).toNatClampNeg (0 : Int32).toNatClampNeg (50 : Int32).toNatClampNeg)) 12 (va_cpy ((aw_un M_7 10 (va_cpy (M_7 11) (M_7 10) (0 : Int32).toNatClampNeg (0 : Int32).toNatClampNeg (50 : Int32).toNatClampNeg)) 13) ((aw_un M_7 10 (va_cpy (M_7 11) (M_7 10) (0 : Int32).toNatClampNeg (0 : Int32).toNatClampNeg (50 : Int32).toNatClampNeg)) 12) (0 : Int32).toNatClampNeg (0 : Int32).toNatClampNeg (20 : Int32).toNatClampNeg)) 2 5)) 2 6)) 1 7 ((aw_u (aw_u (aw_un (aw_un M_7 10 (va_cpy (M_7 11) (M_7 10) (0 : Int32).toNatClampNeg (0 : Int32).toNatClampNeg (50 : Int32).toNatClampNeg)) 12 (va_cpy ((aw_un M_7 10 (va_cpy (M_7 11) (M_7 10) (0 : Int32).toNatClampNeg (0 : Int32).toNatClampNeg (50 : Int32).toNatClampNeg)) 13) ((aw_un M_7 10 (va_cpy (M_7 11) (M_7 10) (0 : Int32).toNatClampNeg (0 : Int32).toNatClampNeg (50 : Int32).toNatClampNeg)) 12) (0 : Int32).toNatClampNeg (0 : Int32).toNatClampNeg (20 : Int32).toNatClampNeg)) 1 5 ((aw_un (aw_un M_7 10 (va_cpy (M_7 11) (M_7 10) (0 : Int32).toNatClampNeg (0 : Int32).toNatClampNeg (50 : Int32).toNatClampNeg)) 12 (va_cpy ((aw_un M_7 10 (va_cpy (M_7 11) (M_7 10) (0 : Int32).toNatClampNeg (0 : Int32).toNatClampNeg (50 : Int32).toNatClampNeg)) 13) ((aw_un M_7 10 (va_cpy (M_7 11) (M_7 10) (0 : Int32).toNatClampNeg (0 : Int32).toNatClampNeg (50 : Int32).toNatClampNeg)) 12) (0 : Int32).toNatClampNeg (0 : Int32).toNatClampNeg (20 : Int32).toNatClampNeg)) 2 5)) 1 6 ((aw_u (aw_un (aw_un M_7 10 (va_cpy (M_7 11) (M_7 10) (0 : Int32).toNatClampNeg (0 : Int32).toNatClampNeg (50 : Int32).toNatClampNeg)) 12 (va_cpy ((aw_un M_7 10 (va_cpy (M_7 11) (M_7 10) (0 : Int32).toNatClampNeg (0 : Int32).toNatClampNeg (50 : Int32).toNatClampNeg)) 13) ((aw_un M_7 10 (va_cpy (M_7 11) (M_7 10) (0 : Int32).toNatClampNeg (0 : Int32).toNatClampNeg (50 : Int32).toNatClampNeg)) 12) (0 : Int32).toNatClampNeg (0 : Int32).toNatClampNeg (20 : Int32).toNatClampNeg)) 1 5 ((aw_un (aw_un M_7 10 (va_cpy (M_7 11) (M_7 10) (0 : Int32).toNatClampNeg (0 : Int32).toNatClampNeg (50 : Int32).toNatClampNeg)) 12 (va_cpy ((aw_un M_7 10 (va_cpy (M_7 11) (M_7 10) (0 : Int32).toNatClampNeg (0 : Int32).toNatClampNeg (50 : Int32).toNatClampNeg)) 13) ((aw_un M_7 10 (va_cpy (M_7 11) (M_7 10) (0 : Int32).toNatClampNeg (0 : Int32).toNatClampNeg (50 : Int32).toNatClampNeg)) 12) (0 : Int32).toNatClampNeg (0 : Int32).toNatClampNeg (20 : Int32).toNatClampNeg)) 2 5)) 2 6)) 2 7)) 2 8)) 2 9))
      )
      )
      )
      )
      )
    ) else (
      if aw_in p2 6 then none else (
      if aw_in p2 6 then none else (
      aw_bv (fc_Cl_copyFrom p2.toNatClampNeg (6 + p2.toNatClampNeg) M) fun M_14 => (
      fc_St_copyFrom_12_L13 n (p2 + 1) M_14
      )
      )
      )
    )
    ) := rfl
set_option maxRecDepth 20000 in
theorem tc_St_copyFrom_12_L13 {l : Launch} {D : va_G} {cy : Nat → ClassId} {ad : Nat → Nat} {A : Nat → Prop} (d : Nat) (hd : 3 ≤ d) : ∀ (n : Nat) (p2 : Int32) (M : aw_M) (M1 : aw_M), fc_St_copyFrom_12_L13 n p2 M = some M1 → AW l D cy ad A gc_G RX7 cX7_copyFrom 3 none d none M1 13 [(0, .ref (ad 1)), (1, .ref (ad 2)), (2, .int p2)] [] M := by
  have hd1 : (d - 1) + 1 ≤ d := by omega
  have hm1 : 1 ≤ d := by omega
  have hh_0 : 0 ≤ d - 1 := by omega
  have hh_2 : 2 ≤ d - 1 := by omega
  intro n
  induction n with
  | zero => intro p2 M M1 h; cases h
  | succ n ih =>
    intro p2 M M1 h
    rw [fc_St_copyFrom_12_L13_s] at h
    refine x_iload_n (pc := 13) 2 dX7_copyFrom_13 rfl rfl ?_
    refine x_bipush (pc := 14) (w := 6) dX7_copyFrom_14 bi_6 ?_
    refine x_icmp_ge (pc := 16) 40 dX7_copyFrom_16 (by decide) (fun c_3 => ?_) (fun c_3 => ?_)
    · have h := aw_pos h c_3
      refine x_aload_n (pc := 40) 0 dX7_copyFrom_40 rfl rfl ?_
      refine x_get (pc := 41) dX7_copyFrom_41 lk_X7_26 gc_1 rfl rfl ?_
      refine x_iconst (pc := 44) (w := 0) dX7_copyFrom_44 ic_0 ?_
      refine x_aald (pc := 45) dX7_copyFrom_45 gc_8 (fun _ => rfl) (by decide) rfl ?_
      refine x_aload_n (pc := 46) 1 dX7_copyFrom_46 rfl rfl ?_
      refine x_get (pc := 47) dX7_copyFrom_47 lk_X7_26 gc_2 rfl rfl ?_
      refine x_iconst (pc := 50) (w := 0) dX7_copyFrom_50 ic_0 ?_
      refine x_aald (pc := 51) dX7_copyFrom_51 gc_9 (fun _ => rfl) (by decide) rfl ?_
      refine x_get (pc := 52) dX7_copyFrom_52 lk_X7_63 (gc_law (i := 2) (by decide)) rfl rfl ?_
      refine x_aload_n (pc := 55) 1 dX7_copyFrom_55 rfl rfl ?_
      refine x_get (pc := 56) dX7_copyFrom_56 lk_X7_26 gc_2 rfl rfl ?_
      refine x_iconst (pc := 59) (w := 0) dX7_copyFrom_59 ic_0 ?_
      refine x_aald (pc := 60) dX7_copyFrom_60 gc_9 (fun _ => rfl) (by decide) rfl ?_
      refine x_get (pc := 61) dX7_copyFrom_61 lk_X7_66 (gc_law (i := 2) (by decide)) rfl rfl ?_
      obtain ⟨M_5, e_4, h⟩ := aw_bv_e h
      refine x_callV (pc := 64) (As := [.ref (ad 32), .int (M 28 2)]) (rest := []) (st' := []) (w := none) dX7_copyFrom_64 cw_X7_69 hd1 (gc_law (i := 0) (by decide)) rfl rfl rfl (Nat.le_of_ble_eq_true rfl) (tc_La_take (d - 1) hh_2 0 (by decide) 32 (gc_lsteps (i := 2) (by decide)) (M 28 2) _  _ e_4) rfl ?_
      refine x_aload_n (pc := 67) 0 dX7_copyFrom_67 rfl rfl ?_
      refine x_get (pc := 68) dX7_copyFrom_68 lk_X7_26 gc_1 rfl rfl ?_
      refine x_iconst (pc := 71) (w := 1) dX7_copyFrom_71 ic_1 ?_
      refine x_aald (pc := 72) dX7_copyFrom_72 gc_8 (fun _ => rfl) (by decide) rfl ?_
      refine x_aload_n (pc := 73) 1 dX7_copyFrom_73 rfl rfl ?_
      refine x_get (pc := 74) dX7_copyFrom_74 lk_X7_26 gc_2 rfl rfl ?_
      refine x_iconst (pc := 77) (w := 1) dX7_copyFrom_77 ic_1 ?_
      refine x_aald (pc := 78) dX7_copyFrom_78 gc_9 (fun _ => rfl) (by decide) rfl ?_
      refine x_get (pc := 79) dX7_copyFrom_79 lk_X7_63 (gc_law (i := 3) (by decide)) rfl rfl ?_
      refine x_aload_n (pc := 82) 1 dX7_copyFrom_82 rfl rfl ?_
      refine x_get (pc := 83) dX7_copyFrom_83 lk_X7_26 gc_2 rfl rfl ?_
      refine x_iconst (pc := 86) (w := 1) dX7_copyFrom_86 ic_1 ?_
      refine x_aald (pc := 87) dX7_copyFrom_87 gc_9 (fun _ => rfl) (by decide) rfl ?_
      refine x_get (pc := 88) dX7_copyFrom_88 lk_X7_66 (gc_law (i := 3) (by decide)) rfl rfl ?_
      obtain ⟨M_7, e_6, h⟩ := aw_bv_e h
      refine x_callV (pc := 91) (As := [.ref (ad 33), .int (M_5 29 2)]) (rest := []) (st' := []) (w := none) dX7_copyFrom_91 cw_X7_69 hd1 (gc_law (i := 1) (by decide)) rfl rfl rfl (Nat.le_of_ble_eq_true rfl) (tc_La_take (d - 1) hh_2 1 (by decide) 33 (gc_lsteps (i := 3) (by decide)) (M_5 29 2) _  _ e_6) rfl ?_
      refine x_aload_n (pc := 94) 1 dX7_copyFrom_94 rfl rfl ?_
      refine x_get (pc := 95) dX7_copyFrom_95 lk_X7_30 gc_2 rfl rfl ?_
      refine x_iconst (pc := 98) (w := 0) dX7_copyFrom_98 ic_0 ?_
      refine x_aload_n (pc := 99) 0 dX7_copyFrom_99 rfl rfl ?_
      refine x_get (pc := 100) dX7_copyFrom_100 lk_X7_30 gc_1 rfl rfl ?_
      refine x_iconst (pc := 103) (w := 0) dX7_copyFrom_103 ic_0 ?_
      refine x_bipush (pc := 104) (w := 50) dX7_copyFrom_104 bi_50 ?_
      obtain ⟨c_8, h⟩ := aw_ck h
      obtain ⟨c_8_1, c_8_2, c_8_3, c_8_4, c_8_5⟩ := Classical.not_not.mp c_8
      obtain ⟨c_9, h⟩ := aw_ck h
      refine x_copyb (pc := 106) dX7_copyFrom_106 (tb_in (i := 925) (by decide +kernel) rfl) hm1 (Nat.le_of_ble_eq_true rfl) gc_11 gc_10 c_8_1 c_8_2 c_8_3 c_8_4 c_8_5 (Classical.not_not.mp c_9) ?_
      refine x_aload_n (pc := 109) 1 dX7_copyFrom_109 rfl rfl ?_
      refine x_get (pc := 110) dX7_copyFrom_110 lk_X7_34 gc_2 rfl rfl ?_
      refine x_iconst (pc := 113) (w := 0) dX7_copyFrom_113 ic_0 ?_
      refine x_aload_n (pc := 114) 0 dX7_copyFrom_114 rfl rfl ?_
      refine x_get (pc := 115) dX7_copyFrom_115 lk_X7_34 gc_1 rfl rfl ?_
      refine x_iconst (pc := 118) (w := 0) dX7_copyFrom_118 ic_0 ?_
      refine x_bipush (pc := 119) (w := 20) dX7_copyFrom_119 bi_20 ?_
      obtain ⟨c_10, h⟩ := aw_ck h
      obtain ⟨c_10_1, c_10_2, c_10_3, c_10_4, c_10_5⟩ := Classical.not_not.mp c_10
      refine x_copyi (pc := 121) dX7_copyFrom_121 (tb_in (i := 925) (by decide +kernel) rfl) hm1 (Nat.le_of_ble_eq_true rfl) gc_13 gc_12 c_10_1 c_10_2 c_10_3 c_10_4 c_10_5 ?_
      refine x_aload_n (pc := 124) 0 dX7_copyFrom_124 rfl rfl ?_
      refine x_aload_n (pc := 125) 1 dX7_copyFrom_125 rfl rfl ?_
      refine x_get (pc := 126) dX7_copyFrom_126 lk_X7_38 gc_2 rfl rfl ?_
      refine x_put (pc := 129) (x := ((aw_un (aw_un M_7 10 (va_cpy (M_7 11) (M_7 10) (0 : Int32).toNatClampNeg (0 : Int32).toNatClampNeg (50 : Int32).toNatClampNeg)) 12 (va_cpy ((aw_un M_7 10 (va_cpy (M_7 11) (M_7 10) (0 : Int32).toNatClampNeg (0 : Int32).toNatClampNeg (50 : Int32).toNatClampNeg)) 13) ((aw_un M_7 10 (va_cpy (M_7 11) (M_7 10) (0 : Int32).toNatClampNeg (0 : Int32).toNatClampNeg (50 : Int32).toNatClampNeg)) 12) (0 : Int32).toNatClampNeg (0 : Int32).toNatClampNeg (20 : Int32).toNatClampNeg)) 2 5)) dX7_copyFrom_129 lk_X7_38 lp_X7_5 gc_1 rfl rfl rfl rfl ?_
      refine x_aload_n (pc := 132) 0 dX7_copyFrom_132 rfl rfl ?_
      refine x_aload_n (pc := 133) 1 dX7_copyFrom_133 rfl rfl ?_
      refine x_get (pc := 134) dX7_copyFrom_134 lk_X7_42 gc_2 rfl rfl ?_
      refine x_put (pc := 137) (x := ((aw_u (aw_un (aw_un M_7 10 (va_cpy (M_7 11) (M_7 10) (0 : Int32).toNatClampNeg (0 : Int32).toNatClampNeg (50 : Int32).toNatClampNeg)) 12 (va_cpy ((aw_un M_7 10 (va_cpy (M_7 11) (M_7 10) (0 : Int32).toNatClampNeg (0 : Int32).toNatClampNeg (50 : Int32).toNatClampNeg)) 13) ((aw_un M_7 10 (va_cpy (M_7 11) (M_7 10) (0 : Int32).toNatClampNeg (0 : Int32).toNatClampNeg (50 : Int32).toNatClampNeg)) 12) (0 : Int32).toNatClampNeg (0 : Int32).toNatClampNeg (20 : Int32).toNatClampNeg)) 1 5 ((aw_un (aw_un M_7 10 (va_cpy (M_7 11) (M_7 10) (0 : Int32).toNatClampNeg (0 : Int32).toNatClampNeg (50 : Int32).toNatClampNeg)) 12 (va_cpy ((aw_un M_7 10 (va_cpy (M_7 11) (M_7 10) (0 : Int32).toNatClampNeg (0 : Int32).toNatClampNeg (50 : Int32).toNatClampNeg)) 13) ((aw_un M_7 10 (va_cpy (M_7 11) (M_7 10) (0 : Int32).toNatClampNeg (0 : Int32).toNatClampNeg (50 : Int32).toNatClampNeg)) 12) (0 : Int32).toNatClampNeg (0 : Int32).toNatClampNeg (20 : Int32).toNatClampNeg)) 2 5)) 2 6)) dX7_copyFrom_137 lk_X7_42 lp_X7_6 gc_1 rfl rfl rfl rfl ?_
      refine x_aload_n (pc := 140) 0 dX7_copyFrom_140 rfl rfl ?_
      refine x_aload_n (pc := 141) 1 dX7_copyFrom_141 rfl rfl ?_
      refine x_get (pc := 142) dX7_copyFrom_142 lk_X7_45 gc_2 rfl rfl ?_
      refine x_put (pc := 145) (x := ((aw_u (aw_u (aw_un (aw_un M_7 10 (va_cpy (M_7 11) (M_7 10) (0 : Int32).toNatClampNeg (0 : Int32).toNatClampNeg (50 : Int32).toNatClampNeg)) 12 (va_cpy ((aw_un M_7 10 (va_cpy (M_7 11) (M_7 10) (0 : Int32).toNatClampNeg (0 : Int32).toNatClampNeg (50 : Int32).toNatClampNeg)) 13) ((aw_un M_7 10 (va_cpy (M_7 11) (M_7 10) (0 : Int32).toNatClampNeg (0 : Int32).toNatClampNeg (50 : Int32).toNatClampNeg)) 12) (0 : Int32).toNatClampNeg (0 : Int32).toNatClampNeg (20 : Int32).toNatClampNeg)) 1 5 ((aw_un (aw_un M_7 10 (va_cpy (M_7 11) (M_7 10) (0 : Int32).toNatClampNeg (0 : Int32).toNatClampNeg (50 : Int32).toNatClampNeg)) 12 (va_cpy ((aw_un M_7 10 (va_cpy (M_7 11) (M_7 10) (0 : Int32).toNatClampNeg (0 : Int32).toNatClampNeg (50 : Int32).toNatClampNeg)) 13) ((aw_un M_7 10 (va_cpy (M_7 11) (M_7 10) (0 : Int32).toNatClampNeg (0 : Int32).toNatClampNeg (50 : Int32).toNatClampNeg)) 12) (0 : Int32).toNatClampNeg (0 : Int32).toNatClampNeg (20 : Int32).toNatClampNeg)) 2 5)) 1 6 ((aw_u (aw_un (aw_un M_7 10 (va_cpy (M_7 11) (M_7 10) (0 : Int32).toNatClampNeg (0 : Int32).toNatClampNeg (50 : Int32).toNatClampNeg)) 12 (va_cpy ((aw_un M_7 10 (va_cpy (M_7 11) (M_7 10) (0 : Int32).toNatClampNeg (0 : Int32).toNatClampNeg (50 : Int32).toNatClampNeg)) 13) ((aw_un M_7 10 (va_cpy (M_7 11) (M_7 10) (0 : Int32).toNatClampNeg (0 : Int32).toNatClampNeg (50 : Int32).toNatClampNeg)) 12) (0 : Int32).toNatClampNeg (0 : Int32).toNatClampNeg (20 : Int32).toNatClampNeg)) 1 5 ((aw_un (aw_un M_7 10 (va_cpy (M_7 11) (M_7 10) (0 : Int32).toNatClampNeg (0 : Int32).toNatClampNeg (50 : Int32).toNatClampNeg)) 12 (va_cpy ((aw_un M_7 10 (va_cpy (M_7 11) (M_7 10) (0 : Int32).toNatClampNeg (0 : Int32).toNatClampNeg (50 : Int32).toNatClampNeg)) 13) ((aw_un M_7 10 (va_cpy (M_7 11) (M_7 10) (0 : Int32).toNatClampNeg (0 : Int32).toNatClampNeg (50 : Int32).toNatClampNeg)) 12) (0 : Int32).toNatClampNeg (0 : Int32).toNatClampNeg (20 : Int32).toNatClampNeg)) 2 5)) 2 6)) 2 7)) dX7_copyFrom_145 lk_X7_45 lp_X7_7 gc_1 rfl rfl rfl rfl ?_
      refine x_aload_n (pc := 148) 0 dX7_copyFrom_148 rfl rfl ?_
      refine x_aload_n (pc := 149) 1 dX7_copyFrom_149 rfl rfl ?_
      refine x_get (pc := 150) dX7_copyFrom_150 lk_X7_48 gc_2 rfl rfl ?_
      refine x_put (pc := 153) (x := ((aw_u (aw_u (aw_u (aw_un (aw_un M_7 10 (va_cpy (M_7 11) (M_7 10) (0 : Int32).toNatClampNeg (0 : Int32).toNatClampNeg (50 : Int32).toNatClampNeg)) 12 (va_cpy ((aw_un M_7 10 (va_cpy (M_7 11) (M_7 10) (0 : Int32).toNatClampNeg (0 : Int32).toNatClampNeg (50 : Int32).toNatClampNeg)) 13) ((aw_un M_7 10 (va_cpy (M_7 11) (M_7 10) (0 : Int32).toNatClampNeg (0 : Int32).toNatClampNeg (50 : Int32).toNatClampNeg)) 12) (0 : Int32).toNatClampNeg (0 : Int32).toNatClampNeg (20 : Int32).toNatClampNeg)) 1 5 ((aw_un (aw_un M_7 10 (va_cpy (M_7 11) (M_7 10) (0 : Int32).toNatClampNeg (0 : Int32).toNatClampNeg (50 : Int32).toNatClampNeg)) 12 (va_cpy ((aw_un M_7 10 (va_cpy (M_7 11) (M_7 10) (0 : Int32).toNatClampNeg (0 : Int32).toNatClampNeg (50 : Int32).toNatClampNeg)) 13) ((aw_un M_7 10 (va_cpy (M_7 11) (M_7 10) (0 : Int32).toNatClampNeg (0 : Int32).toNatClampNeg (50 : Int32).toNatClampNeg)) 12) (0 : Int32).toNatClampNeg (0 : Int32).toNatClampNeg (20 : Int32).toNatClampNeg)) 2 5)) 1 6 ((aw_u (aw_un (aw_un M_7 10 (va_cpy (M_7 11) (M_7 10) (0 : Int32).toNatClampNeg (0 : Int32).toNatClampNeg (50 : Int32).toNatClampNeg)) 12 (va_cpy ((aw_un M_7 10 (va_cpy (M_7 11) (M_7 10) (0 : Int32).toNatClampNeg (0 : Int32).toNatClampNeg (50 : Int32).toNatClampNeg)) 13) ((aw_un M_7 10 (va_cpy (M_7 11) (M_7 10) (0 : Int32).toNatClampNeg (0 : Int32).toNatClampNeg (50 : Int32).toNatClampNeg)) 12) (0 : Int32).toNatClampNeg (0 : Int32).toNatClampNeg (20 : Int32).toNatClampNeg)) 1 5 ((aw_un (aw_un M_7 10 (va_cpy (M_7 11) (M_7 10) (0 : Int32).toNatClampNeg (0 : Int32).toNatClampNeg (50 : Int32).toNatClampNeg)) 12 (va_cpy ((aw_un M_7 10 (va_cpy (M_7 11) (M_7 10) (0 : Int32).toNatClampNeg (0 : Int32).toNatClampNeg (50 : Int32).toNatClampNeg)) 13) ((aw_un M_7 10 (va_cpy (M_7 11) (M_7 10) (0 : Int32).toNatClampNeg (0 : Int32).toNatClampNeg (50 : Int32).toNatClampNeg)) 12) (0 : Int32).toNatClampNeg (0 : Int32).toNatClampNeg (20 : Int32).toNatClampNeg)) 2 5)) 2 6)) 1 7 ((aw_u (aw_u (aw_un (aw_un M_7 10 (va_cpy (M_7 11) (M_7 10) (0 : Int32).toNatClampNeg (0 : Int32).toNatClampNeg (50 : Int32).toNatClampNeg)) 12 (va_cpy ((aw_un M_7 10 (va_cpy (M_7 11) (M_7 10) (0 : Int32).toNatClampNeg (0 : Int32).toNatClampNeg (50 : Int32).toNatClampNeg)) 13) ((aw_un M_7 10 (va_cpy (M_7 11) (M_7 10) (0 : Int32).toNatClampNeg (0 : Int32).toNatClampNeg (50 : Int32).toNatClampNeg)) 12) (0 : Int32).toNatClampNeg (0 : Int32).toNatClampNeg (20 : Int32).toNatClampNeg)) 1 5 ((aw_un (aw_un M_7 10 (va_cpy (M_7 11) (M_7 10) (0 : Int32).toNatClampNeg (0 : Int32).toNatClampNeg (50 : Int32).toNatClampNeg)) 12 (va_cpy ((aw_un M_7 10 (va_cpy (M_7 11) (M_7 10) (0 : Int32).toNatClampNeg (0 : Int32).toNatClampNeg (50 : Int32).toNatClampNeg)) 13) ((aw_un M_7 10 (va_cpy (M_7 11) (M_7 10) (0 : Int32).toNatClampNeg (0 : Int32).toNatClampNeg (50 : Int32).toNatClampNeg)) 12) (0 : Int32).toNatClampNeg (0 : Int32).toNatClampNeg (20 : Int32).toNatClampNeg)) 2 5)) 1 6 ((aw_u (aw_un (aw_un M_7 10 (va_cpy (M_7 11) (M_7 10) (0 : Int32).toNatClampNeg (0 : Int32).toNatClampNeg (50 : Int32).toNatClampNeg)) 12 (va_cpy ((aw_un M_7 10 (va_cpy (M_7 11) (M_7 10) (0 : Int32).toNatClampNeg (0 : Int32).toNatClampNeg (50 : Int32).toNatClampNeg)) 13) ((aw_un M_7 10 (va_cpy (M_7 11) (M_7 10) (0 : Int32).toNatClampNeg (0 : Int32).toNatClampNeg (50 : Int32).toNatClampNeg)) 12) (0 : Int32).toNatClampNeg (0 : Int32).toNatClampNeg (20 : Int32).toNatClampNeg)) 1 5 ((aw_un (aw_un M_7 10 (va_cpy (M_7 11) (M_7 10) (0 : Int32).toNatClampNeg (0 : Int32).toNatClampNeg (50 : Int32).toNatClampNeg)) 12 (va_cpy ((aw_un M_7 10 (va_cpy (M_7 11) (M_7 10) (0 : Int32).toNatClampNeg (0 : Int32).toNatClampNeg (50 : Int32).toNatClampNeg)) 13) ((aw_un M_7 10 (va_cpy (M_7 11) (M_7 10) (0 : Int32).toNatClampNeg (0 : Int32).toNatClampNeg (50 : Int32).toNatClampNeg)) 12) (0 : Int32).toNatClampNeg (0 : Int32).toNatClampNeg (20 : Int32).toNatClampNeg)) 2 5)) 2 6)) 2 7)) 2 8)) dX7_copyFrom_153 lk_X7_48 lp_X7_8 gc_1 rfl rfl rfl rfl ?_
      refine x_aload_n (pc := 156) 0 dX7_copyFrom_156 rfl rfl ?_
      refine x_aload_n (pc := 157) 1 dX7_copyFrom_157 rfl rfl ?_
      refine x_get (pc := 158) dX7_copyFrom_158 lk_X7_51 gc_2 rfl rfl ?_
      refine x_put (pc := 161) (x := ((aw_u (aw_u (aw_u (aw_u (aw_un (aw_un M_7 10 (va_cpy (M_7 11) (M_7 10) (0 : Int32).toNatClampNeg (0 : Int32).toNatClampNeg (50 : Int32).toNatClampNeg)) 12 (va_cpy ((aw_un M_7 10 (va_cpy (M_7 11) (M_7 10) (0 : Int32).toNatClampNeg (0 : Int32).toNatClampNeg (50 : Int32).toNatClampNeg)) 13) ((aw_un M_7 10 (va_cpy (M_7 11) (M_7 10) (0 : Int32).toNatClampNeg (0 : Int32).toNatClampNeg (50 : Int32).toNatClampNeg)) 12) (0 : Int32).toNatClampNeg (0 : Int32).toNatClampNeg (20 : Int32).toNatClampNeg)) 1 5 ((aw_un (aw_un M_7 10 (va_cpy (M_7 11) (M_7 10) (0 : Int32).toNatClampNeg (0 : Int32).toNatClampNeg (50 : Int32).toNatClampNeg)) 12 (va_cpy ((aw_un M_7 10 (va_cpy (M_7 11) (M_7 10) (0 : Int32).toNatClampNeg (0 : Int32).toNatClampNeg (50 : Int32).toNatClampNeg)) 13) ((aw_un M_7 10 (va_cpy (M_7 11) (M_7 10) (0 : Int32).toNatClampNeg (0 : Int32).toNatClampNeg (50 : Int32).toNatClampNeg)) 12) (0 : Int32).toNatClampNeg (0 : Int32).toNatClampNeg (20 : Int32).toNatClampNeg)) 2 5)) 1 6 ((aw_u (aw_un (aw_un M_7 10 (va_cpy (M_7 11) (M_7 10) (0 : Int32).toNatClampNeg (0 : Int32).toNatClampNeg (50 : Int32).toNatClampNeg)) 12 (va_cpy ((aw_un M_7 10 (va_cpy (M_7 11) (M_7 10) (0 : Int32).toNatClampNeg (0 : Int32).toNatClampNeg (50 : Int32).toNatClampNeg)) 13) ((aw_un M_7 10 (va_cpy (M_7 11) (M_7 10) (0 : Int32).toNatClampNeg (0 : Int32).toNatClampNeg (50 : Int32).toNatClampNeg)) 12) (0 : Int32).toNatClampNeg (0 : Int32).toNatClampNeg (20 : Int32).toNatClampNeg)) 1 5 ((aw_un (aw_un M_7 10 (va_cpy (M_7 11) (M_7 10) (0 : Int32).toNatClampNeg (0 : Int32).toNatClampNeg (50 : Int32).toNatClampNeg)) 12 (va_cpy ((aw_un M_7 10 (va_cpy (M_7 11) (M_7 10) (0 : Int32).toNatClampNeg (0 : Int32).toNatClampNeg (50 : Int32).toNatClampNeg)) 13) ((aw_un M_7 10 (va_cpy (M_7 11) (M_7 10) (0 : Int32).toNatClampNeg (0 : Int32).toNatClampNeg (50 : Int32).toNatClampNeg)) 12) (0 : Int32).toNatClampNeg (0 : Int32).toNatClampNeg (20 : Int32).toNatClampNeg)) 2 5)) 2 6)) 1 7 ((aw_u (aw_u (aw_un (aw_un M_7 10 (va_cpy (M_7 11) (M_7 10) (0 : Int32).toNatClampNeg (0 : Int32).toNatClampNeg (50 : Int32).toNatClampNeg)) 12 (va_cpy ((aw_un M_7 10 (va_cpy (M_7 11) (M_7 10) (0 : Int32).toNatClampNeg (0 : Int32).toNatClampNeg (50 : Int32).toNatClampNeg)) 13) ((aw_un M_7 10 (va_cpy (M_7 11) (M_7 10) (0 : Int32).toNatClampNeg (0 : Int32).toNatClampNeg (50 : Int32).toNatClampNeg)) 12) (0 : Int32).toNatClampNeg (0 : Int32).toNatClampNeg (20 : Int32).toNatClampNeg)) 1 5 ((aw_un (aw_un M_7 10 (va_cpy (M_7 11) (M_7 10) (0 : Int32).toNatClampNeg (0 : Int32).toNatClampNeg (50 : Int32).toNatClampNeg)) 12 (va_cpy ((aw_un M_7 10 (va_cpy (M_7 11) (M_7 10) (0 : Int32).toNatClampNeg (0 : Int32).toNatClampNeg (50 : Int32).toNatClampNeg)) 13) ((aw_un M_7 10 (va_cpy (M_7 11) (M_7 10) (0 : Int32).toNatClampNeg (0 : Int32).toNatClampNeg (50 : Int32).toNatClampNeg)) 12) (0 : Int32).toNatClampNeg (0 : Int32).toNatClampNeg (20 : Int32).toNatClampNeg)) 2 5)) 1 6 ((aw_u (aw_un (aw_un M_7 10 (va_cpy (M_7 11) (M_7 10) (0 : Int32).toNatClampNeg (0 : Int32).toNatClampNeg (50 : Int32).toNatClampNeg)) 12 (va_cpy ((aw_un M_7 10 (va_cpy (M_7 11) (M_7 10) (0 : Int32).toNatClampNeg (0 : Int32).toNatClampNeg (50 : Int32).toNatClampNeg)) 13) ((aw_un M_7 10 (va_cpy (M_7 11) (M_7 10) (0 : Int32).toNatClampNeg (0 : Int32).toNatClampNeg (50 : Int32).toNatClampNeg)) 12) (0 : Int32).toNatClampNeg (0 : Int32).toNatClampNeg (20 : Int32).toNatClampNeg)) 1 5 ((aw_un (aw_un M_7 10 (va_cpy (M_7 11) (M_7 10) (0 : Int32).toNatClampNeg (0 : Int32).toNatClampNeg (50 : Int32).toNatClampNeg)) 12 (va_cpy ((aw_un M_7 10 (va_cpy (M_7 11) (M_7 10) (0 : Int32).toNatClampNeg (0 : Int32).toNatClampNeg (50 : Int32).toNatClampNeg)) 13) ((aw_un M_7 10 (va_cpy (M_7 11) (M_7 10) (0 : Int32).toNatClampNeg (0 : Int32).toNatClampNeg (50 : Int32).toNatClampNeg)) 12) (0 : Int32).toNatClampNeg (0 : Int32).toNatClampNeg (20 : Int32).toNatClampNeg)) 2 5)) 2 6)) 2 7)) 1 8 ((aw_u (aw_u (aw_u (aw_un (aw_un M_7 10 (va_cpy (M_7 11) (M_7 10) (0 : Int32).toNatClampNeg (0 : Int32).toNatClampNeg (50 : Int32).toNatClampNeg)) 12 (va_cpy ((aw_un M_7 10 (va_cpy (M_7 11) (M_7 10) (0 : Int32).toNatClampNeg (0 : Int32).toNatClampNeg (50 : Int32).toNatClampNeg)) 13) ((aw_un M_7 10 (va_cpy (M_7 11) (M_7 10) (0 : Int32).toNatClampNeg (0 : Int32).toNatClampNeg (50 : Int32).toNatClampNeg)) 12) (0 : Int32).toNatClampNeg (0 : Int32).toNatClampNeg (20 : Int32).toNatClampNeg)) 1 5 ((aw_un (aw_un M_7 10 (va_cpy (M_7 11) (M_7 10) (0 : Int32).toNatClampNeg (0 : Int32).toNatClampNeg (50 : Int32).toNatClampNeg)) 12 (va_cpy ((aw_un M_7 10 (va_cpy (M_7 11) (M_7 10) (0 : Int32).toNatClampNeg (0 : Int32).toNatClampNeg (50 : Int32).toNatClampNeg)) 13) ((aw_un M_7 10 (va_cpy (M_7 11) (M_7 10) (0 : Int32).toNatClampNeg (0 : Int32).toNatClampNeg (50 : Int32).toNatClampNeg)) 12) (0 : Int32).toNatClampNeg (0 : Int32).toNatClampNeg (20 : Int32).toNatClampNeg)) 2 5)) 1 6 ((aw_u (aw_un (aw_un M_7 10 (va_cpy (M_7 11) (M_7 10) (0 : Int32).toNatClampNeg (0 : Int32).toNatClampNeg (50 : Int32).toNatClampNeg)) 12 (va_cpy ((aw_un M_7 10 (va_cpy (M_7 11) (M_7 10) (0 : Int32).toNatClampNeg (0 : Int32).toNatClampNeg (50 : Int32).toNatClampNeg)) 13) ((aw_un M_7 10 (va_cpy (M_7 11) (M_7 10) (0 : Int32).toNatClampNeg (0 : Int32).toNatClampNeg (50 : Int32).toNatClampNeg)) 12) (0 : Int32).toNatClampNeg (0 : Int32).toNatClampNeg (20 : Int32).toNatClampNeg)) 1 5 ((aw_un (aw_un M_7 10 (va_cpy (M_7 11) (M_7 10) (0 : Int32).toNatClampNeg (0 : Int32).toNatClampNeg (50 : Int32).toNatClampNeg)) 12 (va_cpy ((aw_un M_7 10 (va_cpy (M_7 11) (M_7 10) (0 : Int32).toNatClampNeg (0 : Int32).toNatClampNeg (50 : Int32).toNatClampNeg)) 13) ((aw_un M_7 10 (va_cpy (M_7 11) (M_7 10) (0 : Int32).toNatClampNeg (0 : Int32).toNatClampNeg (50 : Int32).toNatClampNeg)) 12) (0 : Int32).toNatClampNeg (0 : Int32).toNatClampNeg (20 : Int32).toNatClampNeg)) 2 5)) 2 6)) 1 7 ((aw_u (aw_u (aw_un (aw_un M_7 10 (va_cpy (M_7 11) (M_7 10) (0 : Int32).toNatClampNeg (0 : Int32).toNatClampNeg (50 : Int32).toNatClampNeg)) 12 (va_cpy ((aw_un M_7 10 (va_cpy (M_7 11) (M_7 10) (0 : Int32).toNatClampNeg (0 : Int32).toNatClampNeg (50 : Int32).toNatClampNeg)) 13) ((aw_un M_7 10 (va_cpy (M_7 11) (M_7 10) (0 : Int32).toNatClampNeg (0 : Int32).toNatClampNeg (50 : Int32).toNatClampNeg)) 12) (0 : Int32).toNatClampNeg (0 : Int32).toNatClampNeg (20 : Int32).toNatClampNeg)) 1 5 ((aw_un (aw_un M_7 10 (va_cpy (M_7 11) (M_7 10) (0 : Int32).toNatClampNeg (0 : Int32).toNatClampNeg (50 : Int32).toNatClampNeg)) 12 (va_cpy ((aw_un M_7 10 (va_cpy (M_7 11) (M_7 10) (0 : Int32).toNatClampNeg (0 : Int32).toNatClampNeg (50 : Int32).toNatClampNeg)) 13) ((aw_un M_7 10 (va_cpy (M_7 11) (M_7 10) (0 : Int32).toNatClampNeg (0 : Int32).toNatClampNeg (50 : Int32).toNatClampNeg)) 12) (0 : Int32).toNatClampNeg (0 : Int32).toNatClampNeg (20 : Int32).toNatClampNeg)) 2 5)) 1 6 ((aw_u (aw_un (aw_un M_7 10 (va_cpy (M_7 11) (M_7 10) (0 : Int32).toNatClampNeg (0 : Int32).toNatClampNeg (50 : Int32).toNatClampNeg)) 12 (va_cpy ((aw_un M_7 10 (va_cpy (M_7 11) (M_7 10) (0 : Int32).toNatClampNeg (0 : Int32).toNatClampNeg (50 : Int32).toNatClampNeg)) 13) ((aw_un M_7 10 (va_cpy (M_7 11) (M_7 10) (0 : Int32).toNatClampNeg (0 : Int32).toNatClampNeg (50 : Int32).toNatClampNeg)) 12) (0 : Int32).toNatClampNeg (0 : Int32).toNatClampNeg (20 : Int32).toNatClampNeg)) 1 5 ((aw_un (aw_un M_7 10 (va_cpy (M_7 11) (M_7 10) (0 : Int32).toNatClampNeg (0 : Int32).toNatClampNeg (50 : Int32).toNatClampNeg)) 12 (va_cpy ((aw_un M_7 10 (va_cpy (M_7 11) (M_7 10) (0 : Int32).toNatClampNeg (0 : Int32).toNatClampNeg (50 : Int32).toNatClampNeg)) 13) ((aw_un M_7 10 (va_cpy (M_7 11) (M_7 10) (0 : Int32).toNatClampNeg (0 : Int32).toNatClampNeg (50 : Int32).toNatClampNeg)) 12) (0 : Int32).toNatClampNeg (0 : Int32).toNatClampNeg (20 : Int32).toNatClampNeg)) 2 5)) 2 6)) 2 7)) 2 8)) 2 9)) dX7_copyFrom_161 lk_X7_51 lp_X7_9 gc_1 rfl rfl rfl rfl ?_
      obtain rfl := aw_sv h
      exact x_vret (pc := 164) dX7_copyFrom_164
    · have h := aw_neg h c_3
      refine x_aload_n (pc := 19) 0 dX7_copyFrom_19 rfl rfl ?_
      refine x_get (pc := 20) dX7_copyFrom_20 lk_X7_20 gc_1 rfl rfl ?_
      refine x_iload_n (pc := 23) 2 dX7_copyFrom_23 rfl rfl ?_
      obtain ⟨c_11, h⟩ := aw_ck h
      refine x_aald (pc := 24) dX7_copyFrom_24 gc_6 (fun _ => rfl) c_11 (ga_6 (aw_lt c_11)) ?_
      refine x_aload_n (pc := 25) 1 dX7_copyFrom_25 rfl rfl ?_
      refine x_get (pc := 26) dX7_copyFrom_26 lk_X7_20 gc_2 rfl rfl ?_
      refine x_iload_n (pc := 29) 2 dX7_copyFrom_29 rfl rfl ?_
      obtain ⟨c_12, h⟩ := aw_ck h
      refine x_aald (pc := 30) dX7_copyFrom_30 gc_7 (fun _ => rfl) c_12 (ga_7 (aw_lt c_12)) ?_
      obtain ⟨M_14, e_13, h⟩ := aw_bv_e h
      refine x_callV (pc := 31) (As := [.ref (ad (14 + (6 + p2.toNatClampNeg)))]) (rest := []) (st' := []) (w := none) dX7_copyFrom_31 cw_X7_60 hd1 (gc_cloth (i := p2.toNatClampNeg) (Nat.lt_of_lt_of_le (aw_lt c_11) (by decide))) rfl rfl rfl (Nat.le_of_ble_eq_true rfl) (tc_Cl_copyFrom (d - 1) hh_0 p2.toNatClampNeg (Nat.lt_of_lt_of_le (aw_lt c_11) (by decide)) (6 + p2.toNatClampNeg) (Nat.add_lt_add_left (aw_lt c_12) 6) _  _ e_13) rfl ?_
      refine x_iinc (pc := 34) (p2 + 1) [(2, .int (p2 + 1)), (0, .ref (ad 1)), (1, .ref (ad 2))] dX7_copyFrom_34 rfl (congrArg (fun z => p2 + z) ic_1) (by decide) rfl ?_
      refine x_goto (pc := 37) 13 dX7_copyFrom_37 (by decide) ?_
      refine x_lv [1, 2, 0] [(0, .ref (ad 1)), (1, .ref (ad 2)), (2, .int (p2 + 1))] rfl ?_
      exact ih (p2 + 1) _ _ h
def fc_St_copyFrom_12  (M : aw_M) : Option aw_M :=
  aw_bv (fc_Ma_copyFrom 0 1 M) fun M_2 => (
  fc_St_copyFrom_12_L13  2000 0 M_2
  )
set_option maxRecDepth 20000 in
theorem tc_St_copyFrom_12 {l : Launch} {D : va_G} {cy : Nat → ClassId} {ad : Nat → Nat} {A : Nat → Prop} (d : Nat) (hd : 3 ≤ d)  (M : aw_M) (M1 : aw_M) (h : fc_St_copyFrom_12  M = some M1) : AX l D cy ad A gc_G yX7_copyFrom cX7_copyFrom 3 none d [.ref (ad 1), .ref (ad 2)] M none M1 := by
  have hd1 : (d - 1) + 1 ≤ d := by omega
  have hm1 : 1 ≤ d := by omega
  have hh_0 : 0 ≤ d - 1 := by omega
  have hh_2 : 2 ≤ d - 1 := by omega
  refine AX.of (own := RX7) (by decide +kernel) rfl (Nat.le_of_ble_eq_true rfl) ?_
  unfold fc_St_copyFrom_12 at h
  show AW l D cy ad A gc_G RX7 cX7_copyFrom 3 none d none M1 0 [(0, .ref (ad 1)), (1, .ref (ad 2))] [] M
  refine x_aload_n (pc := 0) 0 dX7_copyFrom_0 rfl rfl ?_
  refine x_get (pc := 1) dX7_copyFrom_1 lk_X7_12 gc_1 rfl rfl ?_
  refine x_aload_n (pc := 4) 1 dX7_copyFrom_4 rfl rfl ?_
  refine x_get (pc := 5) dX7_copyFrom_5 lk_X7_12 gc_2 rfl rfl ?_
  obtain ⟨M_2, e_1, h⟩ := aw_bv_e h
  refine x_callV (pc := 8) (As := [.ref (ad 4)]) (rest := []) (st' := []) (w := none) dX7_copyFrom_8 cw_X7_56 hd1 (gc_mach (i := 0) (by decide)) rfl rfl rfl (Nat.le_of_ble_eq_true rfl) (tc_Ma_copyFrom (d - 1) hh_0 0 (by decide) 1 (by decide) _  _ e_1) rfl ?_
  refine x_iconst (pc := 11) (w := 0) dX7_copyFrom_11 ic_0 ?_
  refine x_istore_n (pc := 12) 2 [(2, .int 0), (0, .ref (ad 1)), (1, .ref (ad 2))] dX7_copyFrom_12 rfl (by decide) rfl ?_
  refine x_lv [1, 2, 0] [(0, .ref (ad 1)), (1, .ref (ad 2)), (2, .int 0)] rfl ?_
  exact tc_St_copyFrom_12_L13 d hd  2000 0 _ _ h
def fc_St_copyFrom_21_L13 : Nat → Int32 → aw_M → Option aw_M
  | 0, _, _ => none
  | n + 1, p2, M =>
    if (6 : Int32) ≤ p2 then (
      aw_bv (fc_La_take 2 30 (M 26 2) M) fun M_5 => (
      aw_bv (fc_La_take 3 31 (M_5 27 2) M_5) fun M_7 => (
      if ¬ (¬ (0 : Int32) < 0 ∧ ¬ (0 : Int32) < 0 ∧ ¬ (50 : Int32) < 0 ∧ (0 : Int32).toNatClampNeg + (50 : Int32).toNatClampNeg ≤ 50 ∧ (0 : Int32).toNatClampNeg + (50 : Int32).toNatClampNeg ≤ 50) then none else (
      if ¬ (∀ j, j < (50 : Int32).toNatClampNeg → fits .byte (.int (M_7 10 ((0 : Int32).toNatClampNeg + j))) = true) then none else (
      if ¬ (¬ (0 : Int32) < 0 ∧ ¬ (0 : Int32) < 0 ∧ ¬ (20 : Int32) < 0 ∧ (0 : Int32).toNatClampNeg + (20 : Int32).toNatClampNeg ≤ 20 ∧ (0 : Int32).toNatClampNeg + (20 : Int32).toNatClampNeg ≤ 20) then none else (
      some (aw_u (aw_u (aw_u (aw_u (aw_u (aw_un (aw_un M_7 11 (va_cpy (M_7 10) (M_7 11) (0 : Int32).toNatClampNeg (0 : Int32).toNatClampNeg (50 : Int32).toNatClampNeg)) 13 (va_cpy ((aw_un M_7 11 (va_cpy (M_7 10) (M_7 11) (0 : Int32).toNatClampNeg (0 : Int32).toNatClampNeg (50 : Int32).toNatClampNeg)) 12) ((aw_un M_7 11 (va_cpy (M_7 10) (M_7 11) (0 : Int32).toNatClampNeg (0 : Int32).toNatClampNeg (50 : Int32).toNatClampNeg)) 13) (0 : Int32).toNatClampNeg (0 : Int32).toNatClampNeg (20 : Int32).toNatClampNeg)) 2 5 ((aw_un (aw_un M_7 11 (va_cpy (M_7 10) (M_7 11) (0 : Int32).toNatClampNeg (0 : Int32).toNatClampNeg (50 : Int32).toNatClampNeg)) 13 (va_cpy ((aw_un M_7 11 (va_cpy (M_7 10) (M_7 11) (0 : Int32).toNatClampNeg (0 : Int32).toNatClampNeg (50 : Int32).toNatClampNeg)) 12) ((aw_un M_7 11 (va_cpy (M_7 10) (M_7 11) (0 : Int32).toNatClampNeg (0 : Int32).toNatClampNeg (50 : Int32).toNatClampNeg)) 13) (0 : Int32).toNatClampNeg (0 : Int32).toNatClampNeg (20 : Int32).toNatClampNeg)) 1 5)) 2 6 ((aw_u (aw_un (aw_un M_7 11 (va_cpy (M_7 10) (M_7 11) (0 : Int32).toNatClampNeg (0 : Int32).toNatClampNeg (50 : Int32).toNatClampNeg)) 13 (va_cpy ((aw_un M_7 11 (va_cpy (M_7 10) (M_7 11) (0 : Int32).toNatClampNeg (0 : Int32).toNatClampNeg (50 : Int32).toNatClampNeg)) 12) ((aw_un M_7 11 (va_cpy (M_7 10) (M_7 11) (0 : Int32).toNatClampNeg (0 : Int32).toNatClampNeg (50 : Int32).toNatClampNeg)) 13) (0 : Int32).toNatClampNeg (0 : Int32).toNatClampNeg (20 : Int32).toNatClampNeg)) 2 5 ((aw_un (aw_un M_7 11 (va_cpy (M_7 10) (M_7 11) (0 : Int32).toNatClampNeg (0 : Int32).toNatClampNeg (50 : Int32).toNatClampNeg)) 13 (va_cpy ((aw_un M_7 11 (va_cpy (M_7 10) (M_7 11) (0 : Int32).toNatClampNeg (0 : Int32).toNatClampNeg (50 : Int32).toNatClampNeg)) 12) ((aw_un M_7 11 (va_cpy (M_7 10) (M_7 11) (0 : Int32).toNatClampNeg (0 : Int32).toNatClampNeg (50 : Int32).toNatClampNeg)) 13) (0 : Int32).toNatClampNeg (0 : Int32).toNatClampNeg (20 : Int32).toNatClampNeg)) 1 5)) 1 6)) 2 7 ((aw_u (aw_u (aw_un (aw_un M_7 11 (va_cpy (M_7 10) (M_7 11) (0 : Int32).toNatClampNeg (0 : Int32).toNatClampNeg (50 : Int32).toNatClampNeg)) 13 (va_cpy ((aw_un M_7 11 (va_cpy (M_7 10) (M_7 11) (0 : Int32).toNatClampNeg (0 : Int32).toNatClampNeg (50 : Int32).toNatClampNeg)) 12) ((aw_un M_7 11 (va_cpy (M_7 10) (M_7 11) (0 : Int32).toNatClampNeg (0 : Int32).toNatClampNeg (50 : Int32).toNatClampNeg)) 13) (0 : Int32).toNatClampNeg (0 : Int32).toNatClampNeg (20 : Int32).toNatClampNeg)) 2 5 ((aw_un (aw_un M_7 11 (va_cpy (M_7 10) (M_7 11) (0 : Int32).toNatClampNeg (0 : Int32).toNatClampNeg (50 : Int32).toNatClampNeg)) 13 (va_cpy ((aw_un M_7 11 (va_cpy (M_7 10) (M_7 11) (0 : Int32).toNatClampNeg (0 : Int32).toNatClampNeg (50 : Int32).toNatClampNeg)) 12) ((aw_un M_7 11 (va_cpy (M_7 10) (M_7 11) (0 : Int32).toNatClampNeg (0 : Int32).toNatClampNeg (50 : Int32).toNatClampNeg)) 13) (0 : Int32).toNatClampNeg (0 : Int32).toNatClampNeg (20 : Int32).toNatClampNeg)) 1 5)) 2 6 ((aw_u (aw_un (aw_un M_7 11 (va_cpy (M_7 10) (M_7 11) (0 : Int32).toNatClampNeg (0 : Int32).toNatClampNeg (50 : Int32).toNatClampNeg)) 13 (va_cpy ((aw_un M_7 11 (va_cpy (M_7 10) (M_7 11) (0 : Int32).toNatClampNeg (0 : Int32).toNatClampNeg (50 : Int32).toNatClampNeg)) 12) ((aw_un M_7 11 (va_cpy (M_7 10) (M_7 11) (0 : Int32).toNatClampNeg (0 : Int32).toNatClampNeg (50 : Int32).toNatClampNeg)) 13) (0 : Int32).toNatClampNeg (0 : Int32).toNatClampNeg (20 : Int32).toNatClampNeg)) 2 5 ((aw_un (aw_un M_7 11 (va_cpy (M_7 10) (M_7 11) (0 : Int32).toNatClampNeg (0 : Int32).toNatClampNeg (50 : Int32).toNatClampNeg)) 13 (va_cpy ((aw_un M_7 11 (va_cpy (M_7 10) (M_7 11) (0 : Int32).toNatClampNeg (0 : Int32).toNatClampNeg (50 : Int32).toNatClampNeg)) 12) ((aw_un M_7 11 (va_cpy (M_7 10) (M_7 11) (0 : Int32).toNatClampNeg (0 : Int32).toNatClampNeg (50 : Int32).toNatClampNeg)) 13) (0 : Int32).toNatClampNeg (0 : Int32).toNatClampNeg (20 : Int32).toNatClampNeg)) 1 5)) 1 6)) 1 7)) 2 8 ((aw_u (aw_u (aw_u (aw_un (aw_un M_7 11 (va_cpy (M_7 10) (M_7 11) (0 : Int32).toNatClampNeg (0 : Int32).toNatClampNeg (50 : Int32).toNatClampNeg)) 13 (va_cpy ((aw_un M_7 11 (va_cpy (M_7 10) (M_7 11) (0 : Int32).toNatClampNeg (0 : Int32).toNatClampNeg (50 : Int32).toNatClampNeg)) 12) ((aw_un M_7 11 (va_cpy (M_7 10) (M_7 11) (0 : Int32).toNatClampNeg (0 : Int32).toNatClampNeg (50 : Int32).toNatClampNeg)) 13) (0 : Int32).toNatClampNeg (0 : Int32).toNatClampNeg (20 : Int32).toNatClampNeg)) 2 5 ((aw_un (aw_un M_7 11 (va_cpy (M_7 10) (M_7 11) (0 : Int32).toNatClampNeg (0 : Int32).toNatClampNeg (50 : Int32).toNatClampNeg)) 13 (va_cpy ((aw_un M_7 11 (va_cpy (M_7 10) (M_7 11) (0 : Int32).toNatClampNeg (0 : Int32).toNatClampNeg (50 : Int32).toNatClampNeg)) 12) ((aw_un M_7 11 (va_cpy (M_7 10) (M_7 11) (0 : Int32).toNatClampNeg (0 : Int32).toNatClampNeg (50 : Int32).toNatClampNeg)) 13) (0 : Int32).toNatClampNeg (0 : Int32).toNatClampNeg (20 : Int32).toNatClampNeg)) 1 5)) 2 6 ((aw_u (aw_un (aw_un M_7 11 (va_cpy (M_7 10) (M_7 11) (0 : Int32).toNatClampNeg (0 : Int32).toNatClampNeg (50 : Int32).toNatClampNeg)) 13 (va_cpy ((aw_un M_7 11 (va_cpy (M_7 10) (M_7 11) (0 : Int32).toNatClampNeg (0 : Int32).toNatClampNeg (50 : Int32).toNatClampNeg)) 12) ((aw_un M_7 11 (va_cpy (M_7 10) (M_7 11) (0 : Int32).toNatClampNeg (0 : Int32).toNatClampNeg (50 : Int32).toNatClampNeg)) 13) (0 : Int32).toNatClampNeg (0 : Int32).toNatClampNeg (20 : Int32).toNatClampNeg)) 2 5 ((aw_un (aw_un M_7 11 (va_cpy (M_7 10) (M_7 11) (0 : Int32).toNatClampNeg (0 : Int32).toNatClampNeg (50 : Int32).toNatClampNeg)) 13 (va_cpy ((aw_un M_7 11 (va_cpy (M_7 10) (M_7 11) (0 : Int32).toNatClampNeg (0 : Int32).toNatClampNeg (50 : Int32).toNatClampNeg)) 12) ((aw_un M_7 11 (va_cpy (M_7 10) (M_7 11) (0 : Int32).toNatClampNeg (0 : Int32).toNatClampNeg (50 : Int32).toNatClampNeg)) 13) (0 : Int32).toNatClampNeg (0 : Int32).toNatClampNeg (20 : Int32).toNatClampNeg)) 1 5)) 1 6)) 2 7 ((aw_u (aw_u (aw_un (aw_un M_7 11 (va_cpy (M_7 10) (M_7 11) (0 : Int32).toNatClampNeg (0 : Int32).toNatClampNeg (50 : Int32).toNatClampNeg)) 13 (va_cpy ((aw_un M_7 11 (va_cpy (M_7 10) (M_7 11) (0 : Int32).toNatClampNeg (0 : Int32).toNatClampNeg (50 : Int32).toNatClampNeg)) 12) ((aw_un M_7 11 (va_cpy (M_7 10) (M_7 11) (0 : Int32).toNatClampNeg (0 : Int32).toNatClampNeg (50 : Int32).toNatClampNeg)) 13) (0 : Int32).toNatClampNeg (0 : Int32).toNatClampNeg (20 : Int32).toNatClampNeg)) 2 5 ((aw_un (aw_un M_7 11 (va_cpy (M_7 10) (M_7 11) (0 : Int32).toNatClampNeg (0 : Int32).toNatClampNeg (50 : Int32).toNatClampNeg)) 13 (va_cpy ((aw_un M_7 11 (va_cpy (M_7 10) (M_7 11) (0 : Int32).toNatClampNeg (0 : Int32).toNatClampNeg (50 : Int32).toNatClampNeg)) 12) ((aw_un M_7 11 (va_cpy (M_7 10) (M_7 11) (0 : Int32).toNatClampNeg (0 : Int32).toNatClampNeg (50 : Int32).toNatClampNeg)) 13) (0 : Int32).toNatClampNeg (0 : Int32).toNatClampNeg (20 : Int32).toNatClampNeg)) 1 5)) 2 6 ((aw_u (aw_un (aw_un M_7 11 (va_cpy (M_7 10) (M_7 11) (0 : Int32).toNatClampNeg (0 : Int32).toNatClampNeg (50 : Int32).toNatClampNeg)) 13 (va_cpy ((aw_un M_7 11 (va_cpy (M_7 10) (M_7 11) (0 : Int32).toNatClampNeg (0 : Int32).toNatClampNeg (50 : Int32).toNatClampNeg)) 12) ((aw_un M_7 11 (va_cpy (M_7 10) (M_7 11) (0 : Int32).toNatClampNeg (0 : Int32).toNatClampNeg (50 : Int32).toNatClampNeg)) 13) (0 : Int32).toNatClampNeg (0 : Int32).toNatClampNeg (20 : Int32).toNatClampNeg)) 2 5 ((aw_un (aw_un M_7 11 (va_cpy (M_7 10) (M_7 11) (0 : Int32).toNatClampNeg (0 : Int32).toNatClampNeg (50 : Int32).toNatClampNeg)) 13 (va_cpy ((aw_un M_7 11 (va_cpy (M_7 10) (M_7 11) (0 : Int32).toNatClampNeg (0 : Int32).toNatClampNeg (50 : Int32).toNatClampNeg)) 12) ((aw_un M_7 11 (va_cpy (M_7 10) (M_7 11) (0 : Int32).toNatClampNeg (0 : Int32).toNatClampNeg (50 : Int32).toNatClampNeg)) 13) (0 : Int32).toNatClampNeg (0 : Int32).toNatClampNeg (20 : Int32).toNatClampNeg)) 1 5)) 1 6)) 1 7)) 1 8)) 2 9 ((aw_u (aw_u (aw_u (aw_u (aw_un (aw_un M_7 11 (va_cpy (M_7 10) (M_7 11) (0 : Int32).toNatClampNeg (0 : Int32).toNatClampNeg (50 : Int32).toNatClampNeg)) 13 (va_cpy ((aw_un M_7 11 (va_cpy (M_7 10) (M_7 11) (0 : Int32).toNatClampNeg (0 : Int32).toNatClampNeg (50 : Int32).toNatClampNeg)) 12) ((aw_un M_7 11 (va_cpy (M_7 10) (M_7 11) (0 : Int32).toNatClampNeg (0 : Int32).toNatClampNeg (50 : Int32).toNatClampNeg)) 13) (0 : Int32).toNatClampNeg (0 : Int32).toNatClampNeg (20 : Int32).toNatClampNeg)) 2 5 ((aw_un (aw_un M_7 11 (va_cpy (M_7 10) (M_7 11) (0 : Int32).toNatClampNeg (0 : Int32).toNatClampNeg (50 : Int32).toNatClampNeg)) 13 (va_cpy ((aw_un M_7 11 (va_cpy (M_7 10) (M_7 11) (0 : Int32).toNatClampNeg (0 : Int32).toNatClampNeg (50 : Int32).toNatClampNeg)) 12) ((aw_un M_7 11 (va_cpy (M_7 10) (M_7 11) (0 : Int32).toNatClampNeg (0 : Int32).toNatClampNeg (50 : Int32).toNatClampNeg)) 13) (0 : Int32).toNatClampNeg (0 : Int32).toNatClampNeg (20 : Int32).toNatClampNeg)) 1 5)) 2 6 ((aw_u (aw_un (aw_un M_7 11 (va_cpy (M_7 10) (M_7 11) (0 : Int32).toNatClampNeg (0 : Int32).toNatClampNeg (50 : Int32).toNatClampNeg)) 13 (va_cpy ((aw_un M_7 11 (va_cpy (M_7 10) (M_7 11) (0 : Int32).toNatClampNeg (0 : Int32).toNatClampNeg (50 : Int32).toNatClampNeg)) 12) ((aw_un M_7 11 (va_cpy (M_7 10) (M_7 11) (0 : Int32).toNatClampNeg (0 : Int32).toNatClampNeg (50 : Int32).toNatClampNeg)) 13) (0 : Int32).toNatClampNeg (0 : Int32).toNatClampNeg (20 : Int32).toNatClampNeg)) 2 5 ((aw_un (aw_un M_7 11 (va_cpy (M_7 10) (M_7 11) (0 : Int32).toNatClampNeg (0 : Int32).toNatClampNeg (50 : Int32).toNatClampNeg)) 13 (va_cpy ((aw_un M_7 11 (va_cpy (M_7 10) (M_7 11) (0 : Int32).toNatClampNeg (0 : Int32).toNatClampNeg (50 : Int32).toNatClampNeg)) 12) ((aw_un M_7 11 (va_cpy (M_7 10) (M_7 11) (0 : Int32).toNatClampNeg (0 : Int32).toNatClampNeg (50 : Int32).toNatClampNeg)) 13) (0 : Int32).toNatClampNeg (0 : Int32).toNatClampNeg (20 : Int32).toNatClampNeg)) 1 5)) 1 6)) 2 7 ((aw_u (aw_u (aw_un (aw_un M_7 11 (va_cpy (M_7 10) (M_7 11) (0 : Int32).toNatClampNeg (0 : Int32).toNatClampNeg (50 : Int32).toNatClampNeg)) 13 (va_cpy ((aw_un M_7 11 (va_cpy (M_7 10) (M_7 11) (0 : Int32).toNatClampNeg (0 : Int32).toNatClampNeg (50 : Int32).toNatClampNeg)) 12) ((aw_un M_7 11 (va_cpy (M_7 10) (M_7 11) (0 : Int32).toNatClampNeg (0 : Int32).toNatClampNeg (50 : Int32).toNatClampNeg)) 13) (0 : Int32).toNatClampNeg (0 : Int32).toNatClampNeg (20 : Int32).toNatClampNeg)) 2 5 ((aw_un (aw_un M_7 11 (va_cpy (M_7 10) (M_7 11) (0 : Int32).toNatClampNeg (0 : Int32).toNatClampNeg (50 : Int32).toNatClampNeg)) 13 (va_cpy ((aw_un M_7 11 (va_cpy (M_7 10) (M_7 11) (0 : Int32).toNatClampNeg (0 : Int32).toNatClampNeg (50 : Int32).toNatClampNeg)) 12) ((aw_un M_7 11 (va_cpy (M_7 10) (M_7 11) (0 : Int32).toNatClampNeg (0 : Int32).toNatClampNeg (50 : Int32).toNatClampNeg)) 13) (0 : Int32).toNatClampNeg (0 : Int32).toNatClampNeg (20 : Int32).toNatClampNeg)) 1 5)) 2 6 ((aw_u (aw_un (aw_un M_7 11 (va_cpy (M_7 10) (M_7 11) (0 : Int32).toNatClampNeg (0 : Int32).toNatClampNeg (50 : Int32).toNatClampNeg)) 13 (va_cpy ((aw_un M_7 11 (va_cpy (M_7 10) (M_7 11) (0 : Int32).toNatClampNeg (0 : Int32).toNatClampNeg (50 : Int32).toNatClampNeg)) 12) ((aw_un M_7 11 (va_cpy (M_7 10) (M_7 11) (0 : Int32).toNatClampNeg (0 : Int32).toNatClampNeg (50 : Int32).toNatClampNeg)) 13) (0 : Int32).toNatClampNeg (0 : Int32).toNatClampNeg (20 : Int32).toNatClampNeg)) 2 5 ((aw_un (aw_un M_7 11 (va_cpy (M_7 10) (M_7 11) (0 : Int32).toNatClampNeg (0 : Int32).toNatClampNeg (50 : Int32).toNatClampNeg)) 13 (va_cpy ((aw_un M_7 11 (va_cpy (M_7 10) (M_7 11) (0 : Int32).toNatClampNeg (0 : Int32).toNatClampNeg (50 : Int32).toNatClampNeg)) 12) ((aw_un M_7 11 (va_cpy (M_7 10) (M_7 11) (0 : Int32).toNatClampNeg (0 : Int32).toNatClampNeg (50 : Int32).toNatClampNeg)) 13) (0 : Int32).toNatClampNeg (0 : Int32).toNatClampNeg (20 : Int32).toNatClampNeg)) 1 5)) 1 6)) 1 7)) 2 8 ((aw_u (aw_u (aw_u (aw_un (aw_un M_7 11 (va_cpy (M_7 10) (M_7 11) (0 : Int32).toNatClampNeg (0 : Int32).toNatClampNeg (50 : Int32).toNatClampNeg)) 13 (va_cpy ((aw_un M_7 11 (va_cpy (M_7 10) (M_7 11) (0 : Int32).toNatClampNeg (0 : Int32).toNatClampNeg (50 : Int32).toNatClampNeg)) 12) ((aw_un M_7 11 (va_cpy (M_7 10) (M_7 11) (0 : Int32).toNatClampNeg (0 : Int32).toNatClampNeg (50 : Int32).toNatClampNeg)) 13) (0 : Int32).toNatClampNeg (0 : Int32).toNatClampNeg (20 : Int32).toNatClampNeg)) 2 5 ((aw_un (aw_un M_7 11 (va_cpy (M_7 10) (M_7 11) (0 : Int32).toNatClampNeg (0 : Int32).toNatClampNeg (50 : Int32).toNatClampNeg)) 13 (va_cpy ((aw_un M_7 11 (va_cpy (M_7 10) (M_7 11) (0 : Int32).toNatClampNeg (0 : Int32).toNatClampNeg (50 : Int32).toNatClampNeg)) 12) ((aw_un M_7 11 (va_cpy (M_7 10) (M_7 11) (0 : Int32).toNatClampNeg (0 : Int32).toNatClampNeg (50 : Int32).toNatClampNeg)) 13) (0 : Int32).toNatClampNeg (0 : Int32).toNatClampNeg (20 : Int32).toNatClampNeg)) 1 5)) 2 6 ((aw_u (aw_un (aw_un M_7 11 (va_cpy (M_7 10) (M_7 11) (0 : Int32).toNatClampNeg (0 : Int32).toNatClampNeg (50 : Int32).toNatClampNeg)) 13 (va_cpy ((aw_un M_7 11 (va_cpy (M_7 10) (M_7 11) (0 : Int32).toNatClampNeg (0 : Int32).toNatClampNeg (50 : Int32).toNatClampNeg)) 12) ((aw_un M_7 11 (va_cpy (M_7 10) (M_7 11) (0 : Int32).toNatClampNeg (0 : Int32).toNatClampNeg (50 : Int32).toNatClampNeg)) 13) (0 : Int32).toNatClampNeg (0 : Int32).toNatClampNeg (20 : Int32).toNatClampNeg)) 2 5 ((aw_un (aw_un M_7 11 (va_cpy (M_7 10) (M_7 11) (0 : Int32).toNatClampNeg (0 : Int32).toNatClampNeg (50 : Int32).toNatClampNeg)) 13 (va_cpy ((aw_un M_7 11 (va_cpy (M_7 10) (M_7 11) (0 : Int32).toNatClampNeg (0 : Int32).toNatClampNeg (50 : Int32).toNatClampNeg)) 12) ((aw_un M_7 11 (va_cpy (M_7 10) (M_7 11) (0 : Int32).toNatClampNeg (0 : Int32).toNatClampNeg (50 : Int32).toNatClampNeg)) 13) (0 : Int32).toNatClampNeg (0 : Int32).toNatClampNeg (20 : Int32).toNatClampNeg)) 1 5)) 1 6)) 2 7 ((aw_u (aw_u (aw_un (aw_un M_7 11 (va_cpy (M_7 10) (M_7 11) (0 : Int32).toNatClampNeg (0 : Int32).toNatClampNeg (50 : Int32).toNatClampNeg)) 13 (va_cpy ((aw_un M_7 11 (va_cpy (M_7 10) (M_7 11) (0 : Int32).toNatClampNeg (0 : Int32).toNatClampNeg (50 : Int32).toNatClampNeg)) 12) ((aw_un M_7 11 (va_cpy (M_7 10) (M_7 11) (0 : Int32).toNatClampNeg (0 : Int32).toNatClampNeg (50 : Int32).toNatClampNeg)) 13) (0 : Int32).toNatClampNeg (0 : Int32).toNatClampNeg (20 : Int32).toNatClampNeg)) 2 5 ((aw_un (aw_un M_7 11 (va_cpy (M_7 10) (M_7 11) (0 : Int32).toNatClampNeg (0 : Int32).toNatClampNeg (50 : Int32).toNatClampNeg)) 13 (va_cpy ((aw_un M_7 11 (va_cpy (M_7 10) (M_7 11) (0 : Int32).toNatClampNeg (0 : Int32).toNatClampNeg (50 : Int32).toNatClampNeg)) 12) ((aw_un M_7 11 (va_cpy (M_7 10) (M_7 11) (0 : Int32).toNatClampNeg (0 : Int32).toNatClampNeg (50 : Int32).toNatClampNeg)) 13) (0 : Int32).toNatClampNeg (0 : Int32).toNatClampNeg (20 : Int32).toNatClampNeg)) 1 5)) 2 6 ((aw_u (aw_un (aw_un M_7 11 (va_cpy (M_7 10) (M_7 11) (0 : Int32).toNatClampNeg (0 : Int32).toNatClampNeg (50 : Int32).toNatClampNeg)) 13 (va_cpy ((aw_un M_7 11 (va_cpy (M_7 10) (M_7 11) (0 : Int32).toNatClampNeg (0 : Int32).toNatClampNeg (50 : Int32).toNatClampNeg)) 12) ((aw_un M_7 11 (va_cpy (M_7 10) (M_7 11) (0 : Int32).toNatClampNeg (0 : Int32).toNatClampNeg (50 : Int32).toNatClampNeg)) 13) (0 : Int32).toNatClampNeg (0 : Int32).toNatClampNeg (20 : Int32).toNatClampNeg)) 2 5 ((aw_un (aw_un M_7 11 (va_cpy (M_7 10) (M_7 11) (0 : Int32).toNatClampNeg (0 : Int32).toNatClampNeg (50 : Int32).toNatClampNeg)) 13 (va_cpy ((aw_un M_7 11 (va_cpy (M_7 10) (M_7 11) (0 : Int32).toNatClampNeg (0 : Int32).toNatClampNeg (50 : Int32).toNatClampNeg)) 12) ((aw_un M_7 11 (va_cpy (M_7 10) (M_7 11) (0 : Int32).toNatClampNeg (0 : Int32).toNatClampNeg (50 : Int32).toNatClampNeg)) 13) (0 : Int32).toNatClampNeg (0 : Int32).toNatClampNeg (20 : Int32).toNatClampNeg)) 1 5)) 1 6)) 1 7)) 1 8)) 1 9))
      )
      )
      )
      )
      )
    ) else (
      if aw_in p2 6 then none else (
      if aw_in p2 6 then none else (
      aw_bv (fc_Cl_copyFrom (6 + p2.toNatClampNeg) p2.toNatClampNeg M) fun M_14 => (
      fc_St_copyFrom_21_L13 n (p2 + 1) M_14
      )
      )
      )
    )
theorem fc_St_copyFrom_21_L13_s (n : Nat) (p2 : Int32) (M : aw_M) : fc_St_copyFrom_21_L13 (n + 1) p2 M = (
    if (6 : Int32) ≤ p2 then (
      aw_bv (fc_La_take 2 30 (M 26 2) M) fun M_5 => (
      aw_bv (fc_La_take 3 31 (M_5 27 2) M_5) fun M_7 => (
      if ¬ (¬ (0 : Int32) < 0 ∧ ¬ (0 : Int32) < 0 ∧ ¬ (50 : Int32) < 0 ∧ (0 : Int32).toNatClampNeg + (50 : Int32).toNatClampNeg ≤ 50 ∧ (0 : Int32).toNatClampNeg + (50 : Int32).toNatClampNeg ≤ 50) then none else (
      if ¬ (∀ j, j < (50 : Int32).toNatClampNeg → fits .byte (.int (M_7 10 ((0 : Int32).toNatClampNeg + j))) = true) then none else (
      if ¬ (¬ (0 : Int32) < 0 ∧ ¬ (0 : Int32) < 0 ∧ ¬ (20 : Int32) < 0 ∧ (0 : Int32).toNatClampNeg + (20 : Int32).toNatClampNeg ≤ 20 ∧ (0 : Int32).toNatClampNeg + (20 : Int32).toNatClampNeg ≤ 20) then none else (
      some (aw_u (aw_u (aw_u (aw_u (aw_u (aw_un (aw_un M_7 11 (va_cpy (M_7 10) (M_7 11) (0 : Int32).toNatClampNeg (0 : Int32).toNatClampNeg (50 : Int32).toNatClampNeg)) 13 (va_cpy ((aw_un M_7 11 (va_cpy (M_7 10) (M_7 11) (0 : Int32).toNatClampNeg (0 : Int32).toNatClampNeg (50 : Int32).toNatClampNeg)) 12) ((aw_un M_7 11 (va_cpy (M_7 10) (M_7 11) (0 : Int32).toNatClampNeg (0 : Int32).toNatClampNeg (50 : Int32).toNatClampNeg)) 13) (0 : Int32).toNatClampNeg (0 : Int32).toNatClampNeg (20 : Int32).toNatClampNeg)) 2 5 ((aw_un (aw_un M_7 11 (va_cpy (M_7 10) (M_7 11) (0 : Int32).toNatClampNeg (0 : Int32).toNatClampNeg (50 : Int32).toNatClampNeg)) 13 (va_cpy ((aw_un M_7 11 (va_cpy (M_7 10) (M_7 11) (0 : Int32).toNatClampNeg (0 : Int32).toNatClampNeg (50 : Int32).toNatClampNeg)) 12) ((aw_un M_7 11 (va_cpy (M_7 10) (M_7 11) (0 : Int32).toNatClampNeg (0 : Int32).toNatClampNeg (50 : Int32).toNatClampNeg)) 13) (0 : Int32).toNatClampNeg (0 : Int32).toNatClampNeg (20 : Int32).toNatClampNeg)) 1 5)) 2 6 ((aw_u (aw_un (aw_un M_7 11 (va_cpy (M_7 10) (M_7 11) (0 : Int32).toNatClampNeg (0 : Int32).toNatClampNeg (50 : Int32).toNatClampNeg)) 13 (va_cpy ((aw_un M_7 11 (va_cpy (M_7 10) (M_7 11) (0 : Int32).toNatClampNeg (0 : Int32).toNatClampNeg (50 : Int32).toNatClampNeg)) 12) ((aw_un M_7 11 (va_cpy (M_7 10) (M_7 11) (0 : Int32).toNatClampNeg (0 : Int32).toNatClampNeg (50 : Int32).toNatClampNeg)) 13) (0 : Int32).toNatClampNeg (0 : Int32).toNatClampNeg (20 : Int32).toNatClampNeg)) 2 5 ((aw_un (aw_un M_7 11 (va_cpy (M_7 10) (M_7 11) (0 : Int32).toNatClampNeg (0 : Int32).toNatClampNeg (50 : Int32).toNatClampNeg)) 13 (va_cpy ((aw_un M_7 11 (va_cpy (M_7 10) (M_7 11) (0 : Int32).toNatClampNeg (0 : Int32).toNatClampNeg (50 : Int32).toNatClampNeg)) 12) ((aw_un M_7 11 (va_cpy (M_7 10) (M_7 11) (0 : Int32).toNatClampNeg (0 : Int32).toNatClampNeg (50 : Int32).toNatClampNeg)) 13) (0 : Int32).toNatClampNeg (0 : Int32).toNatClampNeg (20 : Int32).toNatClampNeg)) 1 5)) 1 6)) 2 7 ((aw_u (aw_u (aw_un (aw_un M_7 11 (va_cpy (M_7 10) (M_7 11) (0 : Int32).toNatClampNeg (0 : Int32).toNatClampNeg (50 : Int32).toNatClampNeg)) 13 (va_cpy ((aw_un M_7 11 (va_cpy (M_7 10) (M_7 11) (0 : Int32).toNatClampNeg (0 : Int32).toNatClampNeg (50 : Int32).toNatClampNeg)) 12) ((aw_un M_7 11 (va_cpy (M_7 10) (M_7 11) (0 : Int32).toNatClampNeg (0 : Int32).toNatClampNeg (50 : Int32).toNatClampNeg)) 13) (0 : Int32).toNatClampNeg (0 : Int32).toNatClampNeg (20 : Int32).toNatClampNeg)) 2 5 ((aw_un (aw_un M_7 11 (va_cpy (M_7 10) (M_7 11) (0 : Int32).toNatClampNeg (0 : Int32).toNatClampNeg (50 : Int32).toNatClampNeg)) 13 (va_cpy ((aw_un M_7 11 (va_cpy (M_7 10) (M_7 11) (0 : Int32).toNatClampNeg (0 : Int32).toNatClampNeg (50 : Int32).toNatClampNeg)) 12) ((aw_un M_7 11 (va_cpy (M_7 10) (M_7 11) (0 : Int32).toNatClampNeg (0 : Int32).toNatClampNeg (50 : Int32).toNatClampNeg)) 13) (0 : Int32).toNatClampNeg (0 : Int32).toNatClampNeg (20 : Int32).toNatClampNeg)) 1 5)) 2 6 ((aw_u (aw_un (aw_un M_7 11 (va_cpy (M_7 10) (M_7 11) (0 : Int32).toNatClampNeg (0 : Int32).toNatClampNeg (50 : Int32).toNatClampNeg)) 13 (va_cpy ((aw_un M_7 11 (va_cpy (M_7 10) (M_7 11) (0 : Int32).toNatClampNeg (0 : Int32).toNatClampNeg (50 : Int32).toNatClampNeg)) 12) ((aw_un M_7 11 (va_cpy (M_7 10) (M_7 11) (0 : Int32).toNatClampNeg (0 : Int32).toNatClampNeg (50 : Int32).toNatClampNeg)) 13) (0 : Int32).toNatClampNeg (0 : Int32).toNatClampNeg (20 : Int32).toNatClampNeg)) 2 5 ((aw_un (aw_un M_7 11 (va_cpy (M_7 10) (M_7 11) (0 : Int32).toNatClampNeg (0 : Int32).toNatClampNeg (50 : Int32).toNatClampNeg)) 13 (va_cpy ((aw_un M_7 11 (va_cpy (M_7 10) (M_7 11) (0 : Int32).toNatClampNeg (0 : Int32).toNatClampNeg (50 : Int32).toNatClampNeg)) 12) ((aw_un M_7 11 (va_cpy (M_7 10) (M_7 11) (0 : Int32).toNatClampNeg (0 : Int32).toNatClampNeg (50 : Int32).toNatClampNeg)) 13) (0 : Int32).toNatClampNeg (0 : Int32).toNatClampNeg (20 : Int32).toNatClampNeg)) 1 5)) 1 6)) 1 7)) 2 8 ((aw_u (aw_u (aw_u (aw_un (aw_un M_7 11 (va_cpy (M_7 10) (M_7 11) (0 : Int32).toNatClampNeg (0 : Int32).toNatClampNeg (50 : Int32).toNatClampNeg)) 13 (va_cpy ((aw_un M_7 11 (va_cpy (M_7 10) (M_7 11) (0 : Int32).toNatClampNeg (0 : Int32).toNatClampNeg (50 : Int32).toNatClampNeg)) 12) ((aw_un M_7 11 (va_cpy (M_7 10) (M_7 11) (0 : Int32).toNatClampNeg (0 : Int32).toNatClampNeg (50 : Int32).toNatClampNeg)) 13) (0 : Int32).toNatClampNeg (0 : Int32).toNatClampNeg (20 : Int32).toNatClampNeg)) 2 5 ((aw_un (aw_un M_7 11 (va_cpy (M_7 10) (M_7 11) (0 : Int32).toNatClampNeg (0 : Int32).toNatClampNeg (50 : Int32).toNatClampNeg)) 13 (va_cpy ((aw_un M_7 11 (va_cpy (M_7 10) (M_7 11) (0 : Int32).toNatClampNeg (0 : Int32).toNatClampNeg (50 : Int32).toNatClampNeg)) 12) ((aw_un M_7 11 (va_cpy (M_7 10) (M_7 11) (0 : Int32).toNatClampNeg (0 : Int32).toNatClampNeg (50 : Int32).toNatClampNeg)) 13) (0 : Int32).toNatClampNeg (0 : Int32).toNatClampNeg (20 : Int32).toNatClampNeg)) 1 5)) 2 6 ((aw_u (aw_un (aw_un M_7 11 (va_cpy (M_7 10) (M_7 11) (0 : Int32).toNatClampNeg (0 : Int32).toNatClampNeg (50 : Int32).toNatClampNeg)) 13 (va_cpy ((aw_un M_7 11 (va_cpy (M_7 10) (M_7 11) (0 : Int32).toNatClampNeg (0 : Int32).toNatClampNeg (50 : Int32).toNatClampNeg)) 12) ((aw_un M_7 11 (va_cpy (M_7 10) (M_7 11) (0 : Int32).toNatClampNeg (0 : Int32).toNatClampNeg (50 : Int32).toNatClampNeg)) 13) (0 : Int32).toNatClampNeg (0 : Int32).toNatClampNeg (20 : Int32).toNatClampNeg)) 2 5 ((aw_un (aw_un M_7 11 (va_cpy (M_7 10) (M_7 11) (0 : Int32).toNatClampNeg (0 : Int32).toNatClampNeg (50 : Int32).toNatClampNeg)) 13 (va_cpy ((aw_un M_7 11 (va_cpy (M_7 10) (M_7 11) (0 : Int32).toNatClampNeg (0 : Int32).toNatClampNeg (50 : Int32).toNatClampNeg)) 12) ((aw_un M_7 11 (va_cpy (M_7 10) (M_7 11) (0 : Int32).toNatClampNeg (0 : Int32).toNatClampNeg (50 : Int32).toNatClampNeg)) 13) (0 : Int32).toNatClampNeg (0 : Int32).toNatClampNeg (20 : Int32).toNatClampNeg)) 1 5)) 1 6)) 2 7 ((aw_u (aw_u (aw_un (aw_un M_7 11 (va_cpy (M_7 10) (M_7 11) (0 : Int32).toNatClampNeg (0 : Int32).toNatClampNeg (50 : Int32).toNatClampNeg)) 13 (va_cpy ((aw_un M_7 11 (va_cpy (M_7 10) (M_7 11) (0 : Int32).toNatClampNeg (0 : Int32).toNatClampNeg (50 : Int32).toNatClampNeg)) 12) ((aw_un M_7 11 (va_cpy (M_7 10) (M_7 11) (0 : Int32).toNatClampNeg (0 : Int32).toNatClampNeg (50 : Int32).toNatClampNeg)) 13) (0 : Int32).toNatClampNeg (0 : Int32).toNatClampNeg (20 : Int32).toNatClampNeg)) 2 5 ((aw_un (aw_un M_7 11 (va_cpy (M_7 10) (M_7 11) (0 : Int32).toNatClampNeg (0 : Int32).toNatClampNeg (50 : Int32).toNatClampNeg)) 13 (va_cpy ((aw_un M_7 11 (va_cpy (M_7 10) (M_7 11) (0 : Int32).toNatClampNeg (0 : Int32).toNatClampNeg (50 : Int32).toNatClampNeg)) 12) ((aw_un M_7 11 (va_cpy (M_7 10) (M_7 11) (0 : Int32).toNatClampNeg (0 : Int32).toNatClampNeg (50 : Int32).toNatClampNeg)) 13) (0 : Int32).toNatClampNeg (0 : Int32).toNatClampNeg (20 : Int32).toNatClampNeg)) 1 5)) 2 6 ((aw_u (aw_un (aw_un M_7 11 (va_cpy (M_7 10) (M_7 11) (0 : Int32).toNatClampNeg (0 : Int32).toNatClampNeg (50 : Int32).toNatClampNeg)) 13 (va_cpy ((aw_un M_7 11 (va_cpy (M_7 10) (M_7 11) (0 : Int32).toNatClampNeg (0 : Int32).toNatClampNeg (50 : Int32).toNatClampNeg)) 12) ((aw_un M_7 11 (va_cpy (M_7 10) (M_7 11) (0 : Int32).toNatClampNeg (0 : Int32).toNatClampNeg (50 : Int32).toNatClampNeg)) 13) (0 : Int32).toNatClampNeg (0 : Int32).toNatClampNeg (20 : Int32).toNatClampNeg)) 2 5 ((aw_un (aw_un M_7 11 (va_cpy (M_7 10) (M_7 11) (0 : Int32).toNatClampNeg (0 : Int32).toNatClampNeg (50 : Int32).toNatClampNeg)) 13 (va_cpy ((aw_un M_7 11 (va_cpy (M_7 10) (M_7 11) (0 : Int32).toNatClampNeg (0 : Int32).toNatClampNeg (50 : Int32).toNatClampNeg)) 12) ((aw_un M_7 11 (va_cpy (M_7 10) (M_7 11) (0 : Int32).toNatClampNeg (0 : Int32).toNatClampNeg (50 : Int32).toNatClampNeg)) 13) (0 : Int32).toNatClampNeg (0 : Int32).toNatClampNeg (20 : Int32).toNatClampNeg)) 1 5)) 1 6)) 1 7)) 1 8)) 2 9 ((aw_u (aw_u (aw_u (aw_u (aw_un (aw_un M_7 11 (va_cpy (M_7 10) (M_7 11) (0 : Int32).toNatClampNeg (0 : Int32).toNatClampNeg (50 : Int32).toNatClampNeg)) 13 (va_cpy ((aw_un M_7 11 (va_cpy (M_7 10) (M_7 11) (0 : Int32).toNatClampNeg (0 : Int32).toNatClampNeg (50 : Int32).toNatClampNeg)) 12) ((aw_un M_7 11 (va_cpy (M_7 10) (M_7 11) (0 : Int32).toNatClampNeg (0 : Int32).toNatClampNeg (50 : Int32).toNatClampNeg)) 13) (0 : Int32).toNatClampNeg (0 : Int32).toNatClampNeg (20 : Int32).toNatClampNeg)) 2 5 ((aw_un (aw_un M_7 11 (va_cpy (M_7 10) (M_7 11) (0 : Int32).toNatClampNeg (0 : Int32).toNatClampNeg (50 : Int32).toNatClampNeg)) 13 (va_cpy ((aw_un M_7 11 (va_cpy (M_7 10) (M_7 11) (0 : Int32).toNatClampNeg (0 : Int32).toNatClampNeg (50 : Int32).toNatClampNeg)) 12) ((aw_un M_7 11 (va_cpy (M_7 10) (M_7 11) (0 : Int32).toNatClampNeg (0 : Int32).toNatClampNeg (50 : Int32).toNatClampNeg)) 13) (0 : Int32).toNatClampNeg (0 : Int32).toNatClampNeg (20 : Int32).toNatClampNeg)) 1 5)) 2 6 ((aw_u (aw_un (aw_un M_7 11 (va_cpy (M_7 10) (M_7 11) (0 : Int32).toNatClampNeg (0 : Int32).toNatClampNeg (50 : Int32).toNatClampNeg)) 13 (va_cpy ((aw_un M_7 11 (va_cpy (M_7 10) (M_7 11) (0 : Int32).toNatClampNeg (0 : Int32).toNatClampNeg (50 : Int32).toNatClampNeg)) 12) ((aw_un M_7 11 (va_cpy (M_7 10) (M_7 11) (0 : Int32).toNatClampNeg (0 : Int32).toNatClampNeg (50 : Int32).toNatClampNeg)) 13) (0 : Int32).toNatClampNeg (0 : Int32).toNatClampNeg (20 : Int32).toNatClampNeg)) 2 5 ((aw_un (aw_un M_7 11 (va_cpy (M_7 10) (M_7 11) (0 : Int32).toNatClampNeg (0 : Int32).toNatClampNeg (50 : Int32).toNatClampNeg)) 13 (va_cpy ((aw_un M_7 11 (va_cpy (M_7 10) (M_7 11) (0 : Int32).toNatClampNeg (0 : Int32).toNatClampNeg (50 : Int32).toNatClampNeg)) 12) ((aw_un M_7 11 (va_cpy (M_7 10) (M_7 11) (0 : Int32).toNatClampNeg (0 : Int32).toNatClampNeg (50 : Int32).toNatClampNeg)) 13) (0 : Int32).toNatClampNeg (0 : Int32).toNatClampNeg (20 : Int32).toNatClampNeg)) 1 5)) 1 6)) 2 7 ((aw_u (aw_u (aw_un (aw_un M_7 11 (va_cpy (M_7 10) (M_7 11) (0 : Int32).toNatClampNeg (0 : Int32).toNatClampNeg (50 : Int32).toNatClampNeg)) 13 (va_cpy ((aw_un M_7 11 (va_cpy (M_7 10) (M_7 11) (0 : Int32).toNatClampNeg (0 : Int32).toNatClampNeg (50 : Int32).toNatClampNeg)) 12) ((aw_un M_7 11 (va_cpy (M_7 10) (M_7 11) (0 : Int32).toNatClampNeg (0 : Int32).toNatClampNeg (50 : Int32).toNatClampNeg)) 13) (0 : Int32).toNatClampNeg (0 : Int32).toNatClampNeg (20 : Int32).toNatClampNeg)) 2 5 ((aw_un (aw_un M_7 11 (va_cpy (M_7 10) (M_7 11) (0 : Int32).toNatClampNeg (0 : Int32).toNatClampNeg (50 : Int32).toNatClampNeg)) 13 (va_cpy ((aw_un M_7 11 (va_cpy (M_7 10) (M_7 11) (0 : Int32).toNatClampNeg (0 : Int32).toNatClampNeg (50 : Int32).toNatClampNeg)) 12) ((aw_un M_7 11 (va_cpy (M_7 10) (M_7 11) (0 : Int32).toNatClampNeg (0 : Int32).toNatClampNeg (50 : Int32).toNatClampNeg)) 13) (0 : Int32).toNatClampNeg (0 : Int32).toNatClampNeg (20 : Int32).toNatClampNeg)) 1 5)) 2 6 ((aw_u (aw_un (aw_un M_7 11 (va_cpy (M_7 10) (M_7 11) (0 : Int32).toNatClampNeg (0 : Int32).toNatClampNeg (50 : Int32).toNatClampNeg)) 13 (va_cpy ((aw_un M_7 11 (va_cpy (M_7 10) (M_7 11) (0 : Int32).toNatClampNeg (0 : Int32).toNatClampNeg (50 : Int32).toNatClampNeg)) 12) ((aw_un M_7 11 (va_cpy (M_7 10) (M_7 11) (0 : Int32).toNatClampNeg (0 : Int32).toNatClampNeg (50 : Int32).toNatClampNeg)) 13) (0 : Int32).toNatClampNeg (0 : Int32).toNatClampNeg (20 : Int32).toNatClampNeg)) 2 5 ((aw_un (aw_un M_7 11 (va_cpy (M_7 10) (M_7 11) (0 : Int32).toNatClampNeg (0 : Int32).toNatClampNeg (50 : Int32).toNatClampNeg)) 13 (va_cpy ((aw_un M_7 11 (va_cpy (M_7 10) (M_7 11) (0 : Int32).toNatClampNeg (0 : Int32).toNatClampNeg (50 : Int32).toNatClampNeg)) 12) ((aw_un M_7 11 (va_cpy (M_7 10) (M_7 11) (0 : Int32).toNatClampNeg (0 : Int32).toNatClampNeg (50 : Int32).toNatClampNeg)) 13) (0 : Int32).toNatClampNeg (0 : Int32).toNatClampNeg (20 : Int32).toNatClampNeg)) 1 5)) 1 6)) 1 7)) 2 8 ((aw_u (aw_u (aw_u (aw_un (aw_un M_7 11 (va_cpy (M_7 10) (M_7 11) (0 : Int32).toNatClampNeg (0 : Int32).toNatClampNeg (50 : Int32).toNatClampNeg)) 13 (va_cpy ((aw_un M_7 11 (va_cpy (M_7 10) (M_7 11) (0 : Int32).toNatClampNeg (0 : Int32).toNatClampNeg (50 : Int32).toNatClampNeg)) 12) ((aw_un M_7 11 (va_cpy (M_7 10) (M_7 11) (0 : Int32).toNatClampNeg (0 : Int32).toNatClampNeg (50 : Int32).toNatClampNeg)) 13) (0 : Int32).toNatClampNeg (0 : Int32).toNatClampNeg (20 : Int32).toNatClampNeg)) 2 5 ((aw_un (aw_un M_7 11 (va_cpy (M_7 10) (M_7 11) (0 : Int32).toNatClampNeg (0 : Int32).toNatClampNeg (50 : Int32).toNatClampNeg)) 13 (va_cpy ((aw_un M_7 11 (va_cpy (M_7 10) (M_7 11) (0 : Int32).toNatClampNeg (0 : Int32).toNatClampNeg (50 : Int32).toNatClampNeg)) 12) ((aw_un M_7 11 (va_cpy (M_7 10) (M_7 11) (0 : Int32).toNatClampNeg (0 : Int32).toNatClampNeg (50 : Int32).toNatClampNeg)) 13) (0 : Int32).toNatClampNeg (0 : Int32).toNatClampNeg (20 : Int32).toNatClampNeg)) 1 5)) 2 6 ((aw_u (aw_un (aw_un M_7 11 (va_cpy (M_7 10) (M_7 11) (0 : Int32).toNatClampNeg (0 : Int32).toNatClampNeg (50 : Int32).toNatClampNeg)) 13 (va_cpy ((aw_un M_7 11 (va_cpy (M_7 10) (M_7 11) (0 : Int32).toNatClampNeg (0 : Int32).toNatClampNeg (50 : Int32).toNatClampNeg)) 12) ((aw_un M_7 11 (va_cpy (M_7 10) (M_7 11) (0 : Int32).toNatClampNeg (0 : Int32).toNatClampNeg (50 : Int32).toNatClampNeg)) 13) (0 : Int32).toNatClampNeg (0 : Int32).toNatClampNeg (20 : Int32).toNatClampNeg)) 2 5 ((aw_un (aw_un M_7 11 (va_cpy (M_7 10) (M_7 11) (0 : Int32).toNatClampNeg (0 : Int32).toNatClampNeg (50 : Int32).toNatClampNeg)) 13 (va_cpy ((aw_un M_7 11 (va_cpy (M_7 10) (M_7 11) (0 : Int32).toNatClampNeg (0 : Int32).toNatClampNeg (50 : Int32).toNatClampNeg)) 12) ((aw_un M_7 11 (va_cpy (M_7 10) (M_7 11) (0 : Int32).toNatClampNeg (0 : Int32).toNatClampNeg (50 : Int32).toNatClampNeg)) 13) (0 : Int32).toNatClampNeg (0 : Int32).toNatClampNeg (20 : Int32).toNatClampNeg)) 1 5)) 1 6)) 2 7 ((aw_u (aw_u (aw_un (aw_un M_7 11 (va_cpy (M_7 10) (M_7 11) (0 : Int32).toNatClampNeg (0 : Int32).toNatClampNeg (50 : Int32).toNatClampNeg)) 13 (va_cpy ((aw_un M_7 11 (va_cpy (M_7 10) (M_7 11) (0 : Int32).toNatClampNeg (0 : Int32).toNatClampNeg (50 : Int32).toNatClampNeg)) 12) ((aw_un M_7 11 (va_cpy (M_7 10) (M_7 11) (0 : Int32).toNatClampNeg (0 : Int32).toNatClampNeg (50 : Int32).toNatClampNeg)) 13) (0 : Int32).toNatClampNeg (0 : Int32).toNatClampNeg (20 : Int32).toNatClampNeg)) 2 5 ((aw_un (aw_un M_7 11 (va_cpy (M_7 10) (M_7 11) (0 : Int32).toNatClampNeg (0 : Int32).toNatClampNeg (50 : Int32).toNatClampNeg)) 13 (va_cpy ((aw_un M_7 11 (va_cpy (M_7 10) (M_7 11) (0 : Int32).toNatClampNeg (0 : Int32).toNatClampNeg (50 : Int32).toNatClampNeg)) 12) ((aw_un M_7 11 (va_cpy (M_7 10) (M_7 11) (0 : Int32).toNatClampNeg (0 : Int32).toNatClampNeg (50 : Int32).toNatClampNeg)) 13) (0 : Int32).toNatClampNeg (0 : Int32).toNatClampNeg (20 : Int32).toNatClampNeg)) 1 5)) 2 6 ((aw_u (aw_un (aw_un M_7 11 (va_cpy (M_7 10) (M_7 11) (0 : Int32).toNatClampNeg (0 : Int32).toNatClampNeg (50 : Int32).toNatClampNeg)) 13 (va_cpy ((aw_un M_7 11 (va_cpy (M_7 10) (M_7 11) (0 : Int32).toNatClampNeg (0 : Int32).toNatClampNeg (50 : Int32).toNatClampNeg)) 12) ((aw_un M_7 11 (va_cpy (M_7 10) (M_7 11) (0 : Int32).toNatClampNeg (0 : Int32).toNatClampNeg (50 : Int32).toNatClampNeg)) 13) (0 : Int32).toNatClampNeg (0 : Int32).toNatClampNeg (20 : Int32).toNatClampNeg)) 2 5 ((aw_un (aw_un M_7 11 (va_cpy (M_7 10) (M_7 11) (0 : Int32).toNatClampNeg (0 : Int32).toNatClampNeg (50 : Int32).toNatClampNeg)) 13 (va_cpy ((aw_un M_7 11 (va_cpy (M_7 10) (M_7 11) (0 : Int32).toNatClampNeg (0 : Int32).toNatClampNeg (50 : Int32).toNatClampNeg)) 12) ((aw_un M_7 11 (va_cpy (M_7 10) (M_7 11) (0 : Int32).toNatClampNeg (0 : Int32).toNatClampNeg (50 : Int32).toNatClampNeg)) 13) (0 : Int32).toNatClampNeg (0 : Int32).toNatClampNeg (20 : Int32).toNatClampNeg)) 1 5)) 1 6)) 1 7)) 1 8)) 1 9))
      )
      )
      )
      )
      )
    ) else (
      if aw_in p2 6 then none else (
      if aw_in p2 6 then none else (
      aw_bv (fc_Cl_copyFrom (6 + p2.toNatClampNeg) p2.toNatClampNeg M) fun M_14 => (
      fc_St_copyFrom_21_L13 n (p2 + 1) M_14
      )
      )
      )
    )
    ) := rfl
set_option maxRecDepth 20000 in
theorem tc_St_copyFrom_21_L13 {l : Launch} {D : va_G} {cy : Nat → ClassId} {ad : Nat → Nat} {A : Nat → Prop} (d : Nat) (hd : 3 ≤ d) : ∀ (n : Nat) (p2 : Int32) (M : aw_M) (M1 : aw_M), fc_St_copyFrom_21_L13 n p2 M = some M1 → AW l D cy ad A gc_G RX7 cX7_copyFrom 3 none d none M1 13 [(0, .ref (ad 2)), (1, .ref (ad 1)), (2, .int p2)] [] M := by
  have hd1 : (d - 1) + 1 ≤ d := by omega
  have hm1 : 1 ≤ d := by omega
  have hh_0 : 0 ≤ d - 1 := by omega
  have hh_2 : 2 ≤ d - 1 := by omega
  intro n
  induction n with
  | zero => intro p2 M M1 h; cases h
  | succ n ih =>
    intro p2 M M1 h
    rw [fc_St_copyFrom_21_L13_s] at h
    refine x_iload_n (pc := 13) 2 dX7_copyFrom_13 rfl rfl ?_
    refine x_bipush (pc := 14) (w := 6) dX7_copyFrom_14 bi_6 ?_
    refine x_icmp_ge (pc := 16) 40 dX7_copyFrom_16 (by decide) (fun c_3 => ?_) (fun c_3 => ?_)
    · have h := aw_pos h c_3
      refine x_aload_n (pc := 40) 0 dX7_copyFrom_40 rfl rfl ?_
      refine x_get (pc := 41) dX7_copyFrom_41 lk_X7_26 gc_2 rfl rfl ?_
      refine x_iconst (pc := 44) (w := 0) dX7_copyFrom_44 ic_0 ?_
      refine x_aald (pc := 45) dX7_copyFrom_45 gc_9 (fun _ => rfl) (by decide) rfl ?_
      refine x_aload_n (pc := 46) 1 dX7_copyFrom_46 rfl rfl ?_
      refine x_get (pc := 47) dX7_copyFrom_47 lk_X7_26 gc_1 rfl rfl ?_
      refine x_iconst (pc := 50) (w := 0) dX7_copyFrom_50 ic_0 ?_
      refine x_aald (pc := 51) dX7_copyFrom_51 gc_8 (fun _ => rfl) (by decide) rfl ?_
      refine x_get (pc := 52) dX7_copyFrom_52 lk_X7_63 (gc_law (i := 0) (by decide)) rfl rfl ?_
      refine x_aload_n (pc := 55) 1 dX7_copyFrom_55 rfl rfl ?_
      refine x_get (pc := 56) dX7_copyFrom_56 lk_X7_26 gc_1 rfl rfl ?_
      refine x_iconst (pc := 59) (w := 0) dX7_copyFrom_59 ic_0 ?_
      refine x_aald (pc := 60) dX7_copyFrom_60 gc_8 (fun _ => rfl) (by decide) rfl ?_
      refine x_get (pc := 61) dX7_copyFrom_61 lk_X7_66 (gc_law (i := 0) (by decide)) rfl rfl ?_
      obtain ⟨M_5, e_4, h⟩ := aw_bv_e h
      refine x_callV (pc := 64) (As := [.ref (ad 30), .int (M 26 2)]) (rest := []) (st' := []) (w := none) dX7_copyFrom_64 cw_X7_69 hd1 (gc_law (i := 2) (by decide)) rfl rfl rfl (Nat.le_of_ble_eq_true rfl) (tc_La_take (d - 1) hh_2 2 (by decide) 30 (gc_lsteps (i := 0) (by decide)) (M 26 2) _  _ e_4) rfl ?_
      refine x_aload_n (pc := 67) 0 dX7_copyFrom_67 rfl rfl ?_
      refine x_get (pc := 68) dX7_copyFrom_68 lk_X7_26 gc_2 rfl rfl ?_
      refine x_iconst (pc := 71) (w := 1) dX7_copyFrom_71 ic_1 ?_
      refine x_aald (pc := 72) dX7_copyFrom_72 gc_9 (fun _ => rfl) (by decide) rfl ?_
      refine x_aload_n (pc := 73) 1 dX7_copyFrom_73 rfl rfl ?_
      refine x_get (pc := 74) dX7_copyFrom_74 lk_X7_26 gc_1 rfl rfl ?_
      refine x_iconst (pc := 77) (w := 1) dX7_copyFrom_77 ic_1 ?_
      refine x_aald (pc := 78) dX7_copyFrom_78 gc_8 (fun _ => rfl) (by decide) rfl ?_
      refine x_get (pc := 79) dX7_copyFrom_79 lk_X7_63 (gc_law (i := 1) (by decide)) rfl rfl ?_
      refine x_aload_n (pc := 82) 1 dX7_copyFrom_82 rfl rfl ?_
      refine x_get (pc := 83) dX7_copyFrom_83 lk_X7_26 gc_1 rfl rfl ?_
      refine x_iconst (pc := 86) (w := 1) dX7_copyFrom_86 ic_1 ?_
      refine x_aald (pc := 87) dX7_copyFrom_87 gc_8 (fun _ => rfl) (by decide) rfl ?_
      refine x_get (pc := 88) dX7_copyFrom_88 lk_X7_66 (gc_law (i := 1) (by decide)) rfl rfl ?_
      obtain ⟨M_7, e_6, h⟩ := aw_bv_e h
      refine x_callV (pc := 91) (As := [.ref (ad 31), .int (M_5 27 2)]) (rest := []) (st' := []) (w := none) dX7_copyFrom_91 cw_X7_69 hd1 (gc_law (i := 3) (by decide)) rfl rfl rfl (Nat.le_of_ble_eq_true rfl) (tc_La_take (d - 1) hh_2 3 (by decide) 31 (gc_lsteps (i := 1) (by decide)) (M_5 27 2) _  _ e_6) rfl ?_
      refine x_aload_n (pc := 94) 1 dX7_copyFrom_94 rfl rfl ?_
      refine x_get (pc := 95) dX7_copyFrom_95 lk_X7_30 gc_1 rfl rfl ?_
      refine x_iconst (pc := 98) (w := 0) dX7_copyFrom_98 ic_0 ?_
      refine x_aload_n (pc := 99) 0 dX7_copyFrom_99 rfl rfl ?_
      refine x_get (pc := 100) dX7_copyFrom_100 lk_X7_30 gc_2 rfl rfl ?_
      refine x_iconst (pc := 103) (w := 0) dX7_copyFrom_103 ic_0 ?_
      refine x_bipush (pc := 104) (w := 50) dX7_copyFrom_104 bi_50 ?_
      obtain ⟨c_8, h⟩ := aw_ck h
      obtain ⟨c_8_1, c_8_2, c_8_3, c_8_4, c_8_5⟩ := Classical.not_not.mp c_8
      obtain ⟨c_9, h⟩ := aw_ck h
      refine x_copyb (pc := 106) dX7_copyFrom_106 (tb_in (i := 925) (by decide +kernel) rfl) hm1 (Nat.le_of_ble_eq_true rfl) gc_10 gc_11 c_8_1 c_8_2 c_8_3 c_8_4 c_8_5 (Classical.not_not.mp c_9) ?_
      refine x_aload_n (pc := 109) 1 dX7_copyFrom_109 rfl rfl ?_
      refine x_get (pc := 110) dX7_copyFrom_110 lk_X7_34 gc_1 rfl rfl ?_
      refine x_iconst (pc := 113) (w := 0) dX7_copyFrom_113 ic_0 ?_
      refine x_aload_n (pc := 114) 0 dX7_copyFrom_114 rfl rfl ?_
      refine x_get (pc := 115) dX7_copyFrom_115 lk_X7_34 gc_2 rfl rfl ?_
      refine x_iconst (pc := 118) (w := 0) dX7_copyFrom_118 ic_0 ?_
      refine x_bipush (pc := 119) (w := 20) dX7_copyFrom_119 bi_20 ?_
      obtain ⟨c_10, h⟩ := aw_ck h
      obtain ⟨c_10_1, c_10_2, c_10_3, c_10_4, c_10_5⟩ := Classical.not_not.mp c_10
      refine x_copyi (pc := 121) dX7_copyFrom_121 (tb_in (i := 925) (by decide +kernel) rfl) hm1 (Nat.le_of_ble_eq_true rfl) gc_12 gc_13 c_10_1 c_10_2 c_10_3 c_10_4 c_10_5 ?_
      refine x_aload_n (pc := 124) 0 dX7_copyFrom_124 rfl rfl ?_
      refine x_aload_n (pc := 125) 1 dX7_copyFrom_125 rfl rfl ?_
      refine x_get (pc := 126) dX7_copyFrom_126 lk_X7_38 gc_1 rfl rfl ?_
      refine x_put (pc := 129) (x := ((aw_un (aw_un M_7 11 (va_cpy (M_7 10) (M_7 11) (0 : Int32).toNatClampNeg (0 : Int32).toNatClampNeg (50 : Int32).toNatClampNeg)) 13 (va_cpy ((aw_un M_7 11 (va_cpy (M_7 10) (M_7 11) (0 : Int32).toNatClampNeg (0 : Int32).toNatClampNeg (50 : Int32).toNatClampNeg)) 12) ((aw_un M_7 11 (va_cpy (M_7 10) (M_7 11) (0 : Int32).toNatClampNeg (0 : Int32).toNatClampNeg (50 : Int32).toNatClampNeg)) 13) (0 : Int32).toNatClampNeg (0 : Int32).toNatClampNeg (20 : Int32).toNatClampNeg)) 1 5)) dX7_copyFrom_129 lk_X7_38 lp_X7_5 gc_2 rfl rfl rfl rfl ?_
      refine x_aload_n (pc := 132) 0 dX7_copyFrom_132 rfl rfl ?_
      refine x_aload_n (pc := 133) 1 dX7_copyFrom_133 rfl rfl ?_
      refine x_get (pc := 134) dX7_copyFrom_134 lk_X7_42 gc_1 rfl rfl ?_
      refine x_put (pc := 137) (x := ((aw_u (aw_un (aw_un M_7 11 (va_cpy (M_7 10) (M_7 11) (0 : Int32).toNatClampNeg (0 : Int32).toNatClampNeg (50 : Int32).toNatClampNeg)) 13 (va_cpy ((aw_un M_7 11 (va_cpy (M_7 10) (M_7 11) (0 : Int32).toNatClampNeg (0 : Int32).toNatClampNeg (50 : Int32).toNatClampNeg)) 12) ((aw_un M_7 11 (va_cpy (M_7 10) (M_7 11) (0 : Int32).toNatClampNeg (0 : Int32).toNatClampNeg (50 : Int32).toNatClampNeg)) 13) (0 : Int32).toNatClampNeg (0 : Int32).toNatClampNeg (20 : Int32).toNatClampNeg)) 2 5 ((aw_un (aw_un M_7 11 (va_cpy (M_7 10) (M_7 11) (0 : Int32).toNatClampNeg (0 : Int32).toNatClampNeg (50 : Int32).toNatClampNeg)) 13 (va_cpy ((aw_un M_7 11 (va_cpy (M_7 10) (M_7 11) (0 : Int32).toNatClampNeg (0 : Int32).toNatClampNeg (50 : Int32).toNatClampNeg)) 12) ((aw_un M_7 11 (va_cpy (M_7 10) (M_7 11) (0 : Int32).toNatClampNeg (0 : Int32).toNatClampNeg (50 : Int32).toNatClampNeg)) 13) (0 : Int32).toNatClampNeg (0 : Int32).toNatClampNeg (20 : Int32).toNatClampNeg)) 1 5)) 1 6)) dX7_copyFrom_137 lk_X7_42 lp_X7_6 gc_2 rfl rfl rfl rfl ?_
      refine x_aload_n (pc := 140) 0 dX7_copyFrom_140 rfl rfl ?_
      refine x_aload_n (pc := 141) 1 dX7_copyFrom_141 rfl rfl ?_
      refine x_get (pc := 142) dX7_copyFrom_142 lk_X7_45 gc_1 rfl rfl ?_
      refine x_put (pc := 145) (x := ((aw_u (aw_u (aw_un (aw_un M_7 11 (va_cpy (M_7 10) (M_7 11) (0 : Int32).toNatClampNeg (0 : Int32).toNatClampNeg (50 : Int32).toNatClampNeg)) 13 (va_cpy ((aw_un M_7 11 (va_cpy (M_7 10) (M_7 11) (0 : Int32).toNatClampNeg (0 : Int32).toNatClampNeg (50 : Int32).toNatClampNeg)) 12) ((aw_un M_7 11 (va_cpy (M_7 10) (M_7 11) (0 : Int32).toNatClampNeg (0 : Int32).toNatClampNeg (50 : Int32).toNatClampNeg)) 13) (0 : Int32).toNatClampNeg (0 : Int32).toNatClampNeg (20 : Int32).toNatClampNeg)) 2 5 ((aw_un (aw_un M_7 11 (va_cpy (M_7 10) (M_7 11) (0 : Int32).toNatClampNeg (0 : Int32).toNatClampNeg (50 : Int32).toNatClampNeg)) 13 (va_cpy ((aw_un M_7 11 (va_cpy (M_7 10) (M_7 11) (0 : Int32).toNatClampNeg (0 : Int32).toNatClampNeg (50 : Int32).toNatClampNeg)) 12) ((aw_un M_7 11 (va_cpy (M_7 10) (M_7 11) (0 : Int32).toNatClampNeg (0 : Int32).toNatClampNeg (50 : Int32).toNatClampNeg)) 13) (0 : Int32).toNatClampNeg (0 : Int32).toNatClampNeg (20 : Int32).toNatClampNeg)) 1 5)) 2 6 ((aw_u (aw_un (aw_un M_7 11 (va_cpy (M_7 10) (M_7 11) (0 : Int32).toNatClampNeg (0 : Int32).toNatClampNeg (50 : Int32).toNatClampNeg)) 13 (va_cpy ((aw_un M_7 11 (va_cpy (M_7 10) (M_7 11) (0 : Int32).toNatClampNeg (0 : Int32).toNatClampNeg (50 : Int32).toNatClampNeg)) 12) ((aw_un M_7 11 (va_cpy (M_7 10) (M_7 11) (0 : Int32).toNatClampNeg (0 : Int32).toNatClampNeg (50 : Int32).toNatClampNeg)) 13) (0 : Int32).toNatClampNeg (0 : Int32).toNatClampNeg (20 : Int32).toNatClampNeg)) 2 5 ((aw_un (aw_un M_7 11 (va_cpy (M_7 10) (M_7 11) (0 : Int32).toNatClampNeg (0 : Int32).toNatClampNeg (50 : Int32).toNatClampNeg)) 13 (va_cpy ((aw_un M_7 11 (va_cpy (M_7 10) (M_7 11) (0 : Int32).toNatClampNeg (0 : Int32).toNatClampNeg (50 : Int32).toNatClampNeg)) 12) ((aw_un M_7 11 (va_cpy (M_7 10) (M_7 11) (0 : Int32).toNatClampNeg (0 : Int32).toNatClampNeg (50 : Int32).toNatClampNeg)) 13) (0 : Int32).toNatClampNeg (0 : Int32).toNatClampNeg (20 : Int32).toNatClampNeg)) 1 5)) 1 6)) 1 7)) dX7_copyFrom_145 lk_X7_45 lp_X7_7 gc_2 rfl rfl rfl rfl ?_
      refine x_aload_n (pc := 148) 0 dX7_copyFrom_148 rfl rfl ?_
      refine x_aload_n (pc := 149) 1 dX7_copyFrom_149 rfl rfl ?_
      refine x_get (pc := 150) dX7_copyFrom_150 lk_X7_48 gc_1 rfl rfl ?_
      refine x_put (pc := 153) (x := ((aw_u (aw_u (aw_u (aw_un (aw_un M_7 11 (va_cpy (M_7 10) (M_7 11) (0 : Int32).toNatClampNeg (0 : Int32).toNatClampNeg (50 : Int32).toNatClampNeg)) 13 (va_cpy ((aw_un M_7 11 (va_cpy (M_7 10) (M_7 11) (0 : Int32).toNatClampNeg (0 : Int32).toNatClampNeg (50 : Int32).toNatClampNeg)) 12) ((aw_un M_7 11 (va_cpy (M_7 10) (M_7 11) (0 : Int32).toNatClampNeg (0 : Int32).toNatClampNeg (50 : Int32).toNatClampNeg)) 13) (0 : Int32).toNatClampNeg (0 : Int32).toNatClampNeg (20 : Int32).toNatClampNeg)) 2 5 ((aw_un (aw_un M_7 11 (va_cpy (M_7 10) (M_7 11) (0 : Int32).toNatClampNeg (0 : Int32).toNatClampNeg (50 : Int32).toNatClampNeg)) 13 (va_cpy ((aw_un M_7 11 (va_cpy (M_7 10) (M_7 11) (0 : Int32).toNatClampNeg (0 : Int32).toNatClampNeg (50 : Int32).toNatClampNeg)) 12) ((aw_un M_7 11 (va_cpy (M_7 10) (M_7 11) (0 : Int32).toNatClampNeg (0 : Int32).toNatClampNeg (50 : Int32).toNatClampNeg)) 13) (0 : Int32).toNatClampNeg (0 : Int32).toNatClampNeg (20 : Int32).toNatClampNeg)) 1 5)) 2 6 ((aw_u (aw_un (aw_un M_7 11 (va_cpy (M_7 10) (M_7 11) (0 : Int32).toNatClampNeg (0 : Int32).toNatClampNeg (50 : Int32).toNatClampNeg)) 13 (va_cpy ((aw_un M_7 11 (va_cpy (M_7 10) (M_7 11) (0 : Int32).toNatClampNeg (0 : Int32).toNatClampNeg (50 : Int32).toNatClampNeg)) 12) ((aw_un M_7 11 (va_cpy (M_7 10) (M_7 11) (0 : Int32).toNatClampNeg (0 : Int32).toNatClampNeg (50 : Int32).toNatClampNeg)) 13) (0 : Int32).toNatClampNeg (0 : Int32).toNatClampNeg (20 : Int32).toNatClampNeg)) 2 5 ((aw_un (aw_un M_7 11 (va_cpy (M_7 10) (M_7 11) (0 : Int32).toNatClampNeg (0 : Int32).toNatClampNeg (50 : Int32).toNatClampNeg)) 13 (va_cpy ((aw_un M_7 11 (va_cpy (M_7 10) (M_7 11) (0 : Int32).toNatClampNeg (0 : Int32).toNatClampNeg (50 : Int32).toNatClampNeg)) 12) ((aw_un M_7 11 (va_cpy (M_7 10) (M_7 11) (0 : Int32).toNatClampNeg (0 : Int32).toNatClampNeg (50 : Int32).toNatClampNeg)) 13) (0 : Int32).toNatClampNeg (0 : Int32).toNatClampNeg (20 : Int32).toNatClampNeg)) 1 5)) 1 6)) 2 7 ((aw_u (aw_u (aw_un (aw_un M_7 11 (va_cpy (M_7 10) (M_7 11) (0 : Int32).toNatClampNeg (0 : Int32).toNatClampNeg (50 : Int32).toNatClampNeg)) 13 (va_cpy ((aw_un M_7 11 (va_cpy (M_7 10) (M_7 11) (0 : Int32).toNatClampNeg (0 : Int32).toNatClampNeg (50 : Int32).toNatClampNeg)) 12) ((aw_un M_7 11 (va_cpy (M_7 10) (M_7 11) (0 : Int32).toNatClampNeg (0 : Int32).toNatClampNeg (50 : Int32).toNatClampNeg)) 13) (0 : Int32).toNatClampNeg (0 : Int32).toNatClampNeg (20 : Int32).toNatClampNeg)) 2 5 ((aw_un (aw_un M_7 11 (va_cpy (M_7 10) (M_7 11) (0 : Int32).toNatClampNeg (0 : Int32).toNatClampNeg (50 : Int32).toNatClampNeg)) 13 (va_cpy ((aw_un M_7 11 (va_cpy (M_7 10) (M_7 11) (0 : Int32).toNatClampNeg (0 : Int32).toNatClampNeg (50 : Int32).toNatClampNeg)) 12) ((aw_un M_7 11 (va_cpy (M_7 10) (M_7 11) (0 : Int32).toNatClampNeg (0 : Int32).toNatClampNeg (50 : Int32).toNatClampNeg)) 13) (0 : Int32).toNatClampNeg (0 : Int32).toNatClampNeg (20 : Int32).toNatClampNeg)) 1 5)) 2 6 ((aw_u (aw_un (aw_un M_7 11 (va_cpy (M_7 10) (M_7 11) (0 : Int32).toNatClampNeg (0 : Int32).toNatClampNeg (50 : Int32).toNatClampNeg)) 13 (va_cpy ((aw_un M_7 11 (va_cpy (M_7 10) (M_7 11) (0 : Int32).toNatClampNeg (0 : Int32).toNatClampNeg (50 : Int32).toNatClampNeg)) 12) ((aw_un M_7 11 (va_cpy (M_7 10) (M_7 11) (0 : Int32).toNatClampNeg (0 : Int32).toNatClampNeg (50 : Int32).toNatClampNeg)) 13) (0 : Int32).toNatClampNeg (0 : Int32).toNatClampNeg (20 : Int32).toNatClampNeg)) 2 5 ((aw_un (aw_un M_7 11 (va_cpy (M_7 10) (M_7 11) (0 : Int32).toNatClampNeg (0 : Int32).toNatClampNeg (50 : Int32).toNatClampNeg)) 13 (va_cpy ((aw_un M_7 11 (va_cpy (M_7 10) (M_7 11) (0 : Int32).toNatClampNeg (0 : Int32).toNatClampNeg (50 : Int32).toNatClampNeg)) 12) ((aw_un M_7 11 (va_cpy (M_7 10) (M_7 11) (0 : Int32).toNatClampNeg (0 : Int32).toNatClampNeg (50 : Int32).toNatClampNeg)) 13) (0 : Int32).toNatClampNeg (0 : Int32).toNatClampNeg (20 : Int32).toNatClampNeg)) 1 5)) 1 6)) 1 7)) 1 8)) dX7_copyFrom_153 lk_X7_48 lp_X7_8 gc_2 rfl rfl rfl rfl ?_
      refine x_aload_n (pc := 156) 0 dX7_copyFrom_156 rfl rfl ?_
      refine x_aload_n (pc := 157) 1 dX7_copyFrom_157 rfl rfl ?_
      refine x_get (pc := 158) dX7_copyFrom_158 lk_X7_51 gc_1 rfl rfl ?_
      refine x_put (pc := 161) (x := ((aw_u (aw_u (aw_u (aw_u (aw_un (aw_un M_7 11 (va_cpy (M_7 10) (M_7 11) (0 : Int32).toNatClampNeg (0 : Int32).toNatClampNeg (50 : Int32).toNatClampNeg)) 13 (va_cpy ((aw_un M_7 11 (va_cpy (M_7 10) (M_7 11) (0 : Int32).toNatClampNeg (0 : Int32).toNatClampNeg (50 : Int32).toNatClampNeg)) 12) ((aw_un M_7 11 (va_cpy (M_7 10) (M_7 11) (0 : Int32).toNatClampNeg (0 : Int32).toNatClampNeg (50 : Int32).toNatClampNeg)) 13) (0 : Int32).toNatClampNeg (0 : Int32).toNatClampNeg (20 : Int32).toNatClampNeg)) 2 5 ((aw_un (aw_un M_7 11 (va_cpy (M_7 10) (M_7 11) (0 : Int32).toNatClampNeg (0 : Int32).toNatClampNeg (50 : Int32).toNatClampNeg)) 13 (va_cpy ((aw_un M_7 11 (va_cpy (M_7 10) (M_7 11) (0 : Int32).toNatClampNeg (0 : Int32).toNatClampNeg (50 : Int32).toNatClampNeg)) 12) ((aw_un M_7 11 (va_cpy (M_7 10) (M_7 11) (0 : Int32).toNatClampNeg (0 : Int32).toNatClampNeg (50 : Int32).toNatClampNeg)) 13) (0 : Int32).toNatClampNeg (0 : Int32).toNatClampNeg (20 : Int32).toNatClampNeg)) 1 5)) 2 6 ((aw_u (aw_un (aw_un M_7 11 (va_cpy (M_7 10) (M_7 11) (0 : Int32).toNatClampNeg (0 : Int32).toNatClampNeg (50 : Int32).toNatClampNeg)) 13 (va_cpy ((aw_un M_7 11 (va_cpy (M_7 10) (M_7 11) (0 : Int32).toNatClampNeg (0 : Int32).toNatClampNeg (50 : Int32).toNatClampNeg)) 12) ((aw_un M_7 11 (va_cpy (M_7 10) (M_7 11) (0 : Int32).toNatClampNeg (0 : Int32).toNatClampNeg (50 : Int32).toNatClampNeg)) 13) (0 : Int32).toNatClampNeg (0 : Int32).toNatClampNeg (20 : Int32).toNatClampNeg)) 2 5 ((aw_un (aw_un M_7 11 (va_cpy (M_7 10) (M_7 11) (0 : Int32).toNatClampNeg (0 : Int32).toNatClampNeg (50 : Int32).toNatClampNeg)) 13 (va_cpy ((aw_un M_7 11 (va_cpy (M_7 10) (M_7 11) (0 : Int32).toNatClampNeg (0 : Int32).toNatClampNeg (50 : Int32).toNatClampNeg)) 12) ((aw_un M_7 11 (va_cpy (M_7 10) (M_7 11) (0 : Int32).toNatClampNeg (0 : Int32).toNatClampNeg (50 : Int32).toNatClampNeg)) 13) (0 : Int32).toNatClampNeg (0 : Int32).toNatClampNeg (20 : Int32).toNatClampNeg)) 1 5)) 1 6)) 2 7 ((aw_u (aw_u (aw_un (aw_un M_7 11 (va_cpy (M_7 10) (M_7 11) (0 : Int32).toNatClampNeg (0 : Int32).toNatClampNeg (50 : Int32).toNatClampNeg)) 13 (va_cpy ((aw_un M_7 11 (va_cpy (M_7 10) (M_7 11) (0 : Int32).toNatClampNeg (0 : Int32).toNatClampNeg (50 : Int32).toNatClampNeg)) 12) ((aw_un M_7 11 (va_cpy (M_7 10) (M_7 11) (0 : Int32).toNatClampNeg (0 : Int32).toNatClampNeg (50 : Int32).toNatClampNeg)) 13) (0 : Int32).toNatClampNeg (0 : Int32).toNatClampNeg (20 : Int32).toNatClampNeg)) 2 5 ((aw_un (aw_un M_7 11 (va_cpy (M_7 10) (M_7 11) (0 : Int32).toNatClampNeg (0 : Int32).toNatClampNeg (50 : Int32).toNatClampNeg)) 13 (va_cpy ((aw_un M_7 11 (va_cpy (M_7 10) (M_7 11) (0 : Int32).toNatClampNeg (0 : Int32).toNatClampNeg (50 : Int32).toNatClampNeg)) 12) ((aw_un M_7 11 (va_cpy (M_7 10) (M_7 11) (0 : Int32).toNatClampNeg (0 : Int32).toNatClampNeg (50 : Int32).toNatClampNeg)) 13) (0 : Int32).toNatClampNeg (0 : Int32).toNatClampNeg (20 : Int32).toNatClampNeg)) 1 5)) 2 6 ((aw_u (aw_un (aw_un M_7 11 (va_cpy (M_7 10) (M_7 11) (0 : Int32).toNatClampNeg (0 : Int32).toNatClampNeg (50 : Int32).toNatClampNeg)) 13 (va_cpy ((aw_un M_7 11 (va_cpy (M_7 10) (M_7 11) (0 : Int32).toNatClampNeg (0 : Int32).toNatClampNeg (50 : Int32).toNatClampNeg)) 12) ((aw_un M_7 11 (va_cpy (M_7 10) (M_7 11) (0 : Int32).toNatClampNeg (0 : Int32).toNatClampNeg (50 : Int32).toNatClampNeg)) 13) (0 : Int32).toNatClampNeg (0 : Int32).toNatClampNeg (20 : Int32).toNatClampNeg)) 2 5 ((aw_un (aw_un M_7 11 (va_cpy (M_7 10) (M_7 11) (0 : Int32).toNatClampNeg (0 : Int32).toNatClampNeg (50 : Int32).toNatClampNeg)) 13 (va_cpy ((aw_un M_7 11 (va_cpy (M_7 10) (M_7 11) (0 : Int32).toNatClampNeg (0 : Int32).toNatClampNeg (50 : Int32).toNatClampNeg)) 12) ((aw_un M_7 11 (va_cpy (M_7 10) (M_7 11) (0 : Int32).toNatClampNeg (0 : Int32).toNatClampNeg (50 : Int32).toNatClampNeg)) 13) (0 : Int32).toNatClampNeg (0 : Int32).toNatClampNeg (20 : Int32).toNatClampNeg)) 1 5)) 1 6)) 1 7)) 2 8 ((aw_u (aw_u (aw_u (aw_un (aw_un M_7 11 (va_cpy (M_7 10) (M_7 11) (0 : Int32).toNatClampNeg (0 : Int32).toNatClampNeg (50 : Int32).toNatClampNeg)) 13 (va_cpy ((aw_un M_7 11 (va_cpy (M_7 10) (M_7 11) (0 : Int32).toNatClampNeg (0 : Int32).toNatClampNeg (50 : Int32).toNatClampNeg)) 12) ((aw_un M_7 11 (va_cpy (M_7 10) (M_7 11) (0 : Int32).toNatClampNeg (0 : Int32).toNatClampNeg (50 : Int32).toNatClampNeg)) 13) (0 : Int32).toNatClampNeg (0 : Int32).toNatClampNeg (20 : Int32).toNatClampNeg)) 2 5 ((aw_un (aw_un M_7 11 (va_cpy (M_7 10) (M_7 11) (0 : Int32).toNatClampNeg (0 : Int32).toNatClampNeg (50 : Int32).toNatClampNeg)) 13 (va_cpy ((aw_un M_7 11 (va_cpy (M_7 10) (M_7 11) (0 : Int32).toNatClampNeg (0 : Int32).toNatClampNeg (50 : Int32).toNatClampNeg)) 12) ((aw_un M_7 11 (va_cpy (M_7 10) (M_7 11) (0 : Int32).toNatClampNeg (0 : Int32).toNatClampNeg (50 : Int32).toNatClampNeg)) 13) (0 : Int32).toNatClampNeg (0 : Int32).toNatClampNeg (20 : Int32).toNatClampNeg)) 1 5)) 2 6 ((aw_u (aw_un (aw_un M_7 11 (va_cpy (M_7 10) (M_7 11) (0 : Int32).toNatClampNeg (0 : Int32).toNatClampNeg (50 : Int32).toNatClampNeg)) 13 (va_cpy ((aw_un M_7 11 (va_cpy (M_7 10) (M_7 11) (0 : Int32).toNatClampNeg (0 : Int32).toNatClampNeg (50 : Int32).toNatClampNeg)) 12) ((aw_un M_7 11 (va_cpy (M_7 10) (M_7 11) (0 : Int32).toNatClampNeg (0 : Int32).toNatClampNeg (50 : Int32).toNatClampNeg)) 13) (0 : Int32).toNatClampNeg (0 : Int32).toNatClampNeg (20 : Int32).toNatClampNeg)) 2 5 ((aw_un (aw_un M_7 11 (va_cpy (M_7 10) (M_7 11) (0 : Int32).toNatClampNeg (0 : Int32).toNatClampNeg (50 : Int32).toNatClampNeg)) 13 (va_cpy ((aw_un M_7 11 (va_cpy (M_7 10) (M_7 11) (0 : Int32).toNatClampNeg (0 : Int32).toNatClampNeg (50 : Int32).toNatClampNeg)) 12) ((aw_un M_7 11 (va_cpy (M_7 10) (M_7 11) (0 : Int32).toNatClampNeg (0 : Int32).toNatClampNeg (50 : Int32).toNatClampNeg)) 13) (0 : Int32).toNatClampNeg (0 : Int32).toNatClampNeg (20 : Int32).toNatClampNeg)) 1 5)) 1 6)) 2 7 ((aw_u (aw_u (aw_un (aw_un M_7 11 (va_cpy (M_7 10) (M_7 11) (0 : Int32).toNatClampNeg (0 : Int32).toNatClampNeg (50 : Int32).toNatClampNeg)) 13 (va_cpy ((aw_un M_7 11 (va_cpy (M_7 10) (M_7 11) (0 : Int32).toNatClampNeg (0 : Int32).toNatClampNeg (50 : Int32).toNatClampNeg)) 12) ((aw_un M_7 11 (va_cpy (M_7 10) (M_7 11) (0 : Int32).toNatClampNeg (0 : Int32).toNatClampNeg (50 : Int32).toNatClampNeg)) 13) (0 : Int32).toNatClampNeg (0 : Int32).toNatClampNeg (20 : Int32).toNatClampNeg)) 2 5 ((aw_un (aw_un M_7 11 (va_cpy (M_7 10) (M_7 11) (0 : Int32).toNatClampNeg (0 : Int32).toNatClampNeg (50 : Int32).toNatClampNeg)) 13 (va_cpy ((aw_un M_7 11 (va_cpy (M_7 10) (M_7 11) (0 : Int32).toNatClampNeg (0 : Int32).toNatClampNeg (50 : Int32).toNatClampNeg)) 12) ((aw_un M_7 11 (va_cpy (M_7 10) (M_7 11) (0 : Int32).toNatClampNeg (0 : Int32).toNatClampNeg (50 : Int32).toNatClampNeg)) 13) (0 : Int32).toNatClampNeg (0 : Int32).toNatClampNeg (20 : Int32).toNatClampNeg)) 1 5)) 2 6 ((aw_u (aw_un (aw_un M_7 11 (va_cpy (M_7 10) (M_7 11) (0 : Int32).toNatClampNeg (0 : Int32).toNatClampNeg (50 : Int32).toNatClampNeg)) 13 (va_cpy ((aw_un M_7 11 (va_cpy (M_7 10) (M_7 11) (0 : Int32).toNatClampNeg (0 : Int32).toNatClampNeg (50 : Int32).toNatClampNeg)) 12) ((aw_un M_7 11 (va_cpy (M_7 10) (M_7 11) (0 : Int32).toNatClampNeg (0 : Int32).toNatClampNeg (50 : Int32).toNatClampNeg)) 13) (0 : Int32).toNatClampNeg (0 : Int32).toNatClampNeg (20 : Int32).toNatClampNeg)) 2 5 ((aw_un (aw_un M_7 11 (va_cpy (M_7 10) (M_7 11) (0 : Int32).toNatClampNeg (0 : Int32).toNatClampNeg (50 : Int32).toNatClampNeg)) 13 (va_cpy ((aw_un M_7 11 (va_cpy (M_7 10) (M_7 11) (0 : Int32).toNatClampNeg (0 : Int32).toNatClampNeg (50 : Int32).toNatClampNeg)) 12) ((aw_un M_7 11 (va_cpy (M_7 10) (M_7 11) (0 : Int32).toNatClampNeg (0 : Int32).toNatClampNeg (50 : Int32).toNatClampNeg)) 13) (0 : Int32).toNatClampNeg (0 : Int32).toNatClampNeg (20 : Int32).toNatClampNeg)) 1 5)) 1 6)) 1 7)) 1 8)) 1 9)) dX7_copyFrom_161 lk_X7_51 lp_X7_9 gc_2 rfl rfl rfl rfl ?_
      obtain rfl := aw_sv h
      exact x_vret (pc := 164) dX7_copyFrom_164
    · have h := aw_neg h c_3
      refine x_aload_n (pc := 19) 0 dX7_copyFrom_19 rfl rfl ?_
      refine x_get (pc := 20) dX7_copyFrom_20 lk_X7_20 gc_2 rfl rfl ?_
      refine x_iload_n (pc := 23) 2 dX7_copyFrom_23 rfl rfl ?_
      obtain ⟨c_11, h⟩ := aw_ck h
      refine x_aald (pc := 24) dX7_copyFrom_24 gc_7 (fun _ => rfl) c_11 (ga_7 (aw_lt c_11)) ?_
      refine x_aload_n (pc := 25) 1 dX7_copyFrom_25 rfl rfl ?_
      refine x_get (pc := 26) dX7_copyFrom_26 lk_X7_20 gc_1 rfl rfl ?_
      refine x_iload_n (pc := 29) 2 dX7_copyFrom_29 rfl rfl ?_
      obtain ⟨c_12, h⟩ := aw_ck h
      refine x_aald (pc := 30) dX7_copyFrom_30 gc_6 (fun _ => rfl) c_12 (ga_6 (aw_lt c_12)) ?_
      obtain ⟨M_14, e_13, h⟩ := aw_bv_e h
      refine x_callV (pc := 31) (As := [.ref (ad (14 + p2.toNatClampNeg))]) (rest := []) (st' := []) (w := none) dX7_copyFrom_31 cw_X7_60 hd1 (gc_cloth (i := (6 + p2.toNatClampNeg)) (Nat.add_lt_add_left (aw_lt c_11) 6)) rfl rfl rfl (Nat.le_of_ble_eq_true rfl) (tc_Cl_copyFrom (d - 1) hh_0 (6 + p2.toNatClampNeg) (Nat.add_lt_add_left (aw_lt c_11) 6) p2.toNatClampNeg (Nat.lt_of_lt_of_le (aw_lt c_12) (by decide)) _  _ e_13) rfl ?_
      refine x_iinc (pc := 34) (p2 + 1) [(2, .int (p2 + 1)), (0, .ref (ad 2)), (1, .ref (ad 1))] dX7_copyFrom_34 rfl (congrArg (fun z => p2 + z) ic_1) (by decide) rfl ?_
      refine x_goto (pc := 37) 13 dX7_copyFrom_37 (by decide) ?_
      refine x_lv [1, 2, 0] [(0, .ref (ad 2)), (1, .ref (ad 1)), (2, .int (p2 + 1))] rfl ?_
      exact ih (p2 + 1) _ _ h
def fc_St_copyFrom_21  (M : aw_M) : Option aw_M :=
  aw_bv (fc_Ma_copyFrom 1 0 M) fun M_2 => (
  fc_St_copyFrom_21_L13  2000 0 M_2
  )
set_option maxRecDepth 20000 in
theorem tc_St_copyFrom_21 {l : Launch} {D : va_G} {cy : Nat → ClassId} {ad : Nat → Nat} {A : Nat → Prop} (d : Nat) (hd : 3 ≤ d)  (M : aw_M) (M1 : aw_M) (h : fc_St_copyFrom_21  M = some M1) : AX l D cy ad A gc_G yX7_copyFrom cX7_copyFrom 3 none d [.ref (ad 2), .ref (ad 1)] M none M1 := by
  have hd1 : (d - 1) + 1 ≤ d := by omega
  have hm1 : 1 ≤ d := by omega
  have hh_0 : 0 ≤ d - 1 := by omega
  have hh_2 : 2 ≤ d - 1 := by omega
  refine AX.of (own := RX7) (by decide +kernel) rfl (Nat.le_of_ble_eq_true rfl) ?_
  unfold fc_St_copyFrom_21 at h
  show AW l D cy ad A gc_G RX7 cX7_copyFrom 3 none d none M1 0 [(0, .ref (ad 2)), (1, .ref (ad 1))] [] M
  refine x_aload_n (pc := 0) 0 dX7_copyFrom_0 rfl rfl ?_
  refine x_get (pc := 1) dX7_copyFrom_1 lk_X7_12 gc_2 rfl rfl ?_
  refine x_aload_n (pc := 4) 1 dX7_copyFrom_4 rfl rfl ?_
  refine x_get (pc := 5) dX7_copyFrom_5 lk_X7_12 gc_1 rfl rfl ?_
  obtain ⟨M_2, e_1, h⟩ := aw_bv_e h
  refine x_callV (pc := 8) (As := [.ref (ad 3)]) (rest := []) (st' := []) (w := none) dX7_copyFrom_8 cw_X7_56 hd1 (gc_mach (i := 1) (by decide)) rfl rfl rfl (Nat.le_of_ble_eq_true rfl) (tc_Ma_copyFrom (d - 1) hh_0 1 (by decide) 0 (by decide) _  _ e_1) rfl ?_
  refine x_iconst (pc := 11) (w := 0) dX7_copyFrom_11 ic_0 ?_
  refine x_istore_n (pc := 12) 2 [(2, .int 0), (0, .ref (ad 2)), (1, .ref (ad 1))] dX7_copyFrom_12 rfl (by decide) rfl ?_
  refine x_lv [1, 2, 0] [(0, .ref (ad 2)), (1, .ref (ad 1)), (2, .int 0)] rfl ?_
  exact tc_St_copyFrom_21_L13 d hd  2000 0 _ _ h
def fc_St_follow (p1 : Int32) (M : aw_M) : Option aw_M :=
  aw_bv (fc_Ma_follow 0 p1 M) fun M_2 => (
  if aw_in p1 7 then none else (
  some (aw_u M_2 1 8 ((M_2 1 8) + (aw_t0.getD p1.toNatClampNeg 0)))
  )
  )
set_option maxRecDepth 20000 in
theorem tc_St_follow {l : Launch} {D : va_G} {cy : Nat → ClassId} {ad : Nat → Nat} {A : Nat → Prop} (d : Nat) (hd : 1 ≤ d) (p1 : Int32) (M : aw_M) (M1 : aw_M) (h : fc_St_follow p1 M = some M1) : AX l D cy ad A gc_G yX7_follow cX7_follow 2 none d [.ref (ad 1), .int p1] M none M1 := by
  have hd1 : (d - 1) + 1 ≤ d := by omega
  have hm1 : 1 ≤ d := by omega
  have hh_0 : 0 ≤ d - 1 := by omega
  refine AX.of (own := RX7) (by decide +kernel) rfl (Nat.le_of_ble_eq_true rfl) ?_
  unfold fc_St_follow at h
  show AW l D cy ad A gc_G RX7 cX7_follow 2 none d none M1 0 [(0, .ref (ad 1)), (1, .int p1)] [] M
  refine x_aload_n (pc := 0) 0 dX7_follow_0 rfl rfl ?_
  refine x_get (pc := 1) dX7_follow_1 lk_X7_12 gc_1 rfl rfl ?_
  refine x_iload_n (pc := 4) 1 dX7_follow_4 rfl rfl ?_
  obtain ⟨M_2, e_1, h⟩ := aw_bv_e h
  refine x_callV (pc := 5) (As := [.int p1]) (rest := []) (st' := []) (w := none) dX7_follow_5 cw_X7_86 hd1 (gc_mach (i := 0) (by decide)) rfl rfl rfl (Nat.le_of_ble_eq_true rfl) (tc_Ma_follow (d - 1) hh_0 0 (by decide) p1 _  _ e_1) rfl ?_
  refine x_aload_n (pc := 8) 0 dX7_follow_8 rfl rfl ?_
  refine x_dup (pc := 9) dX7_follow_9 rfl ?_
  refine x_get (pc := 10) dX7_follow_10 lk_X7_48 gc_1 rfl rfl ?_
  refine x_gs0N (host := "LoopsBelow") (pc := 13) dX7_follow_13 (by decide +kernel) ?_
  refine x_iload_n (pc := 16) 1 dX7_follow_16 rfl rfl ?_
  obtain ⟨c_3, h⟩ := aw_ck h
  refine x_ti0 (pc := 17) dX7_follow_17 c_3 ?_
  refine x_iadd (pc := 18) dX7_follow_18 ?_
  refine x_put (pc := 19) (x := ((M_2 1 8) + (aw_t0.getD p1.toNatClampNeg 0))) dX7_follow_19 lk_X7_48 lp_X7_8 gc_1 rfl rfl rfl rfl ?_
  obtain rfl := aw_sv h
  exact x_vret (pc := 22) dX7_follow_22
