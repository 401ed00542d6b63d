def fc_LB_tellsMost_L98 : Nat → Int32 → Int32 → aw_M → Option (Int32 × aw_M)
  | 0, _, _, _ => none
  | n + 1, p2, p3, M =>
    if (M 1 5) ≤ p3 then (
      some (p2, M)
    ) else (
      aw_bi (fc_LB_greatestTally p3 M) fun r_27 M_28 => (
      aw_bi (fc_LB_greatestTally p2 M_28) fun r_30 M_31 => (
      if r_30 ≤ r_27 then (
        fc_LB_tellsMost_L98 n p2 (p3 + 1) M_31
      ) else (
        fc_LB_tellsMost_L98 n p3 (p3 + 1) M_31
      )
      )
      )
    )
theorem fc_LB_tellsMost_L98_s (n : Nat) (p2 : Int32) (p3 : Int32) (M : aw_M) : fc_LB_tellsMost_L98 (n + 1) p2 p3 M = (
    if (M 1 5) ≤ p3 then (
      some (p2, M)
    ) else (
      aw_bi (fc_LB_greatestTally p3 M) fun r_27 M_28 => (
      aw_bi (fc_LB_greatestTally p2 M_28) fun r_30 M_31 => (
      if r_30 ≤ r_27 then (
        fc_LB_tellsMost_L98 n p2 (p3 + 1) M_31
      ) else (
        fc_LB_tellsMost_L98 n p3 (p3 + 1) M_31
      )
      )
      )
    )
    ) := rfl
set_option maxRecDepth 20000 in
theorem tc_LB_tellsMost_L98 {l : Launch} {D : va_G} {cy : Nat → ClassId} {ad : Nat → Nat} {A : Nat → Prop} (d : Nat) (hd : 6 ≤ d) : ∀ (n : Nat) (p2 : Int32) (p3 : Int32) (M : aw_M) (r : Int32) (M1 : aw_M), fc_LB_tellsMost_L98 n p2 p3 M = some (r, M1) → AW l D cy ad A gc_G RX9 cX9_tellsMost 4 (some .int) d (some (.int r)) M1 98 [(0, .ref (ad 0)), (2, .int p2), (3, .int p3)] [] M := by
  have hd1 : (d - 1) + 1 ≤ d := by omega
  have hm1 : 1 ≤ d := by omega
  have hh_0 : 0 ≤ d - 1 := by omega
  have hh_1 : 1 ≤ d - 1 := by omega
  have hh_5 : 5 ≤ d - 1 := by omega
  intro n
  induction n with
  | zero => intro p2 p3 M r M1 h; cases h
  | succ n ih =>
    intro p2 p3 M r M1 h
    rw [fc_LB_tellsMost_L98_s] at h
    refine x_iload_n (pc := 98) 3 dX9_tellsMost_98 rfl rfl ?_
    refine x_aload_n (pc := 99) 0 dX9_tellsMost_99 rfl rfl ?_
    refine x_get (pc := 100) dX9_tellsMost_100 lk_X9_10 gc_0 rfl rfl ?_
    refine x_get (pc := 103) dX9_tellsMost_103 lk_X9_104 gc_1 rfl rfl ?_
    refine x_icmp_ge (pc := 106) 130 dX9_tellsMost_106 (by decide) (fun c_25 => ?_) (fun c_25 => ?_)
    · have h := aw_pos h c_25
      refine x_iload_n (pc := 130) 2 dX9_tellsMost_130 rfl rfl ?_
      obtain ⟨rfl, rfl⟩ := aw_so h
      exact x_iret (pc := 131) dX9_tellsMost_131
    · have h := aw_neg h c_25
      refine x_aload_n (pc := 109) 0 dX9_tellsMost_109 rfl rfl ?_
      refine x_iload_n (pc := 110) 3 dX9_tellsMost_110 rfl rfl ?_
      obtain ⟨r_27, M_28, e_26, h⟩ := aw_bi_e h
      refine x_callV (pc := 111) (As := [.int p3]) (rest := []) (st' := [.int r_27]) (w := (some (.int r_27))) dX9_tellsMost_111 cw_X9_267 hd1 gc_0 rfl rfl rfl (Nat.le_of_ble_eq_true rfl) (tc_LB_greatestTally (d - 1) hh_1 p3 _ _ _ e_26) rfl ?_
      refine x_aload_n (pc := 114) 0 dX9_tellsMost_114 rfl rfl ?_
      refine x_iload_n (pc := 115) 2 dX9_tellsMost_115 rfl rfl ?_
      obtain ⟨r_30, M_31, e_29, h⟩ := aw_bi_e h
      refine x_callV (pc := 116) (As := [.int p2]) (rest := [.int r_27]) (st' := [.int r_30, .int r_27]) (w := (some (.int r_30))) dX9_tellsMost_116 cw_X9_267 hd1 gc_0 rfl rfl rfl (Nat.le_of_ble_eq_true rfl) (tc_LB_greatestTally (d - 1) hh_1 p2 _ _ _ e_29) rfl ?_
      refine x_icmp_ge (pc := 119) 124 dX9_tellsMost_119 (by decide) (fun c_32 => ?_) (fun c_32 => ?_)
      · have h := aw_pos h c_32
        refine x_iinc (pc := 124) (p3 + 1) [(3, .int (p3 + 1)), (0, .ref (ad 0)), (2, .int p2)] dX9_tellsMost_124 rfl (congrArg (fun z => p3 + z) ic_1) (by decide) rfl ?_
        refine x_goto (pc := 127) 98 dX9_tellsMost_127 (by decide) ?_
        refine x_lv [1, 2, 0] [(0, .ref (ad 0)), (2, .int p2), (3, .int (p3 + 1))] rfl ?_
        exact ih p2 (p3 + 1) _ _ _ h
      · have h := aw_neg h c_32
        refine x_iload_n (pc := 122) 3 dX9_tellsMost_122 rfl rfl ?_
        refine x_istore_n (pc := 123) 2 [(2, .int p3), (0, .ref (ad 0)), (3, .int p3)] dX9_tellsMost_123 rfl (by decide) rfl ?_
        refine x_iinc (pc := 124) (p3 + 1) [(3, .int (p3 + 1)), (2, .int p3), (0, .ref (ad 0))] dX9_tellsMost_124 rfl (congrArg (fun z => p3 + z) ic_1) (by decide) rfl ?_
        refine x_goto (pc := 127) 98 dX9_tellsMost_127 (by decide) ?_
        refine x_lv [2, 1, 0] [(0, .ref (ad 0)), (2, .int p3), (3, .int (p3 + 1))] rfl ?_
        exact ih p3 (p3 + 1) _ _ _ h
def fc_LB_tellsMost_L56 : Nat → Int32 → Int32 → aw_M → Option (Int32 × aw_M)
  | 0, _, _, _ => none
  | n + 1, p1, p2, M =>
    if (600 : Int32) ≤ p2 then (
      fc_LB_tellsMost_L98  2000 0 1 M
    ) else (
      aw_bv (fc_Ma_guess 2 p2 M) fun M_17 => (
      if aw_in p1 4 then none else (
      aw_bi (fc_LB_showsAsTold p1.toNatClampNeg M_17) fun r_20 M_21 => (
      if r_20 = 0 then (
        fc_LB_tellsMost_L56 n p1 (p2 + 1) M_21
      ) else (
        aw_bv (fc_LB_tallyAll  M_21) fun M_24 => (
        fc_LB_tellsMost_L56 n p1 (p2 + 1) M_24
        )
      )
      )
      )
      )
    )
theorem fc_LB_tellsMost_L56_s (n : Nat) (p1 : Int32) (p2 : Int32) (M : aw_M) : fc_LB_tellsMost_L56 (n + 1) p1 p2 M = (
    if (600 : Int32) ≤ p2 then (
      fc_LB_tellsMost_L98  2000 0 1 M
    ) else (
      aw_bv (fc_Ma_guess 2 p2 M) fun M_17 => (
      if aw_in p1 4 then none else (
      aw_bi (fc_LB_showsAsTold p1.toNatClampNeg M_17) fun r_20 M_21 => (
      if r_20 = 0 then (
        fc_LB_tellsMost_L56 n p1 (p2 + 1) M_21
      ) else (
        aw_bv (fc_LB_tallyAll  M_21) fun M_24 => (
        fc_LB_tellsMost_L56 n p1 (p2 + 1) M_24
        )
      )
      )
      )
      )
    )
    ) := rfl
set_option maxRecDepth 20000 in
theorem tc_LB_tellsMost_L56 {l : Launch} {D : va_G} {cy : Nat → ClassId} {ad : Nat → Nat} {A : Nat → Prop} (d : Nat) (hd : 6 ≤ d) : ∀ (n : Nat) (p1 : Int32) (p2 : Int32) (M : aw_M) (r : Int32) (M1 : aw_M), fc_LB_tellsMost_L56 n p1 p2 M = some (r, M1) → AW l D cy ad A gc_G RX9 cX9_tellsMost 4 (some .int) d (some (.int r)) M1 56 [(0, .ref (ad 0)), (1, .int p1), (2, .int p2)] [] M := by
  have hd1 : (d - 1) + 1 ≤ d := by omega
  have hm1 : 1 ≤ d := by omega
  have hh_0 : 0 ≤ d - 1 := by omega
  have hh_1 : 1 ≤ d - 1 := by omega
  have hh_5 : 5 ≤ d - 1 := by omega
  intro n
  induction n with
  | zero => intro p1 p2 M r M1 h; cases h
  | succ n ih =>
    intro p1 p2 M r M1 h
    rw [fc_LB_tellsMost_L56_s] at h
    refine x_iload_n (pc := 56) 2 dX9_tellsMost_56 rfl rfl ?_
    refine x_sipush (pc := 57) (w := 600) dX9_tellsMost_57 si_600 ?_
    refine x_icmp_ge (pc := 60) 94 dX9_tellsMost_60 (by decide) (fun c_15 => ?_) (fun c_15 => ?_)
    · have h := aw_pos h c_15
      refine x_iconst (pc := 94) (w := 0) dX9_tellsMost_94 ic_0 ?_
      refine x_istore_n (pc := 95) 2 [(2, .int 0), (0, .ref (ad 0)), (1, .int p1)] dX9_tellsMost_95 rfl (by decide) rfl ?_
      refine x_iconst (pc := 96) (w := 1) dX9_tellsMost_96 ic_1 ?_
      refine x_istore_n (pc := 97) 3 [(3, .int 1), (2, .int 0), (0, .ref (ad 0)), (1, .int p1)] dX9_tellsMost_97 rfl (by decide) rfl ?_
      refine x_lv [2, 1, 0] [(0, .ref (ad 0)), (2, .int 0), (3, .int 1)] rfl ?_
      exact tc_LB_tellsMost_L98 d hd  2000 0 1 _ _ _ h
    · have h := aw_neg h c_15
      refine x_aload_n (pc := 63) 0 dX9_tellsMost_63 rfl rfl ?_
      refine x_get (pc := 64) dX9_tellsMost_64 lk_X9_26 gc_0 rfl rfl ?_
      refine x_iload_n (pc := 67) 2 dX9_tellsMost_67 rfl rfl ?_
      obtain ⟨M_17, e_16, h⟩ := aw_bv_e h
      refine x_callV (pc := 68) (As := [.int p2]) (rest := []) (st' := []) (w := none) dX9_tellsMost_68 cw_X9_253 hd1 (gc_mach (i := 2) (by decide)) rfl rfl rfl (Nat.le_of_ble_eq_true rfl) (tc_Ma_guess (d - 1) hh_0 2 (by decide) p2 _  _ e_16) rfl ?_
      refine x_aload_n (pc := 71) 0 dX9_tellsMost_71 rfl rfl ?_
      refine x_aload_n (pc := 72) 0 dX9_tellsMost_72 rfl rfl ?_
      refine x_get (pc := 73) dX9_tellsMost_73 lk_X9_72 gc_0 rfl rfl ?_
      refine x_iload_n (pc := 76) 1 dX9_tellsMost_76 rfl rfl ?_
      obtain ⟨c_18, h⟩ := aw_ck h
      refine x_aald (pc := 77) dX9_tellsMost_77 gc_58 (fun _ => rfl) c_18 (ga_58 (aw_lt c_18)) ?_
      obtain ⟨r_20, M_21, e_19, h⟩ := aw_bi_e h
      refine x_callV (pc := 78) (As := [.ref (ad (59 + p1.toNatClampNeg))]) (rest := []) (st' := [.int r_20]) (w := (some (.int r_20))) dX9_tellsMost_78 cw_X9_256 hd1 gc_0 rfl rfl rfl (Nat.le_of_ble_eq_true rfl) (tc_LB_showsAsTold (d - 1) hh_5 p1.toNatClampNeg (aw_lt c_18) _ _ _ e_19) rfl ?_
      refine x_if_eq (pc := 81) 88 dX9_tellsMost_81 (by decide) (fun c_22 => ?_) (fun c_22 => ?_)
      · have h := aw_pos h c_22
        refine x_iinc (pc := 88) (p2 + 1) [(2, .int (p2 + 1)), (0, .ref (ad 0)), (1, .int p1)] dX9_tellsMost_88 rfl (congrArg (fun z => p2 + z) ic_1) (by decide) rfl ?_
        refine x_goto (pc := 91) 56 dX9_tellsMost_91 (by decide) ?_
        refine x_lv [1, 2, 0] [(0, .ref (ad 0)), (1, .int p1), (2, .int (p2 + 1))] rfl ?_
        exact ih p1 (p2 + 1) _ _ _ h
      · have h := aw_neg h c_22
        refine x_aload_n (pc := 84) 0 dX9_tellsMost_84 rfl rfl ?_
        obtain ⟨M_24, e_23, h⟩ := aw_bv_e h
        refine x_callV (pc := 85) (As := []) (rest := []) (st' := []) (w := none) dX9_tellsMost_85 cw_X9_264 hd1 gc_0 rfl rfl rfl (Nat.le_of_ble_eq_true rfl) (tc_LB_tallyAll (d - 1) hh_5  _  _ e_23) rfl ?_
        refine x_iinc (pc := 88) (p2 + 1) [(2, .int (p2 + 1)), (0, .ref (ad 0)), (1, .int p1)] dX9_tellsMost_88 rfl (congrArg (fun z => p2 + z) ic_1) (by decide) rfl ?_
        refine x_goto (pc := 91) 56 dX9_tellsMost_91 (by decide) ?_
        refine x_lv [1, 2, 0] [(0, .ref (ad 0)), (1, .int p1), (2, .int (p2 + 1))] rfl ?_
        exact ih p1 (p2 + 1) _ _ _ h
def fc_LB_tellsMost (p1 : Int32) (M : aw_M) : Option (Int32 × aw_M) :=
  aw_bi (fc_LB_isSheet p1 M) fun r_2 M_3 => (
  if r_2 = 0 then (
    fc_LB_error 1 M_3
  ) else (
    if aw_in p1 4 then none else (
    aw_bi (fc_LB_tellsOfAllCloths p1.toNatClampNeg M_3) fun r_7 M_8 => (
    if r_7 = 0 then (
      fc_LB_error 2 M_8
    ) else (
      if (M_8 1 5) = 0 then (
        fc_LB_error 2 M_8
      ) else (
        aw_bv (fc_LB_prepareGuesses  M_8) fun M_12 => (
        aw_bv (fc_Ar_fill 51 30 0 M_12) fun M_14 => (
        fc_LB_tellsMost_L56  2000 p1 0 M_14
        )
        )
      )
    )
    )
    )
  )
  )
set_option maxRecDepth 20000 in
theorem tc_LB_tellsMost {l : Launch} {D : va_G} {cy : Nat → ClassId} {ad : Nat → Nat} {A : Nat → Prop} (d : Nat) (hd : 6 ≤ d) (p1 : Int32) (M : aw_M) (r : Int32) (M1 : aw_M) (h : fc_LB_tellsMost p1 M = some (r, M1)) : AX l D cy ad A gc_G yX9_tellsMost cX9_tellsMost 4 (some .int) d [.ref (ad 0), .int p1] M (some (.int r)) M1 := by
  have hd1 : (d - 1) + 1 ≤ d := by omega
  have hm1 : 1 ≤ d := by omega
  have hh_0 : 0 ≤ d - 1 := by omega
  have hh_1 : 1 ≤ d - 1 := by omega
  have hh_5 : 5 ≤ d - 1 := by omega
  refine AX.of (own := RX9) (by decide +kernel) rfl (Nat.le_of_ble_eq_true rfl) ?_
  unfold fc_LB_tellsMost at h
  show AW l D cy ad A gc_G RX9 cX9_tellsMost 4 (some .int) d (some (.int r)) M1 0 [(0, .ref (ad 0)), (1, .int p1)] [] M
  refine x_iload_n (pc := 0) 1 dX9_tellsMost_0 rfl rfl ?_
  obtain ⟨r_2, M_3, e_1, h⟩ := aw_bi_e h
  refine x_callS (pc := 1) (As := [.int p1]) (rest := []) (st' := [.int r_2]) (w := (some (.int r_2))) dX9_tellsMost_1 cw_X9_243 hd1 rfl rfl (Nat.le_of_ble_eq_true rfl) (tc_LB_isSheet (d - 1) hh_0 p1 _ _ _ e_1) rfl ?_
  refine x_if_ne (pc := 4) 13 dX9_tellsMost_4 (by decide) (fun c_4 => ?_) (fun c_4 => ?_)
  · have h := aw_neg h c_4
    refine x_aload_n (pc := 13) 0 dX9_tellsMost_13 rfl rfl ?_
    refine x_aload_n (pc := 14) 0 dX9_tellsMost_14 rfl rfl ?_
    refine x_get (pc := 15) dX9_tellsMost_15 lk_X9_72 gc_0 rfl rfl ?_
    refine x_iload_n (pc := 18) 1 dX9_tellsMost_18 rfl rfl ?_
    obtain ⟨c_5, h⟩ := aw_ck h
    refine x_aald (pc := 19) dX9_tellsMost_19 gc_58 (fun _ => rfl) c_5 (ga_58 (aw_lt c_5)) ?_
    obtain ⟨r_7, M_8, e_6, h⟩ := aw_bi_e h
    refine x_callV (pc := 20) (As := [.ref (ad (59 + p1.toNatClampNeg))]) (rest := []) (st' := [.int r_7]) (w := (some (.int r_7))) dX9_tellsMost_20 cw_X9_246 hd1 gc_0 rfl rfl rfl (Nat.le_of_ble_eq_true rfl) (tc_LB_tellsOfAllCloths (d - 1) hh_1 p1.toNatClampNeg (aw_lt c_5) _ _ _ e_6) rfl ?_
    refine x_if_eq (pc := 23) 36 dX9_tellsMost_23 (by decide) (fun c_9 => ?_) (fun c_9 => ?_)
    · have h := aw_pos h c_9
      refine x_aload_n (pc := 36) 0 dX9_tellsMost_36 rfl rfl ?_
      refine x_iconst (pc := 37) (w := 2) dX9_tellsMost_37 ic_2 ?_
      refine x_callV (pc := 38) (As := [.int 2]) (rest := []) (st' := [.int r]) (w := (some (.int r))) dX9_tellsMost_38 cw_X9_84 hd1 gc_0 rfl rfl rfl (Nat.le_of_ble_eq_true rfl) (tc_LB_error (d - 1) hh_0 2 _ _ _ h) rfl ?_
      exact x_iret (pc := 41) dX9_tellsMost_41
    · have h := aw_neg h c_9
      refine x_aload_n (pc := 26) 0 dX9_tellsMost_26 rfl rfl ?_
      refine x_get (pc := 27) dX9_tellsMost_27 lk_X9_10 gc_0 rfl rfl ?_
      refine x_get (pc := 30) dX9_tellsMost_30 lk_X9_104 gc_1 rfl rfl ?_
      refine x_if_ne (pc := 33) 42 dX9_tellsMost_33 (by decide) (fun c_10 => ?_) (fun c_10 => ?_)
      · have h := aw_neg h c_10
        refine x_aload_n (pc := 42) 0 dX9_tellsMost_42 rfl rfl ?_
        obtain ⟨M_12, e_11, h⟩ := aw_bv_e h
        refine x_callV (pc := 43) (As := []) (rest := []) (st' := []) (w := none) dX9_tellsMost_43 cw_X9_250 hd1 gc_0 rfl rfl rfl (Nat.le_of_ble_eq_true rfl) (tc_LB_prepareGuesses (d - 1) hh_5  _  _ e_11) rfl ?_
        refine x_aload_n (pc := 46) 0 dX9_tellsMost_46 rfl rfl ?_
        refine x_get (pc := 47) dX9_tellsMost_47 lk_X9_43 gc_0 rfl rfl ?_
        refine x_iconst (pc := 50) (w := 0) dX9_tellsMost_50 ic_0 ?_
        obtain ⟨M_14, e_13, h⟩ := aw_bv_e h
        refine x_callS (pc := 51) (As := [.ref (ad 51), .int 0]) (rest := []) (st' := []) (w := none) dX9_tellsMost_51 cw_X9_259 hd1 rfl rfl (Nat.le_of_ble_eq_true rfl) (tc_Ar_fill (d - 1) hh_0 51 30 gc_51 0 _  _ e_13) rfl ?_
        refine x_iconst (pc := 54) (w := 0) dX9_tellsMost_54 ic_0 ?_
        refine x_istore_n (pc := 55) 2 [(2, .int 0), (0, .ref (ad 0)), (1, .int p1)] dX9_tellsMost_55 rfl (by decide) rfl ?_
        refine x_lv [1, 2, 0] [(0, .ref (ad 0)), (1, .int p1), (2, .int 0)] rfl ?_
        exact tc_LB_tellsMost_L56 d hd  2000 p1 0 _ _ _ h
      · have h := aw_pos h c_10
        refine x_aload_n (pc := 36) 0 dX9_tellsMost_36 rfl rfl ?_
        refine x_iconst (pc := 37) (w := 2) dX9_tellsMost_37 ic_2 ?_
        refine x_callV (pc := 38) (As := [.int 2]) (rest := []) (st' := [.int r]) (w := (some (.int r))) dX9_tellsMost_38 cw_X9_84 hd1 gc_0 rfl rfl rfl (Nat.le_of_ble_eq_true rfl) (tc_LB_error (d - 1) hh_0 2 _ _ _ h) rfl ?_
        exact x_iret (pc := 41) dX9_tellsMost_41
  · have h := aw_pos h c_4
    refine x_aload_n (pc := 7) 0 dX9_tellsMost_7 rfl rfl ?_
    refine x_iconst (pc := 8) (w := 1) dX9_tellsMost_8 ic_1 ?_
    refine x_callV (pc := 9) (As := [.int 1]) (rest := []) (st' := [.int r]) (w := (some (.int r))) dX9_tellsMost_9 cw_X9_84 hd1 gc_0 rfl rfl rfl (Nat.le_of_ble_eq_true rfl) (tc_LB_error (d - 1) hh_0 1 _ _ _ h) rfl ?_
    exact x_iret (pc := 12) dX9_tellsMost_12
def fc_LB_knobWas_L87 : Nat → Int32 → Nat → Nat → Int32 → Int32 → aw_M → Option (Int32 × aw_M)
  | 0, _, _, _, _, _, _ => none
  | n + 1, p3, i4, i5, p6, p7, M =>
    if (9 : Int32) < p7 then (
      some (p6, M)
    ) else (
      aw_bi (fc_Ga_shows i4 2 (aw_u M 5 1 p7)) fun r_25 M_26 => (
      if r_25 = (p3 / 10) then (
        aw_bi (fc_Ga_shows i5 2 M_26) fun r_29 M_30 => (
        if r_29 = (aw_rem p3 10) then (
          fc_LB_knobWas_L87 n p3 i4 i5 (p6 ||| (1 <<< (p7 &&& 31))) (p7 + 1) M_30
        ) else (
          fc_LB_knobWas_L87 n p3 i4 i5 p6 (p7 + 1) M_30
        )
        )
      ) else (
        fc_LB_knobWas_L87 n p3 i4 i5 p6 (p7 + 1) M_26
      )
      )
    )
theorem fc_LB_knobWas_L87_s (n : Nat) (p3 : Int32) (i4 : Nat) (i5 : Nat) (p6 : Int32) (p7 : Int32) (M : aw_M) : fc_LB_knobWas_L87 (n + 1) p3 i4 i5 p6 p7 M = (
    if (9 : Int32) < p7 then (
      some (p6, M)
    ) else (
      aw_bi (fc_Ga_shows i4 2 (aw_u M 5 1 p7)) fun r_25 M_26 => (
      if r_25 = (p3 / 10) then (
        aw_bi (fc_Ga_shows i5 2 M_26) fun r_29 M_30 => (
        if r_29 = (aw_rem p3 10) then (
          fc_LB_knobWas_L87 n p3 i4 i5 (p6 ||| (1 <<< (p7 &&& 31))) (p7 + 1) M_30
        ) else (
          fc_LB_knobWas_L87 n p3 i4 i5 p6 (p7 + 1) M_30
        )
        )
      ) else (
        fc_LB_knobWas_L87 n p3 i4 i5 p6 (p7 + 1) M_26
      )
      )
    )
    ) := rfl
set_option maxRecDepth 20000 in
theorem tc_LB_knobWas_L87 {l : Launch} {D : va_G} {cy : Nat → ClassId} {ad : Nat → Nat} {A : Nat → Prop} (d : Nat) (hd : 5 ≤ d) : ∀ (n : Nat) (p3 : Int32) (i4 : Nat) (h4 : i4 < 6) (i5 : Nat) (h5 : i5 < 6) (p6 : Int32) (p7 : Int32) (M : aw_M) (r : Int32) (M1 : aw_M), fc_LB_knobWas_L87 n p3 i4 i5 p6 p7 M = some (r, M1) → AW l D cy ad A gc_G RX9 cX9_knobWas 8 (some .int) d (some (.int r)) M1 87 [(0, .ref (ad 0)), (3, .int p3), (4, .ref (ad (39 + i4))), (5, .ref (ad (39 + i5))), (6, .int p6), (7, .int p7)] [] M := by
  have hd1 : (d - 1) + 1 ≤ d := by omega
  have hm1 : 1 ≤ d := by omega
  have hh_0 : 0 ≤ d - 1 := by omega
  have hh_4 : 4 ≤ d - 1 := by omega
  intro n
  induction n with
  | zero => intro p3 i4 h4 i5 h5 p6 p7 M r M1 h; cases h
  | succ n ih =>
    intro p3 i4 h4 i5 h5 p6 p7 M r M1 h
    rw [fc_LB_knobWas_L87_s] at h
    refine x_iload (pc := 87) dX9_knobWas_87 rfl ?_
    refine x_bipush (pc := 89) (w := 9) dX9_knobWas_89 bi_9 ?_
    refine x_icmp_gt (pc := 91) 150 dX9_knobWas_91 (by decide) (fun c_23 => ?_) (fun c_23 => ?_)
    · have h := aw_pos h c_23
      refine x_iload (pc := 150) dX9_knobWas_150 rfl ?_
      obtain ⟨rfl, rfl⟩ := aw_so h
      exact x_iret (pc := 152) dX9_knobWas_152
    · have h := aw_neg h c_23
      refine x_aload_n (pc := 94) 0 dX9_knobWas_94 rfl rfl ?_
      refine x_get (pc := 95) dX9_knobWas_95 lk_X9_26 gc_0 rfl rfl ?_
      refine x_iload (pc := 98) dX9_knobWas_98 rfl ?_
      refine x_put (pc := 100) (x := p7) dX9_knobWas_100 lk_X9_270 lp_X4_1 (gc_mach (i := 2) (by decide)) rfl rfl rfl rfl ?_
      refine x_aload (pc := 103) dX9_knobWas_103 rfl ?_
      refine x_aload_n (pc := 105) 0 dX9_knobWas_105 rfl rfl ?_
      refine x_get (pc := 106) dX9_knobWas_106 lk_X9_26 gc_0 rfl rfl ?_
      obtain ⟨r_25, M_26, e_24, h⟩ := aw_bi_e h
      refine x_callV (pc := 109) (As := [.ref (ad 5)]) (rest := []) (st' := [.int r_25]) (w := (some (.int r_25))) dX9_knobWas_109 cw_X9_144 hd1 (gc_gauge (i := i4) h4) rfl rfl rfl (Nat.le_of_ble_eq_true rfl) (tc_Ga_shows (d - 1) hh_4 i4 h4 2 (by decide) _ _ _ e_24) rfl ?_
      refine x_iload_n (pc := 112) 3 dX9_knobWas_112 rfl rfl ?_
      refine x_bipush (pc := 113) (w := 10) dX9_knobWas_113 bi_10 ?_
      refine x_idiv (pc := 115) dX9_knobWas_115 (by decide) ?_
      refine x_icmp_ne (pc := 116) 144 dX9_knobWas_116 (by decide) (fun c_27 => ?_) (fun c_27 => ?_)
      · have h := aw_neg h c_27
        refine x_iinc (pc := 144) (p7 + 1) [(7, .int (p7 + 1)), (0, .ref (ad 0)), (3, .int p3), (4, .ref (ad (39 + i4))), (5, .ref (ad (39 + i5))), (6, .int p6)] dX9_knobWas_144 rfl (congrArg (fun z => p7 + z) ic_1) (by decide) rfl ?_
        refine x_goto (pc := 147) 87 dX9_knobWas_147 (by decide) ?_
        refine x_lv [1, 2, 3, 4, 5, 0] [(0, .ref (ad 0)), (3, .int p3), (4, .ref (ad (39 + i4))), (5, .ref (ad (39 + i5))), (6, .int p6), (7, .int (p7 + 1))] rfl ?_
        exact ih p3 i4 h4 i5 h5 p6 (p7 + 1) _ _ _ h
      · have h := aw_pos h c_27
        refine x_aload (pc := 119) dX9_knobWas_119 rfl ?_
        refine x_aload_n (pc := 121) 0 dX9_knobWas_121 rfl rfl ?_
        refine x_get (pc := 122) dX9_knobWas_122 lk_X9_26 gc_0 rfl rfl ?_
        obtain ⟨r_29, M_30, e_28, h⟩ := aw_bi_e h
        refine x_callV (pc := 125) (As := [.ref (ad 5)]) (rest := []) (st' := [.int r_29]) (w := (some (.int r_29))) dX9_knobWas_125 cw_X9_144 hd1 (gc_gauge (i := i5) h5) rfl rfl rfl (Nat.le_of_ble_eq_true rfl) (tc_Ga_shows (d - 1) hh_4 i5 h5 2 (by decide) _ _ _ e_28) rfl ?_
        refine x_iload_n (pc := 128) 3 dX9_knobWas_128 rfl rfl ?_
        refine x_bipush (pc := 129) (w := 10) dX9_knobWas_129 bi_10 ?_
        refine x_irem (pc := 131) dX9_knobWas_131 (by decide) ?_
        refine x_icmp_ne (pc := 132) 144 dX9_knobWas_132 (by decide) (fun c_31 => ?_) (fun c_31 => ?_)
        · have h := aw_neg h c_31
          refine x_iinc (pc := 144) (p7 + 1) [(7, .int (p7 + 1)), (0, .ref (ad 0)), (3, .int p3), (4, .ref (ad (39 + i4))), (5, .ref (ad (39 + i5))), (6, .int p6)] dX9_knobWas_144 rfl (congrArg (fun z => p7 + z) ic_1) (by decide) rfl ?_
          refine x_goto (pc := 147) 87 dX9_knobWas_147 (by decide) ?_
          refine x_lv [1, 2, 3, 4, 5, 0] [(0, .ref (ad 0)), (3, .int p3), (4, .ref (ad (39 + i4))), (5, .ref (ad (39 + i5))), (6, .int p6), (7, .int (p7 + 1))] rfl ?_
          exact ih p3 i4 h4 i5 h5 p6 (p7 + 1) _ _ _ h
        · have h := aw_pos h c_31
          refine x_iload (pc := 135) dX9_knobWas_135 rfl ?_
          refine x_iconst (pc := 137) (w := 1) dX9_knobWas_137 ic_1 ?_
          refine x_iload (pc := 138) dX9_knobWas_138 rfl ?_
          refine x_ishl (pc := 140) dX9_knobWas_140 ?_
          refine x_ior (pc := 141) dX9_knobWas_141 ?_
          refine x_istore (pc := 142) 6 [(6, .int (p6 ||| (1 <<< (p7 &&& 31)))), (0, .ref (ad 0)), (3, .int p3), (4, .ref (ad (39 + i4))), (5, .ref (ad (39 + i5))), (7, .int p7)] dX9_knobWas_142 (by decide) rfl ?_
          refine x_iinc (pc := 144) (p7 + 1) [(7, .int (p7 + 1)), (6, .int (p6 ||| (1 <<< (p7 &&& 31)))), (0, .ref (ad 0)), (3, .int p3), (4, .ref (ad (39 + i4))), (5, .ref (ad (39 + i5)))] dX9_knobWas_144 rfl (congrArg (fun z => p7 + z) ic_1) (by decide) rfl ?_
          refine x_goto (pc := 147) 87 dX9_knobWas_147 (by decide) ?_
          refine x_lv [2, 3, 4, 5, 1, 0] [(0, .ref (ad 0)), (3, .int p3), (4, .ref (ad (39 + i4))), (5, .ref (ad (39 + i5))), (6, .int (p6 ||| (1 <<< (p7 &&& 31)))), (7, .int (p7 + 1))] rfl ?_
          exact ih p3 i4 h4 i5 h5 (p6 ||| (1 <<< (p7 &&& 31))) (p7 + 1) _ _ _ h
def fc_LB_knobWas (p1 : Int32) (p2 : Int32) (p3 : Int32) (M : aw_M) : Option (Int32 × aw_M) :=
  aw_bi (fc_LB_hasCloth p1 M) fun r_2 M_3 => (
  if r_2 = 0 then (
    fc_LB_error 1 M_3
  ) else (
    aw_bi (fc_LB_hasCloth p2 M_3) fun r_6 M_7 => (
    if r_6 = 0 then (
      fc_LB_error 1 M_7
    ) else (
      if p1 = p2 then (
        fc_LB_error 1 M_7
      ) else (
        if p3 < 0 then (
          fc_LB_error 1 M_7
        ) else (
          if (5 : Int32) ≤ (p3 / 10) then (
            fc_LB_error 1 M_7
          ) else (
            if (aw_rem p3 10) < 5 then (
              aw_br (fc_LB_gaugeOf p1 M_7) fun i_14 M_15 => (
              if 6 ≤ i_14 then none else (
              aw_br (fc_LB_gaugeOf p2 M_15) fun i_18 M_19 => (
              if 6 ≤ i_18 then none else (
              aw_bv (fc_Ma_copyFrom 2 0 M_19) fun M_22 => (
              fc_LB_knobWas_L87  2000 p3 i_14 i_18 0 0 M_22
              )
              )
              )
              )
              )
            ) else (
              fc_LB_error 1 M_7
            )
          )
        )
      )
    )
    )
  )
  )
set_option maxRecDepth 20000 in
theorem tc_LB_knobWas {l : Launch} {D : va_G} {cy : Nat → ClassId} {ad : Nat → Nat} {A : Nat → Prop} (d : Nat) (hd : 5 ≤ d) (p1 : Int32) (p2 : Int32) (p3 : Int32) (M : aw_M) (r : Int32) (M1 : aw_M) (h : fc_LB_knobWas p1 p2 p3 M = some (r, M1)) : AX l D cy ad A gc_G yX9_knobWas cX9_knobWas 8 (some .int) d [.ref (ad 0), .int p1, .int p2, .int p3] M (some (.int r)) M1 := by
  have hd1 : (d - 1) + 1 ≤ d := by omega
  have hm1 : 1 ≤ d := by omega
  have hh_0 : 0 ≤ d - 1 := by omega
  have hh_4 : 4 ≤ d - 1 := by omega
  refine AX.of (own := RX9) (by decide +kernel) rfl (Nat.le_of_ble_eq_true rfl) ?_
  unfold fc_LB_knobWas at h
  show AW l D cy ad A gc_G RX9 cX9_knobWas 8 (some .int) d (some (.int r)) M1 0 [(0, .ref (ad 0)), (1, .int p1), (2, .int p2), (3, .int p3)] [] M
  refine x_aload_n (pc := 0) 0 dX9_knobWas_0 rfl rfl ?_
  refine x_iload_n (pc := 1) 1 dX9_knobWas_1 rfl rfl ?_
  obtain ⟨r_2, M_3, e_1, h⟩ := aw_bi_e h
  refine x_callV (pc := 2) (As := [.int p1]) (rest := []) (st' := [.int r_2]) (w := (some (.int r_2))) dX9_knobWas_2 cw_X9_112 hd1 gc_0 rfl rfl rfl (Nat.le_of_ble_eq_true rfl) (tc_LB_hasCloth (d - 1) hh_0 p1 _ _ _ e_1) rfl ?_
  refine x_if_eq (pc := 5) 21 dX9_knobWas_5 (by decide) (fun c_4 => ?_) (fun c_4 => ?_)
  · have h := aw_pos h c_4
    refine x_aload_n (pc := 21) 0 dX9_knobWas_21 rfl rfl ?_
    refine x_iconst (pc := 22) (w := 1) dX9_knobWas_22 ic_1 ?_
    refine x_callV (pc := 23) (As := [.int 1]) (rest := []) (st' := [.int r]) (w := (some (.int r))) dX9_knobWas_23 cw_X9_84 hd1 gc_0 rfl rfl rfl (Nat.le_of_ble_eq_true rfl) (tc_LB_error (d - 1) hh_0 1 _ _ _ h) rfl ?_
    exact x_iret (pc := 26) dX9_knobWas_26
  · have h := aw_neg h c_4
    refine x_aload_n (pc := 8) 0 dX9_knobWas_8 rfl rfl ?_
    refine x_iload_n (pc := 9) 2 dX9_knobWas_9 rfl rfl ?_
    obtain ⟨r_6, M_7, e_5, h⟩ := aw_bi_e h
    refine x_callV (pc := 10) (As := [.int p2]) (rest := []) (st' := [.int r_6]) (w := (some (.int r_6))) dX9_knobWas_10 cw_X9_112 hd1 gc_0 rfl rfl rfl (Nat.le_of_ble_eq_true rfl) (tc_LB_hasCloth (d - 1) hh_0 p2 _ _ _ e_5) rfl ?_
    refine x_if_eq (pc := 13) 21 dX9_knobWas_13 (by decide) (fun c_8 => ?_) (fun c_8 => ?_)
    · have h := aw_pos h c_8
      refine x_aload_n (pc := 21) 0 dX9_knobWas_21 rfl rfl ?_
      refine x_iconst (pc := 22) (w := 1) dX9_knobWas_22 ic_1 ?_
      refine x_callV (pc := 23) (As := [.int 1]) (rest := []) (st' := [.int r]) (w := (some (.int r))) dX9_knobWas_23 cw_X9_84 hd1 gc_0 rfl rfl rfl (Nat.le_of_ble_eq_true rfl) (tc_LB_error (d - 1) hh_0 1 _ _ _ h) rfl ?_
      exact x_iret (pc := 26) dX9_knobWas_26
    · have h := aw_neg h c_8
      refine x_iload_n (pc := 16) 1 dX9_knobWas_16 rfl rfl ?_
      refine x_iload_n (pc := 17) 2 dX9_knobWas_17 rfl rfl ?_
      refine x_icmp_ne (pc := 18) 27 dX9_knobWas_18 (by decide) (fun c_9 => ?_) (fun c_9 => ?_)
      · have h := aw_neg h c_9
        refine x_iload_n (pc := 27) 3 dX9_knobWas_27 rfl rfl ?_
        refine x_if_lt (pc := 28) 47 dX9_knobWas_28 (by decide) (fun c_10 => ?_) (fun c_10 => ?_)
        · have h := aw_pos h c_10
          refine x_aload_n (pc := 47) 0 dX9_knobWas_47 rfl rfl ?_
          refine x_iconst (pc := 48) (w := 1) dX9_knobWas_48 ic_1 ?_
          refine x_callV (pc := 49) (As := [.int 1]) (rest := []) (st' := [.int r]) (w := (some (.int r))) dX9_knobWas_49 cw_X9_84 hd1 gc_0 rfl rfl rfl (Nat.le_of_ble_eq_true rfl) (tc_LB_error (d - 1) hh_0 1 _ _ _ h) rfl ?_
          exact x_iret (pc := 52) dX9_knobWas_52
        · have h := aw_neg h c_10
          refine x_iload_n (pc := 31) 3 dX9_knobWas_31 rfl rfl ?_
          refine x_bipush (pc := 32) (w := 10) dX9_knobWas_32 bi_10 ?_
          refine x_idiv (pc := 34) dX9_knobWas_34 (by decide) ?_
          refine x_iconst (pc := 35) (w := 5) dX9_knobWas_35 ic_5 ?_
          refine x_icmp_ge (pc := 36) 47 dX9_knobWas_36 (by decide) (fun c_11 => ?_) (fun c_11 => ?_)
          · have h := aw_pos h c_11
            refine x_aload_n (pc := 47) 0 dX9_knobWas_47 rfl rfl ?_
            refine x_iconst (pc := 48) (w := 1) dX9_knobWas_48 ic_1 ?_
            refine x_callV (pc := 49) (As := [.int 1]) (rest := []) (st' := [.int r]) (w := (some (.int r))) dX9_knobWas_49 cw_X9_84 hd1 gc_0 rfl rfl rfl (Nat.le_of_ble_eq_true rfl) (tc_LB_error (d - 1) hh_0 1 _ _ _ h) rfl ?_
            exact x_iret (pc := 52) dX9_knobWas_52
          · have h := aw_neg h c_11
            refine x_iload_n (pc := 39) 3 dX9_knobWas_39 rfl rfl ?_
            refine x_bipush (pc := 40) (w := 10) dX9_knobWas_40 bi_10 ?_
            refine x_irem (pc := 42) dX9_knobWas_42 (by decide) ?_
            refine x_iconst (pc := 43) (w := 5) dX9_knobWas_43 ic_5 ?_
            refine x_icmp_lt (pc := 44) 53 dX9_knobWas_44 (by decide) (fun c_12 => ?_) (fun c_12 => ?_)
            · have h := aw_pos h c_12
              refine x_aload_n (pc := 53) 0 dX9_knobWas_53 rfl rfl ?_
              refine x_iload_n (pc := 54) 1 dX9_knobWas_54 rfl rfl ?_
              obtain ⟨i_14, M_15, e_13, h⟩ := aw_br_e h
              obtain ⟨c_16, h⟩ := aw_ck h
              refine x_callV (pc := 55) (As := [.int p1]) (rest := []) (st' := [.ref (ad (39 + i_14))]) (w := (some (.ref (ad (39 + i_14))))) dX9_knobWas_55 cw_X9_130 hd1 gc_0 rfl rfl rfl (Nat.le_of_ble_eq_true rfl) (tc_LB_gaugeOf (d - 1) hh_4 p1 _ _ _ e_13) rfl ?_
              refine x_astore (pc := 58) 4 [(4, .ref (ad (39 + i_14))), (0, .ref (ad 0)), (1, .int p1), (2, .int p2), (3, .int p3)] dX9_knobWas_58 (by decide) rfl ?_
              refine x_aload_n (pc := 60) 0 dX9_knobWas_60 rfl rfl ?_
              refine x_iload_n (pc := 61) 2 dX9_knobWas_61 rfl rfl ?_
              obtain ⟨i_18, M_19, e_17, h⟩ := aw_br_e h
              obtain ⟨c_20, h⟩ := aw_ck h
              refine x_callV (pc := 62) (As := [.int p2]) (rest := []) (st' := [.ref (ad (39 + i_18))]) (w := (some (.ref (ad (39 + i_18))))) dX9_knobWas_62 cw_X9_130 hd1 gc_0 rfl rfl rfl (Nat.le_of_ble_eq_true rfl) (tc_LB_gaugeOf (d - 1) hh_4 p2 _ _ _ e_17) rfl ?_
              refine x_astore (pc := 65) 5 [(5, .ref (ad (39 + i_18))), (4, .ref (ad (39 + i_14))), (0, .ref (ad 0)), (1, .int p1), (2, .int p2), (3, .int p3)] dX9_knobWas_65 (by decide) rfl ?_
              refine x_aload_n (pc := 67) 0 dX9_knobWas_67 rfl rfl ?_
              refine x_get (pc := 68) dX9_knobWas_68 lk_X9_26 gc_0 rfl rfl ?_
              refine x_aload_n (pc := 71) 0 dX9_knobWas_71 rfl rfl ?_
              refine x_get (pc := 72) dX9_knobWas_72 lk_X9_10 gc_0 rfl rfl ?_
              refine x_get (pc := 75) dX9_knobWas_75 lk_X9_87 gc_1 rfl rfl ?_
              obtain ⟨M_22, e_21, h⟩ := aw_bv_e h
              refine x_callV (pc := 78) (As := [.ref (ad 3)]) (rest := []) (st' := []) (w := none) dX9_knobWas_78 cw_X9_222 hd1 (gc_mach (i := 2) (by decide)) rfl rfl rfl (Nat.le_of_ble_eq_true rfl) (tc_Ma_copyFrom (d - 1) hh_0 2 (by decide) 0 (by decide) _  _ e_21) rfl ?_
              refine x_iconst (pc := 81) (w := 0) dX9_knobWas_81 ic_0 ?_
              refine x_istore (pc := 82) 6 [(6, .int 0), (5, .ref (ad (39 + i_18))), (4, .ref (ad (39 + i_14))), (0, .ref (ad 0)), (1, .int p1), (2, .int p2), (3, .int p3)] dX9_knobWas_82 (by decide) rfl ?_
              refine x_iconst (pc := 84) (w := 0) dX9_knobWas_84 ic_0 ?_
              refine x_istore (pc := 85) 7 [(7, .int 0), (6, .int 0), (5, .ref (ad (39 + i_18))), (4, .ref (ad (39 + i_14))), (0, .ref (ad 0)), (1, .int p1), (2, .int p2), (3, .int p3)] dX9_knobWas_85 (by decide) rfl ?_
              refine x_lv [4, 7, 3, 2, 1, 0] [(0, .ref (ad 0)), (3, .int p3), (4, .ref (ad (39 + i_14))), (5, .ref (ad (39 + i_18))), (6, .int 0), (7, .int 0)] rfl ?_
              exact tc_LB_knobWas_L87 d hd  2000 p3 i_14 (Nat.lt_of_not_le c_16) i_18 (Nat.lt_of_not_le c_20) 0 0 _ _ _ h
            · have h := aw_neg h c_12
              refine x_aload_n (pc := 47) 0 dX9_knobWas_47 rfl rfl ?_
              refine x_iconst (pc := 48) (w := 1) dX9_knobWas_48 ic_1 ?_
              refine x_callV (pc := 49) (As := [.int 1]) (rest := []) (st' := [.int r]) (w := (some (.int r))) dX9_knobWas_49 cw_X9_84 hd1 gc_0 rfl rfl rfl (Nat.le_of_ble_eq_true rfl) (tc_LB_error (d - 1) hh_0 1 _ _ _ h) rfl ?_
              exact x_iret (pc := 52) dX9_knobWas_52
      · have h := aw_pos h c_9
        refine x_aload_n (pc := 21) 0 dX9_knobWas_21 rfl rfl ?_
        refine x_iconst (pc := 22) (w := 1) dX9_knobWas_22 ic_1 ?_
        refine x_callV (pc := 23) (As := [.int 1]) (rest := []) (st' := [.int r]) (w := (some (.int r))) dX9_knobWas_23 cw_X9_84 hd1 gc_0 rfl rfl rfl (Nat.le_of_ble_eq_true rfl) (tc_LB_error (d - 1) hh_0 1 _ _ _ h) rfl ?_
        exact x_iret (pc := 26) dX9_knobWas_26
def fc_LB_row (p1 : Int32) (p2 : Int32) (p3 : Int32) (M : aw_M) : Option (Int32 × aw_M) :=
  if p1 < 1 then (
    fc_LB_error 1 M
  ) else (
    if (4 : Int32) < p1 then (
      fc_LB_error 1 M
    ) else (
      if (M 1 5) < p1 then (
        fc_LB_error 1 M
      ) else (
        if p2 < 1 then (
          fc_LB_error 1 M
        ) else (
          if (20 : Int32) < p2 then (
            fc_LB_error 1 M
          ) else (
            aw_bi (fc_LB_isPart p3 M) fun r_7 M_8 => (
            if r_7 = 0 then (
              fc_LB_error 1 M_8
            ) else (
              aw_bv (fc_LB_refreshGauges  M_8) fun M_11 => (
              aw_bv (fc_Ma_copyFrom 2 0 M_11) fun M_13 => (
              aw_bv (fc_Ro_begin (M_13 1 5) p1 p2 M_13) fun M_15 => (
              aw_bv (FX_fc_Ro_extend 7 0 0 0 0 M_15) fun M_17 => (
              if p3 = 0 then (
                some ((M_17 52 5), M_17)
              ) else (
                some ((M_17 52 6), M_17)
              )
              )
              )
              )
              )
            )
            )
          )
        )
      )
    )
  )
set_option maxRecDepth 20000 in
theorem tc_LB_row {l : Launch} {D : va_G} {cy : Nat → ClassId} {ad : Nat → Nat} {A : Nat → Prop} (d : Nat) (hd : 50 ≤ d) (p1 : Int32) (p2 : Int32) (p3 : Int32) (M : aw_M) (r : Int32) (M1 : aw_M) (h : fc_LB_row p1 p2 p3 M = some (r, M1)) : AX l D cy ad A gc_G yX9_row cX9_row 4 (some .int) d [.ref (ad 0), .int p1, .int p2, .int p3] M (some (.int r)) M1 := by
  have hd1 : (d - 1) + 1 ≤ d := by omega
  have hm1 : 1 ≤ d := by omega
  have hh_0 : 0 ≤ d - 1 := by omega
  have hh_2 : 2 ≤ d - 1 := by omega
  have hh_4 : 4 ≤ d - 1 := by omega
  have hh_49 : 49 ≤ d - 1 := by omega
  refine AX.of (own := RX9) (by decide +kernel) rfl (Nat.le_of_ble_eq_true rfl) ?_
  unfold fc_LB_row at h
  show AW l D cy ad A gc_G RX9 cX9_row 4 (some .int) d (some (.int r)) M1 0 [(0, .ref (ad 0)), (1, .int p1), (2, .int p2), (3, .int p3)] [] M
  refine x_iload_n (pc := 0) 1 dX9_row_0 rfl rfl ?_
  refine x_iconst (pc := 1) (w := 1) dX9_row_1 ic_1 ?_
  refine x_icmp_lt (pc := 2) 39 dX9_row_2 (by decide) (fun c_1 => ?_) (fun c_1 => ?_)
  · have h := aw_pos h c_1
    refine x_aload_n (pc := 39) 0 dX9_row_39 rfl rfl ?_
    refine x_iconst (pc := 40) (w := 1) dX9_row_40 ic_1 ?_
    refine x_callV (pc := 41) (As := [.int 1]) (rest := []) (st' := [.int r]) (w := (some (.int r))) dX9_row_41 cw_X9_84 hd1 gc_0 rfl rfl rfl (Nat.le_of_ble_eq_true rfl) (tc_LB_error (d - 1) hh_0 1 _ _ _ h) rfl ?_
    exact x_iret (pc := 44) dX9_row_44
  · have h := aw_neg h c_1
    refine x_iload_n (pc := 5) 1 dX9_row_5 rfl rfl ?_
    refine x_iconst (pc := 6) (w := 4) dX9_row_6 ic_4 ?_
    refine x_icmp_gt (pc := 7) 39 dX9_row_7 (by decide) (fun c_2 => ?_) (fun c_2 => ?_)
    · have h := aw_pos h c_2
      refine x_aload_n (pc := 39) 0 dX9_row_39 rfl rfl ?_
      refine x_iconst (pc := 40) (w := 1) dX9_row_40 ic_1 ?_
      refine x_callV (pc := 41) (As := [.int 1]) (rest := []) (st' := [.int r]) (w := (some (.int r))) dX9_row_41 cw_X9_84 hd1 gc_0 rfl rfl rfl (Nat.le_of_ble_eq_true rfl) (tc_LB_error (d - 1) hh_0 1 _ _ _ h) rfl ?_
      exact x_iret (pc := 44) dX9_row_44
    · have h := aw_neg h c_2
      refine x_iload_n (pc := 10) 1 dX9_row_10 rfl rfl ?_
      refine x_aload_n (pc := 11) 0 dX9_row_11 rfl rfl ?_
      refine x_get (pc := 12) dX9_row_12 lk_X9_10 gc_0 rfl rfl ?_
      refine x_get (pc := 15) dX9_row_15 lk_X9_104 gc_1 rfl rfl ?_
      refine x_icmp_gt (pc := 18) 39 dX9_row_18 (by decide) (fun c_3 => ?_) (fun c_3 => ?_)
      · have h := aw_pos h c_3
        refine x_aload_n (pc := 39) 0 dX9_row_39 rfl rfl ?_
        refine x_iconst (pc := 40) (w := 1) dX9_row_40 ic_1 ?_
        refine x_callV (pc := 41) (As := [.int 1]) (rest := []) (st' := [.int r]) (w := (some (.int r))) dX9_row_41 cw_X9_84 hd1 gc_0 rfl rfl rfl (Nat.le_of_ble_eq_true rfl) (tc_LB_error (d - 1) hh_0 1 _ _ _ h) rfl ?_
        exact x_iret (pc := 44) dX9_row_44
      · have h := aw_neg h c_3
        refine x_iload_n (pc := 21) 2 dX9_row_21 rfl rfl ?_
        refine x_iconst (pc := 22) (w := 1) dX9_row_22 ic_1 ?_
        refine x_icmp_lt (pc := 23) 39 dX9_row_23 (by decide) (fun c_4 => ?_) (fun c_4 => ?_)
        · have h := aw_pos h c_4
          refine x_aload_n (pc := 39) 0 dX9_row_39 rfl rfl ?_
          refine x_iconst (pc := 40) (w := 1) dX9_row_40 ic_1 ?_
          refine x_callV (pc := 41) (As := [.int 1]) (rest := []) (st' := [.int r]) (w := (some (.int r))) dX9_row_41 cw_X9_84 hd1 gc_0 rfl rfl rfl (Nat.le_of_ble_eq_true rfl) (tc_LB_error (d - 1) hh_0 1 _ _ _ h) rfl ?_
          exact x_iret (pc := 44) dX9_row_44
        · have h := aw_neg h c_4
          refine x_iload_n (pc := 26) 2 dX9_row_26 rfl rfl ?_
          refine x_bipush (pc := 27) (w := 20) dX9_row_27 bi_20 ?_
          refine x_icmp_gt (pc := 29) 39 dX9_row_29 (by decide) (fun c_5 => ?_) (fun c_5 => ?_)
          · have h := aw_pos h c_5
            refine x_aload_n (pc := 39) 0 dX9_row_39 rfl rfl ?_
            refine x_iconst (pc := 40) (w := 1) dX9_row_40 ic_1 ?_
            refine x_callV (pc := 41) (As := [.int 1]) (rest := []) (st' := [.int r]) (w := (some (.int r))) dX9_row_41 cw_X9_84 hd1 gc_0 rfl rfl rfl (Nat.le_of_ble_eq_true rfl) (tc_LB_error (d - 1) hh_0 1 _ _ _ h) rfl ?_
            exact x_iret (pc := 44) dX9_row_44
          · have h := aw_neg h c_5
            refine x_iload_n (pc := 32) 3 dX9_row_32 rfl rfl ?_
            obtain ⟨r_7, M_8, e_6, h⟩ := aw_bi_e h
            refine x_callS (pc := 33) (As := [.int p3]) (rest := []) (st' := [.int r_7]) (w := (some (.int r_7))) dX9_row_33 cw_X9_232 hd1 rfl rfl (Nat.le_of_ble_eq_true rfl) (tc_LB_isPart (d - 1) hh_0 p3 _ _ _ e_6) rfl ?_
            refine x_if_ne (pc := 36) 45 dX9_row_36 (by decide) (fun c_9 => ?_) (fun c_9 => ?_)
            · have h := aw_neg h c_9
              refine x_aload_n (pc := 45) 0 dX9_row_45 rfl rfl ?_
              obtain ⟨M_11, e_10, h⟩ := aw_bv_e h
              refine x_callV (pc := 46) (As := []) (rest := []) (st' := []) (w := none) dX9_row_46 cw_X9_216 hd1 gc_0 rfl rfl rfl (Nat.le_of_ble_eq_true rfl) (tc_LB_refreshGauges (d - 1) hh_4  _  _ e_10) rfl ?_
              refine x_aload_n (pc := 49) 0 dX9_row_49 rfl rfl ?_
              refine x_get (pc := 50) dX9_row_50 lk_X9_26 gc_0 rfl rfl ?_
              refine x_aload_n (pc := 53) 0 dX9_row_53 rfl rfl ?_
              refine x_get (pc := 54) dX9_row_54 lk_X9_10 gc_0 rfl rfl ?_
              refine x_get (pc := 57) dX9_row_57 lk_X9_87 gc_1 rfl rfl ?_
              obtain ⟨M_13, e_12, h⟩ := aw_bv_e h
              refine x_callV (pc := 60) (As := [.ref (ad 3)]) (rest := []) (st' := []) (w := none) dX9_row_60 cw_X9_222 hd1 (gc_mach (i := 2) (by decide)) rfl rfl rfl (Nat.le_of_ble_eq_true rfl) (tc_Ma_copyFrom (d - 1) hh_0 2 (by decide) 0 (by decide) _  _ e_12) rfl ?_
              refine x_aload_n (pc := 63) 0 dX9_row_63 rfl rfl ?_
              refine x_get (pc := 64) dX9_row_64 lk_X9_52 gc_0 rfl rfl ?_
              refine x_aload_n (pc := 67) 0 dX9_row_67 rfl rfl ?_
              refine x_get (pc := 68) dX9_row_68 lk_X9_10 gc_0 rfl rfl ?_
              refine x_get (pc := 71) dX9_row_71 lk_X9_104 gc_1 rfl rfl ?_
              refine x_iload_n (pc := 74) 1 dX9_row_74 rfl rfl ?_
              refine x_iload_n (pc := 75) 2 dX9_row_75 rfl rfl ?_
              obtain ⟨M_15, e_14, h⟩ := aw_bv_e h
              refine x_callV (pc := 76) (As := [.int (M_13 1 5), .int p1, .int p2]) (rest := []) (st' := []) (w := none) dX9_row_76 cw_X9_273 hd1 gc_52 rfl rfl rfl (Nat.le_of_ble_eq_true rfl) (tc_Ro_begin (d - 1) hh_2 (M_13 1 5) p1 p2 _  _ e_14) rfl ?_
              refine x_aload_n (pc := 79) 0 dX9_row_79 rfl rfl ?_
              refine x_get (pc := 80) dX9_row_80 lk_X9_52 gc_0 rfl rfl ?_
              refine x_iconst (pc := 83) (w := 0) dX9_row_83 ic_0 ?_
              refine x_iconst (pc := 84) (w := 0) dX9_row_84 ic_0 ?_
              refine x_iconst (pc := 85) (w := 0) dX9_row_85 ic_0 ?_
              refine x_iconst (pc := 86) (w := 0) dX9_row_86 ic_0 ?_
              obtain ⟨M_17, e_16, h⟩ := aw_bv_e h
              refine x_callVN (pc := 87) (As := [.int 0, .int 0, .int 0, .int 0]) (rest := []) (st' := []) (w := none) (host := "LoopsBelow") dX9_row_87 (by decide +kernel) cw_X9_276 hd1 gc_52 rfl rfl rfl (Nat.le_of_ble_eq_true rfl) ((FX_fc_Ro_extend_ok 7) (d - 1) hh_49 0 0 0 0 _  _ e_16) rfl ?_
              refine x_iload_n (pc := 90) 3 dX9_row_90 rfl rfl ?_
              refine x_if_ne (pc := 91) 104 dX9_row_91 (by decide) (fun c_18 => ?_) (fun c_18 => ?_)
              · have h := aw_neg h c_18
                refine x_aload_n (pc := 104) 0 dX9_row_104 rfl rfl ?_
                refine x_get (pc := 105) dX9_row_105 lk_X9_52 gc_0 rfl rfl ?_
                refine x_get (pc := 108) dX9_row_108 lk_X9_283 gc_52 rfl rfl ?_
                obtain ⟨rfl, rfl⟩ := aw_so h
                exact x_iret (pc := 111) dX9_row_111
              · have h := aw_pos h c_18
                refine x_aload_n (pc := 94) 0 dX9_row_94 rfl rfl ?_
                refine x_get (pc := 95) dX9_row_95 lk_X9_52 gc_0 rfl rfl ?_
                refine x_get (pc := 98) dX9_row_98 lk_X9_280 gc_52 rfl rfl ?_
                refine x_goto (pc := 101) 111 dX9_row_101 (by decide) ?_
                obtain ⟨rfl, rfl⟩ := aw_so h
                exact x_iret (pc := 111) dX9_row_111
            · have h := aw_pos h c_9
              refine x_aload_n (pc := 39) 0 dX9_row_39 rfl rfl ?_
              refine x_iconst (pc := 40) (w := 1) dX9_row_40 ic_1 ?_
              refine x_callV (pc := 41) (As := [.int 1]) (rest := []) (st' := [.int r]) (w := (some (.int r))) dX9_row_41 cw_X9_84 hd1 gc_0 rfl rfl rfl (Nat.le_of_ble_eq_true rfl) (tc_LB_error (d - 1) hh_0 1 _ _ _ h) rfl ?_
              exact x_iret (pc := 44) dX9_row_44
def fc_LB_commonOfTen (p0 : Int32) (M : aw_M) : Option (Int32 × aw_M) :=
  if (aw_rem p0 10) = 0 then (
    some (10, M)
  ) else (
    if (aw_rem p0 5) = 0 then (
      some (5, M)
    ) else (
      if (aw_rem p0 2) = 0 then (
        some (2, M)
      ) else (
        some (1, M)
      )
    )
  )
set_option maxRecDepth 20000 in
theorem tc_LB_commonOfTen {l : Launch} {D : va_G} {cy : Nat → ClassId} {ad : Nat → Nat} {A : Nat → Prop} (d : Nat) (hd : 0 ≤ d) (p0 : Int32) (M : aw_M) (r : Int32) (M1 : aw_M) (h : fc_LB_commonOfTen p0 M = some (r, M1)) : AX l D cy ad A gc_G yX9_commonOfTen cX9_commonOfTen 1 (some .int) d [.int p0] M (some (.int r)) M1 := by
  refine AX.of (own := RX9) (by decide +kernel) rfl (Nat.le_of_ble_eq_true rfl) ?_
  unfold fc_LB_commonOfTen at h
  show AW l D cy ad A gc_G RX9 cX9_commonOfTen 1 (some .int) d (some (.int r)) M1 0 [(0, .int p0)] [] M
  refine x_iload_n (pc := 0) 0 dX9_commonOfTen_0 rfl rfl ?_
  refine x_bipush (pc := 1) (w := 10) dX9_commonOfTen_1 bi_10 ?_
  refine x_irem (pc := 3) dX9_commonOfTen_3 (by decide) ?_
  refine x_if_ne (pc := 4) 10 dX9_commonOfTen_4 (by decide) (fun c_1 => ?_) (fun c_1 => ?_)
  · have h := aw_neg h c_1
    refine x_iload_n (pc := 10) 0 dX9_commonOfTen_10 rfl rfl ?_
    refine x_iconst (pc := 11) (w := 5) dX9_commonOfTen_11 ic_5 ?_
    refine x_irem (pc := 12) dX9_commonOfTen_12 (by decide) ?_
    refine x_if_ne (pc := 13) 18 dX9_commonOfTen_13 (by decide) (fun c_2 => ?_) (fun c_2 => ?_)
    · have h := aw_neg h c_2
      refine x_iload_n (pc := 18) 0 dX9_commonOfTen_18 rfl rfl ?_
      refine x_iconst (pc := 19) (w := 2) dX9_commonOfTen_19 ic_2 ?_
      refine x_irem (pc := 20) dX9_commonOfTen_20 (by decide) ?_
      refine x_if_ne (pc := 21) 28 dX9_commonOfTen_21 (by decide) (fun c_3 => ?_) (fun c_3 => ?_)
      · have h := aw_neg h c_3
        refine x_iconst (pc := 28) (w := 1) dX9_commonOfTen_28 ic_1 ?_
        obtain ⟨rfl, rfl⟩ := aw_so h
        exact x_iret (pc := 29) dX9_commonOfTen_29
      · have h := aw_pos h c_3
        refine x_iconst (pc := 24) (w := 2) dX9_commonOfTen_24 ic_2 ?_
        refine x_goto (pc := 25) 29 dX9_commonOfTen_25 (by decide) ?_
        obtain ⟨rfl, rfl⟩ := aw_so h
        exact x_iret (pc := 29) dX9_commonOfTen_29
    · have h := aw_pos h c_2
      refine x_iconst (pc := 16) (w := 5) dX9_commonOfTen_16 ic_5 ?_
      obtain ⟨rfl, rfl⟩ := aw_so h
      exact x_iret (pc := 17) dX9_commonOfTen_17
  · have h := aw_pos h c_1
    refine x_bipush (pc := 7) (w := 10) dX9_commonOfTen_7 bi_10 ?_
    obtain ⟨rfl, rfl⟩ := aw_so h
    exact x_iret (pc := 9) dX9_commonOfTen_9
def fc_LB_odds_L47 : Nat → Int32 → Nat → Int32 → Int32 → aw_M → Option (Int32 × aw_M)
  | 0, _, _, _, _, _ => none
  | n + 1, p2, i3, p4, p5, M =>
    if (9 : Int32) < p5 then (
      if p2 = 0 then (
        aw_bi (fc_LB_commonOfTen p4 M) fun r_22 M_23 => (
        if r_22 = 0 then none else (
        some ((p4 / r_22), M_23)
        )
        )
      ) else (
        aw_bi (fc_LB_commonOfTen p4 M) fun r_18 M_19 => (
        if r_18 = 0 then none else (
        some ((10 / r_18), M_19)
        )
        )
      )
    ) else (
      aw_bi (fc_Ga_shows i3 2 (aw_u M 5 5 p5)) fun r_26 M_27 => (
      if r_26 = 0 then (
        fc_LB_odds_L47 n p2 i3 (p4 + 1) (p5 + 1) M_27
      ) else (
        fc_LB_odds_L47 n p2 i3 p4 (p5 + 1) M_27
      )
      )
    )
theorem fc_LB_odds_L47_s (n : Nat) (p2 : Int32) (i3 : Nat) (p4 : Int32) (p5 : Int32) (M : aw_M) : fc_LB_odds_L47 (n + 1) p2 i3 p4 p5 M = (
    if (9 : Int32) < p5 then (
      if p2 = 0 then (
        aw_bi (fc_LB_commonOfTen p4 M) fun r_22 M_23 => (
        if r_22 = 0 then none else (
        some ((p4 / r_22), M_23)
        )
        )
      ) else (
        aw_bi (fc_LB_commonOfTen p4 M) fun r_18 M_19 => (
        if r_18 = 0 then none else (
        some ((10 / r_18), M_19)
        )
        )
      )
    ) else (
      aw_bi (fc_Ga_shows i3 2 (aw_u M 5 5 p5)) fun r_26 M_27 => (
      if r_26 = 0 then (
        fc_LB_odds_L47 n p2 i3 (p4 + 1) (p5 + 1) M_27
      ) else (
        fc_LB_odds_L47 n p2 i3 p4 (p5 + 1) M_27
      )
      )
    )
    ) := rfl
set_option maxRecDepth 20000 in
theorem tc_LB_odds_L47 {l : Launch} {D : va_G} {cy : Nat → ClassId} {ad : Nat → Nat} {A : Nat → Prop} (d : Nat) (hd : 5 ≤ d) : ∀ (n : Nat) (p2 : Int32) (i3 : Nat) (h3 : i3 < 6) (p4 : Int32) (p5 : Int32) (M : aw_M) (r : Int32) (M1 : aw_M), fc_LB_odds_L47 n p2 i3 p4 p5 M = some (r, M1) → AW l D cy ad A gc_G RX9 cX9_odds 6 (some .int) d (some (.int r)) M1 47 [(0, .ref (ad 0)), (2, .int p2), (3, .ref (ad (39 + i3))), (4, .int p4), (5, .int p5)] [] M := by
  have hd1 : (d - 1) + 1 ≤ d := by omega
  have hm1 : 1 ≤ d := by omega
  have hh_0 : 0 ≤ d - 1 := by omega
  have hh_4 : 4 ≤ d - 1 := by omega
  intro n
  induction n with
  | zero => intro p2 i3 h3 p4 p5 M r M1 h; cases h
  | succ n ih =>
    intro p2 i3 h3 p4 p5 M r M1 h
    rw [fc_LB_odds_L47_s] at h
    refine x_iload (pc := 47) dX9_odds_47 rfl ?_
    refine x_bipush (pc := 49) (w := 9) dX9_odds_49 bi_9 ?_
    refine x_icmp_gt (pc := 51) 83 dX9_odds_51 (by decide) (fun c_15 => ?_) (fun c_15 => ?_)
    · have h := aw_pos h c_15
      refine x_iload_n (pc := 83) 2 dX9_odds_83 rfl rfl ?_
      refine x_if_ne (pc := 84) 98 dX9_odds_84 (by decide) (fun c_16 => ?_) (fun c_16 => ?_)
      · have h := aw_neg h c_16
        refine x_bipush (pc := 98) (w := 10) dX9_odds_98 bi_10 ?_
        refine x_iload (pc := 100) dX9_odds_100 rfl ?_
        obtain ⟨r_18, M_19, e_17, h⟩ := aw_bi_e h
        refine x_callS (pc := 102) (As := [.int p4]) (rest := [.int 10]) (st' := [.int r_18, .int 10]) (w := (some (.int r_18))) dX9_odds_102 cw_X9_289 hd1 rfl rfl (Nat.le_of_ble_eq_true rfl) (tc_LB_commonOfTen (d - 1) hh_0 p4 _ _ _ e_17) rfl ?_
        obtain ⟨c_20, h⟩ := aw_ck h
        refine x_idiv (pc := 105) dX9_odds_105 c_20 ?_
        obtain ⟨rfl, rfl⟩ := aw_so h
        exact x_iret (pc := 106) dX9_odds_106
      · have h := aw_pos h c_16
        refine x_iload (pc := 87) dX9_odds_87 rfl ?_
        refine x_iload (pc := 89) dX9_odds_89 rfl ?_
        obtain ⟨r_22, M_23, e_21, h⟩ := aw_bi_e h
        refine x_callS (pc := 91) (As := [.int p4]) (rest := [.int p4]) (st' := [.int r_22, .int p4]) (w := (some (.int r_22))) dX9_odds_91 cw_X9_289 hd1 rfl rfl (Nat.le_of_ble_eq_true rfl) (tc_LB_commonOfTen (d - 1) hh_0 p4 _ _ _ e_21) rfl ?_
        obtain ⟨c_24, h⟩ := aw_ck h
        refine x_idiv (pc := 94) dX9_odds_94 c_24 ?_
        refine x_goto (pc := 95) 106 dX9_odds_95 (by decide) ?_
        obtain ⟨rfl, rfl⟩ := aw_so h
        exact x_iret (pc := 106) dX9_odds_106
    · have h := aw_neg h c_15
      refine x_aload_n (pc := 54) 0 dX9_odds_54 rfl rfl ?_
      refine x_get (pc := 55) dX9_odds_55 lk_X9_26 gc_0 rfl rfl ?_
      refine x_iload (pc := 58) dX9_odds_58 rfl ?_
      refine x_put (pc := 60) (x := p5) dX9_odds_60 lk_X9_286 lp_X4_5 (gc_mach (i := 2) (by decide)) rfl rfl rfl rfl ?_
      refine x_aload_n (pc := 63) 3 dX9_odds_63 rfl rfl ?_
      refine x_aload_n (pc := 64) 0 dX9_odds_64 rfl rfl ?_
      refine x_get (pc := 65) dX9_odds_65 lk_X9_26 gc_0 rfl rfl ?_
      obtain ⟨r_26, M_27, e_25, h⟩ := aw_bi_e h
      refine x_callV (pc := 68) (As := [.ref (ad 5)]) (rest := []) (st' := [.int r_26]) (w := (some (.int r_26))) dX9_odds_68 cw_X9_144 hd1 (gc_gauge (i := i3) h3) rfl rfl rfl (Nat.le_of_ble_eq_true rfl) (tc_Ga_shows (d - 1) hh_4 i3 h3 2 (by decide) _ _ _ e_25) rfl ?_
      refine x_if_ne (pc := 71) 77 dX9_odds_71 (by decide) (fun c_28 => ?_) (fun c_28 => ?_)
      · have h := aw_neg h c_28
        refine x_iinc (pc := 77) (p5 + 1) [(5, .int (p5 + 1)), (0, .ref (ad 0)), (2, .int p2), (3, .ref (ad (39 + i3))), (4, .int p4)] dX9_odds_77 rfl (congrArg (fun z => p5 + z) ic_1) (by decide) rfl ?_
        refine x_goto (pc := 80) 47 dX9_odds_80 (by decide) ?_
        refine x_lv [1, 2, 3, 4, 0] [(0, .ref (ad 0)), (2, .int p2), (3, .ref (ad (39 + i3))), (4, .int p4), (5, .int (p5 + 1))] rfl ?_
        exact ih p2 i3 h3 p4 (p5 + 1) _ _ _ h
      · have h := aw_pos h c_28
        refine x_iinc (pc := 74) (p4 + 1) [(4, .int (p4 + 1)), (0, .ref (ad 0)), (2, .int p2), (3, .ref (ad (39 + i3))), (5, .int p5)] dX9_odds_74 rfl (congrArg (fun z => p4 + z) ic_1) (by decide) rfl ?_
        refine x_iinc (pc := 77) (p5 + 1) [(5, .int (p5 + 1)), (4, .int (p4 + 1)), (0, .ref (ad 0)), (2, .int p2), (3, .ref (ad (39 + i3)))] dX9_odds_77 rfl (congrArg (fun z => p5 + z) ic_1) (by decide) rfl ?_
        refine x_goto (pc := 80) 47 dX9_odds_80 (by decide) ?_
        refine x_lv [2, 3, 4, 1, 0] [(0, .ref (ad 0)), (2, .int p2), (3, .ref (ad (39 + i3))), (4, .int (p4 + 1)), (5, .int (p5 + 1))] rfl ?_
        exact ih p2 i3 h3 (p4 + 1) (p5 + 1) _ _ _ h
def fc_LB_odds (p1 : Int32) (p2 : Int32) (M : aw_M) : Option (Int32 × aw_M) :=
  aw_bi (fc_LB_hasCloth p1 M) fun r_2 M_3 => (
  if r_2 = 0 then (
    fc_LB_error 1 M_3
  ) else (
    aw_bi (fc_LB_isPart p2 M_3) fun r_6 M_7 => (
    if r_6 = 0 then (
      fc_LB_error 1 M_7
    ) else (
      aw_br (fc_LB_gaugeOf p1 M_7) fun i_10 M_11 => (
      if 6 ≤ i_10 then none else (
      aw_bv (fc_Ma_copyFrom 2 0 M_11) fun M_14 => (
      fc_LB_odds_L47  2000 p2 i_10 0 0 M_14
      )
      )
      )
    )
    )
  )
  )
set_option maxRecDepth 20000 in
theorem tc_LB_odds {l : Launch} {D : va_G} {cy : Nat → ClassId} {ad : Nat → Nat} {A : Nat → Prop} (d : Nat) (hd : 5 ≤ d) (p1 : Int32) (p2 : Int32) (M : aw_M) (r : Int32) (M1 : aw_M) (h : fc_LB_odds p1 p2 M = some (r, M1)) : AX l D cy ad A gc_G yX9_odds cX9_odds 6 (some .int) d [.ref (ad 0), .int p1, .int p2] M (some (.int r)) M1 := by
  have hd1 : (d - 1) + 1 ≤ d := by omega
  have hm1 : 1 ≤ d := by omega
  have hh_0 : 0 ≤ d - 1 := by omega
  have hh_4 : 4 ≤ d - 1 := by omega
  refine AX.of (own := RX9) (by decide +kernel) rfl (Nat.le_of_ble_eq_true rfl) ?_
  unfold fc_LB_odds at h
  show AW l D cy ad A gc_G RX9 cX9_odds 6 (some .int) d (some (.int r)) M1 0 [(0, .ref (ad 0)), (1, .int p1), (2, .int p2)] [] M
  refine x_aload_n (pc := 0) 0 dX9_odds_0 rfl rfl ?_
  refine x_iload_n (pc := 1) 1 dX9_odds_1 rfl rfl ?_
  obtain ⟨r_2, M_3, e_1, h⟩ := aw_bi_e h
  refine x_callV (pc := 2) (As := [.int p1]) (rest := []) (st' := [.int r_2]) (w := (some (.int r_2))) dX9_odds_2 cw_X9_112 hd1 gc_0 rfl rfl rfl (Nat.le_of_ble_eq_true rfl) (tc_LB_hasCloth (d - 1) hh_0 p1 _ _ _ e_1) rfl ?_
  refine x_if_eq (pc := 5) 15 dX9_odds_5 (by decide) (fun c_4 => ?_) (fun c_4 => ?_)
  · have h := aw_pos h c_4
    refine x_aload_n (pc := 15) 0 dX9_odds_15 rfl rfl ?_
    refine x_iconst (pc := 16) (w := 1) dX9_odds_16 ic_1 ?_
    refine x_callV (pc := 17) (As := [.int 1]) (rest := []) (st' := [.int r]) (w := (some (.int r))) dX9_odds_17 cw_X9_84 hd1 gc_0 rfl rfl rfl (Nat.le_of_ble_eq_true rfl) (tc_LB_error (d - 1) hh_0 1 _ _ _ h) rfl ?_
    exact x_iret (pc := 20) dX9_odds_20
  · have h := aw_neg h c_4
    refine x_iload_n (pc := 8) 2 dX9_odds_8 rfl rfl ?_
    obtain ⟨r_6, M_7, e_5, h⟩ := aw_bi_e h
    refine x_callS (pc := 9) (As := [.int p2]) (rest := []) (st' := [.int r_6]) (w := (some (.int r_6))) dX9_odds_9 cw_X9_232 hd1 rfl rfl (Nat.le_of_ble_eq_true rfl) (tc_LB_isPart (d - 1) hh_0 p2 _ _ _ e_5) rfl ?_
    refine x_if_ne (pc := 12) 21 dX9_odds_12 (by decide) (fun c_8 => ?_) (fun c_8 => ?_)
    · have h := aw_neg h c_8
      refine x_aload_n (pc := 21) 0 dX9_odds_21 rfl rfl ?_
      refine x_iload_n (pc := 22) 1 dX9_odds_22 rfl rfl ?_
      obtain ⟨i_10, M_11, e_9, h⟩ := aw_br_e h
      obtain ⟨c_12, h⟩ := aw_ck h
      refine x_callV (pc := 23) (As := [.int p1]) (rest := []) (st' := [.ref (ad (39 + i_10))]) (w := (some (.ref (ad (39 + i_10))))) dX9_odds_23 cw_X9_130 hd1 gc_0 rfl rfl rfl (Nat.le_of_ble_eq_true rfl) (tc_LB_gaugeOf (d - 1) hh_4 p1 _ _ _ e_9) rfl ?_
      refine x_astore_n (pc := 26) 3 [(3, .ref (ad (39 + i_10))), (0, .ref (ad 0)), (1, .int p1), (2, .int p2)] dX9_odds_26 rfl (by decide) rfl ?_
      refine x_aload_n (pc := 27) 0 dX9_odds_27 rfl rfl ?_
      refine x_get (pc := 28) dX9_odds_28 lk_X9_26 gc_0 rfl rfl ?_
      refine x_aload_n (pc := 31) 0 dX9_odds_31 rfl rfl ?_
      refine x_get (pc := 32) dX9_odds_32 lk_X9_10 gc_0 rfl rfl ?_
      refine x_get (pc := 35) dX9_odds_35 lk_X9_87 gc_1 rfl rfl ?_
      obtain ⟨M_14, e_13, h⟩ := aw_bv_e h
      refine x_callV (pc := 38) (As := [.ref (ad 3)]) (rest := []) (st' := []) (w := none) dX9_odds_38 cw_X9_222 hd1 (gc_mach (i := 2) (by decide)) rfl rfl rfl (Nat.le_of_ble_eq_true rfl) (tc_Ma_copyFrom (d - 1) hh_0 2 (by decide) 0 (by decide) _  _ e_13) rfl ?_
      refine x_iconst (pc := 41) (w := 0) dX9_odds_41 ic_0 ?_
      refine x_istore (pc := 42) 4 [(4, .int 0), (3, .ref (ad (39 + i_10))), (0, .ref (ad 0)), (1, .int p1), (2, .int p2)] dX9_odds_42 (by decide) rfl ?_
      refine x_iconst (pc := 44) (w := 0) dX9_odds_44 ic_0 ?_
      refine x_istore (pc := 45) 5 [(5, .int 0), (4, .int 0), (3, .ref (ad (39 + i_10))), (0, .ref (ad 0)), (1, .int p1), (2, .int p2)] dX9_odds_45 (by decide) rfl ?_
      refine x_lv [3, 5, 2, 1, 0] [(0, .ref (ad 0)), (2, .int p2), (3, .ref (ad (39 + i_10))), (4, .int 0), (5, .int 0)] rfl ?_
      exact tc_LB_odds_L47 d hd  2000 p2 i_10 (Nat.lt_of_not_le c_12) 0 0 _ _ _ h
    · have h := aw_pos h c_8
      refine x_aload_n (pc := 15) 0 dX9_odds_15 rfl rfl ?_
      refine x_iconst (pc := 16) (w := 1) dX9_odds_16 ic_1 ?_
      refine x_callV (pc := 17) (As := [.int 1]) (rest := []) (st' := [.int r]) (w := (some (.int r))) dX9_odds_17 cw_X9_84 hd1 gc_0 rfl rfl rfl (Nat.le_of_ble_eq_true rfl) (tc_LB_error (d - 1) hh_0 1 _ _ _ h) rfl ?_
      exact x_iret (pc := 20) dX9_odds_20
def fc_LB_seed (p1 : Int32) (M : aw_M) : Option (Int32 × aw_M) :=
  some ((M 1 9), (aw_u M 1 9 p1))
set_option maxRecDepth 20000 in
theorem tc_LB_seed {l : Launch} {D : va_G} {cy : Nat → ClassId} {ad : Nat → Nat} {A : Nat → Prop} (d : Nat) (hd : 0 ≤ d) (p1 : Int32) (M : aw_M) (r : Int32) (M1 : aw_M) (h : fc_LB_seed p1 M = some (r, M1)) : AX l D cy ad A gc_G yX9_seed cX9_seed 3 (some .int) d [.ref (ad 0), .int p1] M (some (.int r)) M1 := by
  refine AX.of (own := RX9) (by decide +kernel) rfl (Nat.le_of_ble_eq_true rfl) ?_
  unfold fc_LB_seed at h
  show AW l D cy ad A gc_G RX9 cX9_seed 3 (some .int) d (some (.int r)) M1 0 [(0, .ref (ad 0)), (1, .int p1)] [] M
  refine x_aload_n (pc := 0) 0 dX9_seed_0 rfl rfl ?_
  refine x_get (pc := 1) dX9_seed_1 lk_X9_10 gc_0 rfl rfl ?_
  refine x_get (pc := 4) dX9_seed_4 lk_X9_292 gc_1 rfl rfl ?_
  refine x_istore_n (pc := 7) 2 [(2, .int (M 1 9)), (0, .ref (ad 0)), (1, .int p1)] dX9_seed_7 rfl (by decide) rfl ?_
  refine x_aload_n (pc := 8) 0 dX9_seed_8 rfl rfl ?_
  refine x_get (pc := 9) dX9_seed_9 lk_X9_10 gc_0 rfl rfl ?_
  refine x_iload_n (pc := 12) 1 dX9_seed_12 rfl rfl ?_
  refine x_put (pc := 13) (x := p1) dX9_seed_13 lk_X9_292 lp_X7_9 gc_1 rfl rfl rfl rfl ?_
  refine x_iload_n (pc := 16) 2 dX9_seed_16 rfl rfl ?_
  obtain ⟨rfl, rfl⟩ := aw_so h
  exact x_iret (pc := 17) dX9_seed_17
def fc_LB_voice (p1 : Int32) (p2 : Int32) (p3 : Int32) (M : aw_M) : Option (Int32 × aw_M) :=
  aw_bi (fc_LB_hasCloth p1 M) fun r_2 M_3 => (
  if r_2 = 0 then (
    fc_LB_error 1 M_3
  ) else (
    if p2 < 0 then (
      fc_LB_error 1 M_3
    ) else (
      if p2 < 4 then (
        if aw_in p1 6 then none else (
        fc_Ch_sing p1.toNatClampNeg p1 p2 p3 M_3
        )
      ) else (
        fc_LB_error 1 M_3
      )
    )
  )
  )
set_option maxRecDepth 20000 in
theorem tc_LB_voice {l : Launch} {D : va_G} {cy : Nat → ClassId} {ad : Nat → Nat} {A : Nat → Prop} (d : Nat) (hd : 137 ≤ d) (p1 : Int32) (p2 : Int32) (p3 : Int32) (M : aw_M) (r : Int32) (M1 : aw_M) (h : fc_LB_voice p1 p2 p3 M = some (r, M1)) : AX l D cy ad A gc_G yX9_voice cX9_voice 4 (some .int) d [.ref (ad 0), .int p1, .int p2, .int p3] M (some (.int r)) M1 := by
  have hd1 : (d - 1) + 1 ≤ d := by omega
  have hm1 : 1 ≤ d := by omega
  have hh_0 : 0 ≤ d - 1 := by omega
  have hh_136 : 136 ≤ d - 1 := by omega
  refine AX.of (own := RX9) (by decide +kernel) rfl (Nat.le_of_ble_eq_true rfl) ?_
  unfold fc_LB_voice at h
  show AW l D cy ad A gc_G RX9 cX9_voice 4 (some .int) d (some (.int r)) M1 0 [(0, .ref (ad 0)), (1, .int p1), (2, .int p2), (3, .int p3)] [] M
  refine x_aload_n (pc := 0) 0 dX9_voice_0 rfl rfl ?_
  refine x_iload_n (pc := 1) 1 dX9_voice_1 rfl rfl ?_
  obtain ⟨r_2, M_3, e_1, h⟩ := aw_bi_e h
  refine x_callV (pc := 2) (As := [.int p1]) (rest := []) (st' := [.int r_2]) (w := (some (.int r_2))) dX9_voice_2 cw_X9_112 hd1 gc_0 rfl rfl rfl (Nat.le_of_ble_eq_true rfl) (tc_LB_hasCloth (d - 1) hh_0 p1 _ _ _ e_1) rfl ?_
  refine x_if_eq (pc := 5) 17 dX9_voice_5 (by decide) (fun c_4 => ?_) (fun c_4 => ?_)
  · have h := aw_pos h c_4
    refine x_aload_n (pc := 17) 0 dX9_voice_17 rfl rfl ?_
    refine x_iconst (pc := 18) (w := 1) dX9_voice_18 ic_1 ?_
    refine x_callV (pc := 19) (As := [.int 1]) (rest := []) (st' := [.int r]) (w := (some (.int r))) dX9_voice_19 cw_X9_84 hd1 gc_0 rfl rfl rfl (Nat.le_of_ble_eq_true rfl) (tc_LB_error (d - 1) hh_0 1 _ _ _ h) rfl ?_
    exact x_iret (pc := 22) dX9_voice_22
  · have h := aw_neg h c_4
    refine x_iload_n (pc := 8) 2 dX9_voice_8 rfl rfl ?_
    refine x_if_lt (pc := 9) 17 dX9_voice_9 (by decide) (fun c_5 => ?_) (fun c_5 => ?_)
    · have h := aw_pos h c_5
      refine x_aload_n (pc := 17) 0 dX9_voice_17 rfl rfl ?_
      refine x_iconst (pc := 18) (w := 1) dX9_voice_18 ic_1 ?_
      refine x_callV (pc := 19) (As := [.int 1]) (rest := []) (st' := [.int r]) (w := (some (.int r))) dX9_voice_19 cw_X9_84 hd1 gc_0 rfl rfl rfl (Nat.le_of_ble_eq_true rfl) (tc_LB_error (d - 1) hh_0 1 _ _ _ h) rfl ?_
      exact x_iret (pc := 22) dX9_voice_22
    · have h := aw_neg h c_5
      refine x_iload_n (pc := 12) 2 dX9_voice_12 rfl rfl ?_
      refine x_iconst (pc := 13) (w := 4) dX9_voice_13 ic_4 ?_
      refine x_icmp_lt (pc := 14) 23 dX9_voice_14 (by decide) (fun c_6 => ?_) (fun c_6 => ?_)
      · have h := aw_pos h c_6
        refine x_aload_n (pc := 23) 0 dX9_voice_23 rfl rfl ?_
        refine x_get (pc := 24) dX9_voice_24 lk_X9_66 gc_0 rfl rfl ?_
        refine x_aload_n (pc := 27) 0 dX9_voice_27 rfl rfl ?_
        refine x_get (pc := 28) dX9_voice_28 lk_X9_10 gc_0 rfl rfl ?_
        refine x_get (pc := 31) dX9_voice_31 lk_X9_36 gc_1 rfl rfl ?_
        refine x_iload_n (pc := 34) 1 dX9_voice_34 rfl rfl ?_
        obtain ⟨c_7, h⟩ := aw_ck h
        refine x_aald (pc := 35) dX9_voice_35 gc_6 (fun _ => rfl) c_7 (ga_6 (aw_lt c_7)) ?_
        refine x_iload_n (pc := 36) 1 dX9_voice_36 rfl rfl ?_
        refine x_iload_n (pc := 37) 2 dX9_voice_37 rfl rfl ?_
        refine x_iload_n (pc := 38) 3 dX9_voice_38 rfl rfl ?_
        refine x_callV (pc := 39) (As := [.ref (ad (14 + p1.toNatClampNeg)), .int p1, .int p2, .int p3]) (rest := []) (st' := [.int r]) (w := (some (.int r))) dX9_voice_39 cw_X9_295 hd1 gc_56 rfl rfl rfl (Nat.le_of_ble_eq_true rfl) (tc_Ch_sing (d - 1) hh_136 p1.toNatClampNeg (Nat.lt_of_lt_of_le (aw_lt c_7) (by decide)) p1 p2 p3 _ _ _ h) rfl ?_
        exact x_iret (pc := 42) dX9_voice_42
      · have h := aw_neg h c_6
        refine x_aload_n (pc := 17) 0 dX9_voice_17 rfl rfl ?_
        refine x_iconst (pc := 18) (w := 1) dX9_voice_18 ic_1 ?_
        refine x_callV (pc := 19) (As := [.int 1]) (rest := []) (st' := [.int r]) (w := (some (.int r))) dX9_voice_19 cw_X9_84 hd1 gc_0 rfl rfl rfl (Nat.le_of_ble_eq_true rfl) (tc_LB_error (d - 1) hh_0 1 _ _ _ h) rfl ?_
        exact x_iret (pc := 22) dX9_voice_22
def fc_LB_trace (p1 : Int32) (M : aw_M) : Option (Int32 × aw_M) :=
  if p1 < 0 then (
    fc_LB_error 2 M
  ) else (
    if p1 < (M 56 1) then (
      if aw_in p1 40 then none else (
      some ((M 57 p1.toNatClampNeg), M)
      )
    ) else (
      fc_LB_error 2 M
    )
  )
set_option maxRecDepth 20000 in
theorem tc_LB_trace {l : Launch} {D : va_G} {cy : Nat → ClassId} {ad : Nat → Nat} {A : Nat → Prop} (d : Nat) (hd : 1 ≤ d) (p1 : Int32) (M : aw_M) (r : Int32) (M1 : aw_M) (h : fc_LB_trace p1 M = some (r, M1)) : AX l D cy ad A gc_G yX9_trace cX9_trace 2 (some .int) d [.ref (ad 0), .int p1] M (some (.int r)) M1 := by
  have hd1 : (d - 1) + 1 ≤ d := by omega
  have hm1 : 1 ≤ d := by omega
  have hh_0 : 0 ≤ d - 1 := by omega
  refine AX.of (own := RX9) (by decide +kernel) rfl (Nat.le_of_ble_eq_true rfl) ?_
  unfold fc_LB_trace at h
  show AW l D cy ad A gc_G RX9 cX9_trace 2 (some .int) d (some (.int r)) M1 0 [(0, .ref (ad 0)), (1, .int p1)] [] M
  refine x_iload_n (pc := 0) 1 dX9_trace_0 rfl rfl ?_
  refine x_if_lt (pc := 1) 15 dX9_trace_1 (by decide) (fun c_1 => ?_) (fun c_1 => ?_)
  · have h := aw_pos h c_1
    refine x_aload_n (pc := 15) 0 dX9_trace_15 rfl rfl ?_
    refine x_iconst (pc := 16) (w := 2) dX9_trace_16 ic_2 ?_
    refine x_callV (pc := 17) (As := [.int 2]) (rest := []) (st' := [.int r]) (w := (some (.int r))) dX9_trace_17 cw_X9_84 hd1 gc_0 rfl rfl rfl (Nat.le_of_ble_eq_true rfl) (tc_LB_error (d - 1) hh_0 2 _ _ _ h) rfl ?_
    exact x_iret (pc := 20) dX9_trace_20
  · have h := aw_neg h c_1
    refine x_iload_n (pc := 4) 1 dX9_trace_4 rfl rfl ?_
    refine x_aload_n (pc := 5) 0 dX9_trace_5 rfl rfl ?_
    refine x_get (pc := 6) dX9_trace_6 lk_X9_66 gc_0 rfl rfl ?_
    refine x_get (pc := 9) dX9_trace_9 lk_X9_299 gc_56 rfl rfl ?_
    refine x_icmp_lt (pc := 12) 21 dX9_trace_12 (by decide) (fun c_2 => ?_) (fun c_2 => ?_)
    · have h := aw_pos h c_2
      refine x_aload_n (pc := 21) 0 dX9_trace_21 rfl rfl ?_
      refine x_get (pc := 22) dX9_trace_22 lk_X9_66 gc_0 rfl rfl ?_
      refine x_get (pc := 25) dX9_trace_25 lk_X9_300 gc_56 rfl rfl ?_
      refine x_iload_n (pc := 28) 1 dX9_trace_28 rfl rfl ?_
      obtain ⟨c_3, h⟩ := aw_ck h
      refine x_iald (pc := 29) dX9_trace_29 gc_57 c_3 ?_
      obtain ⟨rfl, rfl⟩ := aw_so h
      exact x_iret (pc := 30) dX9_trace_30
    · have h := aw_neg h c_2
      refine x_aload_n (pc := 15) 0 dX9_trace_15 rfl rfl ?_
      refine x_iconst (pc := 16) (w := 2) dX9_trace_16 ic_2 ?_
      refine x_callV (pc := 17) (As := [.int 2]) (rest := []) (st' := [.int r]) (w := (some (.int r))) dX9_trace_17 cw_X9_84 hd1 gc_0 rfl rfl rfl (Nat.le_of_ble_eq_true rfl) (tc_LB_error (d - 1) hh_0 2 _ _ _ h) rfl ?_
      exact x_iret (pc := 20) dX9_trace_20
def fc_LB_isWidth (p0 : Int32) (M : aw_M) : Option (Int32 × aw_M) :=
  if p0 = 0 then (
    some (1, M)
  ) else (
    if p0 = 8 then (
      some (1, M)
    ) else (
      if p0 = 16 then (
        some (1, M)
      ) else (
        if p0 = 32 then (
          some (1, M)
        ) else (
          some (0, M)
        )
      )
    )
  )
set_option maxRecDepth 20000 in
theorem tc_LB_isWidth {l : Launch} {D : va_G} {cy : Nat → ClassId} {ad : Nat → Nat} {A : Nat → Prop} (d : Nat) (hd : 0 ≤ d) (p0 : Int32) (M : aw_M) (r : Int32) (M1 : aw_M) (h : fc_LB_isWidth p0 M = some (r, M1)) : AX l D cy ad A gc_G yX9_isWidth cX9_isWidth 1 (some .boolean) d [.int p0] M (some (.int r)) M1 := by
  refine AX.of (own := RX9) (by decide +kernel) rfl (Nat.le_of_ble_eq_true rfl) ?_
  unfold fc_LB_isWidth at h
  show AW l D cy ad A gc_G RX9 cX9_isWidth 1 (some .boolean) d (some (.int r)) M1 0 [(0, .int p0)] [] M
  refine x_iload_n (pc := 0) 0 dX9_isWidth_0 rfl rfl ?_
  refine x_if_eq (pc := 1) 22 dX9_isWidth_1 (by decide) (fun c_1 => ?_) (fun c_1 => ?_)
  · have h := aw_pos h c_1
    refine x_iconst (pc := 22) (w := 1) dX9_isWidth_22 ic_1 ?_
    refine x_goto (pc := 23) 27 dX9_isWidth_23 (by decide) ?_
    obtain ⟨rfl, rfl⟩ := aw_so h
    exact x_zret (pc := 27) aw_b1 dX9_isWidth_27
  · have h := aw_neg h c_1
    refine x_iload_n (pc := 4) 0 dX9_isWidth_4 rfl rfl ?_
    refine x_bipush (pc := 5) (w := 8) dX9_isWidth_5 bi_8 ?_
    refine x_icmp_eq (pc := 7) 22 dX9_isWidth_7 (by decide) (fun c_2 => ?_) (fun c_2 => ?_)
    · have h := aw_pos h c_2
      refine x_iconst (pc := 22) (w := 1) dX9_isWidth_22 ic_1 ?_
      refine x_goto (pc := 23) 27 dX9_isWidth_23 (by decide) ?_
      obtain ⟨rfl, rfl⟩ := aw_so h
      exact x_zret (pc := 27) aw_b1 dX9_isWidth_27
    · have h := aw_neg h c_2
      refine x_iload_n (pc := 10) 0 dX9_isWidth_10 rfl rfl ?_
      refine x_bipush (pc := 11) (w := 16) dX9_isWidth_11 bi_16 ?_
      refine x_icmp_eq (pc := 13) 22 dX9_isWidth_13 (by decide) (fun c_3 => ?_) (fun c_3 => ?_)
      · have h := aw_pos h c_3
        refine x_iconst (pc := 22) (w := 1) dX9_isWidth_22 ic_1 ?_
        refine x_goto (pc := 23) 27 dX9_isWidth_23 (by decide) ?_
        obtain ⟨rfl, rfl⟩ := aw_so h
        exact x_zret (pc := 27) aw_b1 dX9_isWidth_27
      · have h := aw_neg h c_3
        refine x_iload_n (pc := 16) 0 dX9_isWidth_16 rfl rfl ?_
        refine x_bipush (pc := 17) (w := 32) dX9_isWidth_17 bi_32 ?_
        refine x_icmp_ne (pc := 19) 26 dX9_isWidth_19 (by decide) (fun c_4 => ?_) (fun c_4 => ?_)
        · have h := aw_neg h c_4
          refine x_iconst (pc := 26) (w := 0) dX9_isWidth_26 ic_0 ?_
          obtain ⟨rfl, rfl⟩ := aw_so h
          exact x_zret (pc := 27) aw_b0 dX9_isWidth_27
        · have h := aw_pos h c_4
          refine x_iconst (pc := 22) (w := 1) dX9_isWidth_22 ic_1 ?_
          refine x_goto (pc := 23) 27 dX9_isWidth_23 (by decide) ?_
          obtain ⟨rfl, rfl⟩ := aw_so h
          exact x_zret (pc := 27) aw_b1 dX9_isWidth_27
def fc_LB_sheet (p1 : Int32) (p2 : Int32) (p3 : Int32) (M : aw_M) : Option (Int32 × aw_M) :=
  aw_bi (fc_LB_isSheet p1 M) fun r_2 M_3 => (
  if r_2 = 0 then (
    fc_LB_error 1 M_3
  ) else (
    aw_bi (fc_LB_isWidth p2 M_3) fun r_6 M_7 => (
    if r_6 = 0 then (
      fc_LB_error 1 M_7
    ) else (
      if p2 = 0 then (
        if aw_in p1 4 then none else (
        aw_bv (fc_Sh_lay p1.toNatClampNeg 0 0 M_7) fun M_17 => (
        some (1, M_17)
        )
        )
      ) else (
        if (0 : Int32) ≤ p3 then (
          if p3 ≤ 40 then (
            if aw_in p1 4 then none else (
            aw_bv (fc_Sh_lay p1.toNatClampNeg p2 p3 M_7) fun M_14 => (
            some (1, M_14)
            )
            )
          ) else (
            fc_LB_error 1 M_7
          )
        ) else (
          fc_LB_error 3 M_7
        )
      )
    )
    )
  )
  )
set_option maxRecDepth 20000 in
theorem tc_LB_sheet {l : Launch} {D : va_G} {cy : Nat → ClassId} {ad : Nat → Nat} {A : Nat → Prop} (d : Nat) (hd : 2 ≤ d) (p1 : Int32) (p2 : Int32) (p3 : Int32) (M : aw_M) (r : Int32) (M1 : aw_M) (h : fc_LB_sheet p1 p2 p3 M = some (r, M1)) : AX l D cy ad A gc_G yX9_sheet cX9_sheet 4 (some .int) d [.ref (ad 0), .int p1, .int p2, .int p3] M (some (.int r)) M1 := by
  have hd1 : (d - 1) + 1 ≤ d := by omega
  have hm1 : 1 ≤ d := by omega
  have hh_0 : 0 ≤ d - 1 := by omega
  have hh_1 : 1 ≤ d - 1 := by omega
  refine AX.of (own := RX9) (by decide +kernel) rfl (Nat.le_of_ble_eq_true rfl) ?_
  unfold fc_LB_sheet at h
  show AW l D cy ad A gc_G RX9 cX9_sheet 4 (some .int) d (some (.int r)) M1 0 [(0, .ref (ad 0)), (1, .int p1), (2, .int p2), (3, .int p3)] [] M
  refine x_iload_n (pc := 0) 1 dX9_sheet_0 rfl rfl ?_
  obtain ⟨r_2, M_3, e_1, h⟩ := aw_bi_e h
  refine x_callS (pc := 1) (As := [.int p1]) (rest := []) (st' := [.int r_2]) (w := (some (.int r_2))) dX9_sheet_1 cw_X9_243 hd1 rfl rfl (Nat.le_of_ble_eq_true rfl) (tc_LB_isSheet (d - 1) hh_0 p1 _ _ _ e_1) rfl ?_
  refine x_if_eq (pc := 4) 14 dX9_sheet_4 (by decide) (fun c_4 => ?_) (fun c_4 => ?_)
  · have h := aw_pos h c_4
    refine x_aload_n (pc := 14) 0 dX9_sheet_14 rfl rfl ?_
    refine x_iconst (pc := 15) (w := 1) dX9_sheet_15 ic_1 ?_
    refine x_callV (pc := 16) (As := [.int 1]) (rest := []) (st' := [.int r]) (w := (some (.int r))) dX9_sheet_16 cw_X9_84 hd1 gc_0 rfl rfl rfl (Nat.le_of_ble_eq_true rfl) (tc_LB_error (d - 1) hh_0 1 _ _ _ h) rfl ?_
    exact x_iret (pc := 19) dX9_sheet_19
  · have h := aw_neg h c_4
    refine x_iload_n (pc := 7) 2 dX9_sheet_7 rfl rfl ?_
    obtain ⟨r_6, M_7, e_5, h⟩ := aw_bi_e h
    refine x_callS (pc := 8) (As := [.int p2]) (rest := []) (st' := [.int r_6]) (w := (some (.int r_6))) dX9_sheet_8 cw_X9_303 hd1 rfl rfl (Nat.le_of_ble_eq_true rfl) (tc_LB_isWidth (d - 1) hh_0 p2 _ _ _ e_5) rfl ?_
    refine x_if_ne (pc := 11) 20 dX9_sheet_11 (by decide) (fun c_8 => ?_) (fun c_8 => ?_)
    · have h := aw_neg h c_8
      refine x_iload_n (pc := 20) 2 dX9_sheet_20 rfl rfl ?_
      refine x_if_ne (pc := 21) 37 dX9_sheet_21 (by decide) (fun c_9 => ?_) (fun c_9 => ?_)
      · have h := aw_neg h c_9
        refine x_iload_n (pc := 37) 3 dX9_sheet_37 rfl rfl ?_
        refine x_if_ge (pc := 38) 47 dX9_sheet_38 (by decide) (fun c_10 => ?_) (fun c_10 => ?_)
        · have h := aw_pos h c_10
          refine x_iload_n (pc := 47) 3 dX9_sheet_47 rfl rfl ?_
          refine x_bipush (pc := 48) (w := 40) dX9_sheet_48 bi_40 ?_
          refine x_icmp_le (pc := 50) 59 dX9_sheet_50 (by decide) (fun c_11 => ?_) (fun c_11 => ?_)
          · have h := aw_pos h c_11
            refine x_aload_n (pc := 59) 0 dX9_sheet_59 rfl rfl ?_
            refine x_get (pc := 60) dX9_sheet_60 lk_X9_72 gc_0 rfl rfl ?_
            refine x_iload_n (pc := 63) 1 dX9_sheet_63 rfl rfl ?_
            obtain ⟨c_12, h⟩ := aw_ck h
            refine x_aald (pc := 64) dX9_sheet_64 gc_58 (fun _ => rfl) c_12 (ga_58 (aw_lt c_12)) ?_
            refine x_iload_n (pc := 65) 2 dX9_sheet_65 rfl rfl ?_
            refine x_iload_n (pc := 66) 3 dX9_sheet_66 rfl rfl ?_
            obtain ⟨M_14, e_13, h⟩ := aw_bv_e h
            refine x_callV (pc := 67) (As := [.int p2, .int p3]) (rest := []) (st' := []) (w := none) dX9_sheet_67 cw_X9_306 hd1 (gc_sheet (i := p1.toNatClampNeg) (aw_lt c_12)) rfl rfl rfl (Nat.le_of_ble_eq_true rfl) (tc_Sh_lay (d - 1) hh_1 p1.toNatClampNeg (aw_lt c_12) p2 p3 _  _ e_13) rfl ?_
            refine x_iconst (pc := 70) (w := 1) dX9_sheet_70 ic_1 ?_
            obtain ⟨rfl, rfl⟩ := aw_so h
            exact x_iret (pc := 71) dX9_sheet_71
          · have h := aw_neg h c_11
            refine x_aload_n (pc := 53) 0 dX9_sheet_53 rfl rfl ?_
            refine x_iconst (pc := 54) (w := 1) dX9_sheet_54 ic_1 ?_
            refine x_callV (pc := 55) (As := [.int 1]) (rest := []) (st' := [.int r]) (w := (some (.int r))) dX9_sheet_55 cw_X9_84 hd1 gc_0 rfl rfl rfl (Nat.le_of_ble_eq_true rfl) (tc_LB_error (d - 1) hh_0 1 _ _ _ h) rfl ?_
            exact x_iret (pc := 58) dX9_sheet_58
        · have h := aw_neg h c_10
          refine x_aload_n (pc := 41) 0 dX9_sheet_41 rfl rfl ?_
          refine x_iconst (pc := 42) (w := 3) dX9_sheet_42 ic_3 ?_
          refine x_callV (pc := 43) (As := [.int 3]) (rest := []) (st' := [.int r]) (w := (some (.int r))) dX9_sheet_43 cw_X9_84 hd1 gc_0 rfl rfl rfl (Nat.le_of_ble_eq_true rfl) (tc_LB_error (d - 1) hh_0 3 _ _ _ h) rfl ?_
          exact x_iret (pc := 46) dX9_sheet_46
      · have h := aw_pos h c_9
        refine x_aload_n (pc := 24) 0 dX9_sheet_24 rfl rfl ?_
        refine x_get (pc := 25) dX9_sheet_25 lk_X9_72 gc_0 rfl rfl ?_
        refine x_iload_n (pc := 28) 1 dX9_sheet_28 rfl rfl ?_
        obtain ⟨c_15, h⟩ := aw_ck h
        refine x_aald (pc := 29) dX9_sheet_29 gc_58 (fun _ => rfl) c_15 (ga_58 (aw_lt c_15)) ?_
        refine x_iconst (pc := 30) (w := 0) dX9_sheet_30 ic_0 ?_
        refine x_iconst (pc := 31) (w := 0) dX9_sheet_31 ic_0 ?_
        obtain ⟨M_17, e_16, h⟩ := aw_bv_e h
        refine x_callV (pc := 32) (As := [.int 0, .int 0]) (rest := []) (st' := []) (w := none) dX9_sheet_32 cw_X9_306 hd1 (gc_sheet (i := p1.toNatClampNeg) (aw_lt c_15)) rfl rfl rfl (Nat.le_of_ble_eq_true rfl) (tc_Sh_lay (d - 1) hh_1 p1.toNatClampNeg (aw_lt c_15) 0 0 _  _ e_16) rfl ?_
        refine x_iconst (pc := 35) (w := 1) dX9_sheet_35 ic_1 ?_
        obtain ⟨rfl, rfl⟩ := aw_so h
        exact x_iret (pc := 36) dX9_sheet_36
    · have h := aw_pos h c_8
      refine x_aload_n (pc := 14) 0 dX9_sheet_14 rfl rfl ?_
      refine x_iconst (pc := 15) (w := 1) dX9_sheet_15 ic_1 ?_
      refine x_callV (pc := 16) (As := [.int 1]) (rest := []) (st' := [.int r]) (w := (some (.int r))) dX9_sheet_16 cw_X9_84 hd1 gc_0 rfl rfl rfl (Nat.le_of_ble_eq_true rfl) (tc_LB_error (d - 1) hh_0 1 _ _ _ h) rfl ?_
      exact x_iret (pc := 19) dX9_sheet_19
