def fm_yard_J46 (p1 : Int32) (p2 : Int32) (p100 : Int32) (M : aw_M) : Option (Int32 × aw_M) :=
    aw_bi (fm_its p1 4 M) fun r_12 M_13 => (
    aw_bi (fm_held (r_12 + p2) 0 9999 M_13) fun r_15 M_16 => (
    aw_bv (fm_gets p1 4 r_15 M_16) fun M_18 => (
    aw_bi (fm_its p1 3 M_18) fun r_20 M_21 => (
    aw_bi (fm_held (r_20 + 1) 0 9999 M_21) fun r_23 M_24 => (
    aw_bv (fm_gets p1 3 r_23 M_24) fun M_26 => (
    aw_bi (fm_held ((M_26 1 11) + p100) 0 99 M_26) fun r_28 M_29 => (
    some (p2, (aw_u (aw_u M_29 1 11 r_28) 1 0 (((aw_u M_29 1 11 r_28) 1 0) + (10 - ((aw_u M_29 1 11 r_28) 1 12)))))
    )
    )
    )
    )
    )
    )
    )
set_option maxRecDepth 20000 in
theorem tm_yard_J46 {l : Launch} {D : va_G} {cy : Nat → ClassId} {ad : Nat → Nat} {A : Nat → Prop} (d : Nat) (hd : 107 ≤ d) (p1 : Int32) (p2 : Int32) (p100 : Int32) (M : aw_M) (r : Int32) (M1 : aw_M) (h : fm_yard_J46 p1 p2 p100 M = some (r, M1)) : AW l D cy ad A gm_G RX10 cX10_yard 5 (some .int) d (some (.int r)) M1 46 [(0, .ref (ad 0)), (1, .int p1), (2, .int p2)] [.int p100] M := by
  have hd1 : (d - 1) + 1 ≤ d := by omega
  have hm1 : 1 ≤ d := by omega
  have hh_0 : 0 ≤ d - 1 := by omega
  have hh_106 : 106 ≤ d - 1 := by omega
  unfold fm_yard_J46 at h
  refine x_istore (pc := 46) 4 [(4, .int p100), (0, .ref (ad 0)), (1, .int p1), (2, .int p2)] dX10_yard_46 (by decide) rfl ?_
  refine x_aload_n (pc := 48) 0 dX10_yard_48 rfl rfl ?_
  refine x_iload_n (pc := 49) 1 dX10_yard_49 rfl rfl ?_
  refine x_iconst (pc := 50) (w := 4) dX10_yard_50 ic_4 ?_
  refine x_aload_n (pc := 51) 0 dX10_yard_51 rfl rfl ?_
  refine x_iload_n (pc := 52) 1 dX10_yard_52 rfl rfl ?_
  refine x_iconst (pc := 53) (w := 4) dX10_yard_53 ic_4 ?_
  obtain ⟨r_12, M_13, e_11, h⟩ := aw_bi_e h
  refine x_callV (pc := 54) (As := [.int p1, .int 4]) (rest := [.int 4, .int p1, .ref (ad 0)]) (st' := [.int r_12, .int 4, .int p1, .ref (ad 0)]) (w := (some (.int r_12))) dX10_yard_54 cw_X10_78 hd1 gm_0 rfl rfl rfl (Nat.le_of_ble_eq_true rfl) (tm_its (d - 1) hh_0 p1 4 _ _ _ e_11) rfl ?_
  refine x_iload_n (pc := 57) 2 dX10_yard_57 rfl rfl ?_
  refine x_iadd (pc := 58) dX10_yard_58 ?_
  refine x_iconst (pc := 59) (w := 0) dX10_yard_59 ic_0 ?_
  refine x_sipush (pc := 60) (w := 9999) dX10_yard_60 si_9999 ?_
  obtain ⟨r_15, M_16, e_14, h⟩ := aw_bi_e h
  refine x_callS (pc := 63) (As := [.int (r_12 + p2), .int 0, .int 9999]) (rest := [.int 4, .int p1, .ref (ad 0)]) (st' := [.int r_15, .int 4, .int p1, .ref (ad 0)]) (w := (some (.int r_15))) dX10_yard_63 cw_X10_149 hd1 rfl rfl (Nat.le_of_ble_eq_true rfl) (tm_held (d - 1) hh_0 (r_12 + p2) 0 9999 _ _ _ e_14) rfl ?_
  obtain ⟨M_18, e_17, h⟩ := aw_bv_e h
  refine x_callV (pc := 66) (As := [.int p1, .int 4, .int r_15]) (rest := []) (st' := []) (w := none) dX10_yard_66 cw_X10_58 hd1 gm_0 rfl rfl rfl (Nat.le_of_ble_eq_true rfl) (tm_gets (d - 1) hh_0 p1 4 r_15 _  _ e_17) rfl ?_
  refine x_aload_n (pc := 69) 0 dX10_yard_69 rfl rfl ?_
  refine x_iload_n (pc := 70) 1 dX10_yard_70 rfl rfl ?_
  refine x_iconst (pc := 71) (w := 3) dX10_yard_71 ic_3 ?_
  refine x_aload_n (pc := 72) 0 dX10_yard_72 rfl rfl ?_
  refine x_iload_n (pc := 73) 1 dX10_yard_73 rfl rfl ?_
  refine x_iconst (pc := 74) (w := 3) dX10_yard_74 ic_3 ?_
  obtain ⟨r_20, M_21, e_19, h⟩ := aw_bi_e h
  refine x_callV (pc := 75) (As := [.int p1, .int 3]) (rest := [.int 3, .int p1, .ref (ad 0)]) (st' := [.int r_20, .int 3, .int p1, .ref (ad 0)]) (w := (some (.int r_20))) dX10_yard_75 cw_X10_78 hd1 gm_0 rfl rfl rfl (Nat.le_of_ble_eq_true rfl) (tm_its (d - 1) hh_0 p1 3 _ _ _ e_19) rfl ?_
  refine x_iconst (pc := 78) (w := 1) dX10_yard_78 ic_1 ?_
  refine x_iadd (pc := 79) dX10_yard_79 ?_
  refine x_iconst (pc := 80) (w := 0) dX10_yard_80 ic_0 ?_
  refine x_sipush (pc := 81) (w := 9999) dX10_yard_81 si_9999 ?_
  obtain ⟨r_23, M_24, e_22, h⟩ := aw_bi_e h
  refine x_callS (pc := 84) (As := [.int (r_20 + 1), .int 0, .int 9999]) (rest := [.int 3, .int p1, .ref (ad 0)]) (st' := [.int r_23, .int 3, .int p1, .ref (ad 0)]) (w := (some (.int r_23))) dX10_yard_84 cw_X10_149 hd1 rfl rfl (Nat.le_of_ble_eq_true rfl) (tm_held (d - 1) hh_0 (r_20 + 1) 0 9999 _ _ _ e_22) rfl ?_
  obtain ⟨M_26, e_25, h⟩ := aw_bv_e h
  refine x_callV (pc := 87) (As := [.int p1, .int 3, .int r_23]) (rest := []) (st' := []) (w := none) dX10_yard_87 cw_X10_58 hd1 gm_0 rfl rfl rfl (Nat.le_of_ble_eq_true rfl) (tm_gets (d - 1) hh_0 p1 3 r_23 _  _ e_25) rfl ?_
  refine x_aload_n (pc := 90) 0 dX10_yard_90 rfl rfl ?_
  refine x_get (pc := 91) dX10_yard_91 lk_X10_7 gm_0 rfl rfl ?_
  refine x_bipush (pc := 94) (w := 11) dX10_yard_94 bi_11 ?_
  refine x_aload_n (pc := 96) 0 dX10_yard_96 rfl rfl ?_
  refine x_get (pc := 97) dX10_yard_97 lk_X10_7 gm_0 rfl rfl ?_
  refine x_bipush (pc := 100) (w := 11) dX10_yard_100 bi_11 ?_
  refine x_ialdJ (pc := 102) 11 dX10_yard_102 gm_1 (by decide) tn_11 ?_
  refine x_iload (pc := 103) dX10_yard_103 rfl ?_
  refine x_iadd (pc := 105) dX10_yard_105 ?_
  refine x_iconst (pc := 106) (w := 0) dX10_yard_106 ic_0 ?_
  refine x_bipush (pc := 107) (w := 99) dX10_yard_107 bi_99 ?_
  obtain ⟨r_28, M_29, e_27, h⟩ := aw_bi_e h
  refine x_callS (pc := 109) (As := [.int ((M_26 1 11) + p100), .int 0, .int 99]) (rest := [.int 11, .ref (ad 1)]) (st' := [.int r_28, .int 11, .ref (ad 1)]) (w := (some (.int r_28))) dX10_yard_109 cw_X10_149 hd1 rfl rfl (Nat.le_of_ble_eq_true rfl) (tm_held (d - 1) hh_0 ((M_26 1 11) + p100) 0 99 _ _ _ e_27) rfl ?_
  refine x_iastJ (pc := 112) 11 dX10_yard_112 gm_1 (by decide) tn_11 ?_
  refine x_aload_n (pc := 113) 0 dX10_yard_113 rfl rfl ?_
  refine x_get (pc := 114) dX10_yard_114 lk_X10_7 gm_0 rfl rfl ?_
  refine x_iconst (pc := 117) (w := 0) dX10_yard_117 ic_0 ?_
  refine x_dup2_11 (pc := 118) dX10_yard_118 rfl rfl ?_
  refine x_ialdJ (pc := 119) 0 dX10_yard_119 gm_1 (by decide) tn_0 ?_
  refine x_bipush (pc := 120) (w := 10) dX10_yard_120 bi_10 ?_
  refine x_aload_n (pc := 122) 0 dX10_yard_122 rfl rfl ?_
  refine x_get (pc := 123) dX10_yard_123 lk_X10_7 gm_0 rfl rfl ?_
  refine x_bipush (pc := 126) (w := 12) dX10_yard_126 bi_12 ?_
  refine x_ialdJ (pc := 128) 12 dX10_yard_128 gm_1 (by decide) tn_12 ?_
  refine x_isub (pc := 129) dX10_yard_129 ?_
  refine x_iadd (pc := 130) dX10_yard_130 ?_
  refine x_iastJ (pc := 131) 0 dX10_yard_131 gm_1 (by decide) tn_0 ?_
  refine x_iload_n (pc := 132) 2 dX10_yard_132 rfl rfl ?_
  obtain ⟨rfl, rfl⟩ := aw_so h
  exact x_iret (pc := 133) dX10_yard_133
def fm_yard_J13 (p1 : Int32) (p100 : Int32) (M : aw_M) : Option (Int32 × aw_M) :=
    aw_bi (fm_its p1 0 M) fun r_6 M_7 => (
    if r_6 = 6 then (
      fm_yard_J46  p1 p100 0 M_7
    ) else (
      if r_6 = 2 then (
        fm_yard_J46  p1 p100 2 M_7
      ) else (
        if r_6 = 5 then (
          fm_yard_J46  p1 p100 2 M_7
        ) else (
          fm_yard_J46  p1 p100 1 M_7
        )
      )
    )
    )
set_option maxRecDepth 20000 in
theorem tm_yard_J13 {l : Launch} {D : va_G} {cy : Nat → ClassId} {ad : Nat → Nat} {A : Nat → Prop} (d : Nat) (hd : 107 ≤ d) (p1 : Int32) (p100 : Int32) (M : aw_M) (r : Int32) (M1 : aw_M) (h : fm_yard_J13 p1 p100 M = some (r, M1)) : AW l D cy ad A gm_G RX10 cX10_yard 5 (some .int) d (some (.int r)) M1 13 [(0, .ref (ad 0)), (1, .int p1)] [.int p100] M := by
  have hd1 : (d - 1) + 1 ≤ d := by omega
  have hm1 : 1 ≤ d := by omega
  have hh_0 : 0 ≤ d - 1 := by omega
  have hh_106 : 106 ≤ d - 1 := by omega
  unfold fm_yard_J13 at h
  refine x_istore_n (pc := 13) 2 [(2, .int p100), (0, .ref (ad 0)), (1, .int p1)] dX10_yard_13 rfl (by decide) rfl ?_
  refine x_aload_n (pc := 14) 0 dX10_yard_14 rfl rfl ?_
  refine x_iload_n (pc := 15) 1 dX10_yard_15 rfl rfl ?_
  refine x_iconst (pc := 16) (w := 0) dX10_yard_16 ic_0 ?_
  obtain ⟨r_6, M_7, e_5, h⟩ := aw_bi_e h
  refine x_callV (pc := 17) (As := [.int p1, .int 0]) (rest := []) (st' := [.int r_6]) (w := (some (.int r_6))) dX10_yard_17 cw_X10_78 hd1 gm_0 rfl rfl rfl (Nat.le_of_ble_eq_true rfl) (tm_its (d - 1) hh_0 p1 0 _ _ _ e_5) rfl ?_
  refine x_istore_n (pc := 20) 3 [(3, .int r_6), (2, .int p100), (0, .ref (ad 0)), (1, .int p1)] dX10_yard_20 rfl (by decide) rfl ?_
  refine x_iload_n (pc := 21) 3 dX10_yard_21 rfl rfl ?_
  refine x_bipush (pc := 22) (w := 6) dX10_yard_22 bi_6 ?_
  refine x_icmp_ne (pc := 24) 31 dX10_yard_24 (by decide) (fun c_8 => ?_) (fun c_8 => ?_)
  · have h := aw_neg h c_8
    refine x_iload_n (pc := 31) 3 dX10_yard_31 rfl rfl ?_
    refine x_iconst (pc := 32) (w := 2) dX10_yard_32 ic_2 ?_
    refine x_icmp_eq (pc := 33) 41 dX10_yard_33 (by decide) (fun c_9 => ?_) (fun c_9 => ?_)
    · have h := aw_pos h c_9
      refine x_iconst (pc := 41) (w := 2) dX10_yard_41 ic_2 ?_
      refine x_goto (pc := 42) 46 dX10_yard_42 (by decide) ?_
      refine x_lv [2, 3, 1] [(0, .ref (ad 0)), (1, .int p1), (2, .int p100)] rfl ?_
      exact tm_yard_J46 d hd  p1 p100 2 _ _ _ h
    · have h := aw_neg h c_9
      refine x_iload_n (pc := 36) 3 dX10_yard_36 rfl rfl ?_
      refine x_iconst (pc := 37) (w := 5) dX10_yard_37 ic_5 ?_
      refine x_icmp_ne (pc := 38) 45 dX10_yard_38 (by decide) (fun c_10 => ?_) (fun c_10 => ?_)
      · have h := aw_neg h c_10
        refine x_iconst (pc := 45) (w := 1) dX10_yard_45 ic_1 ?_
        refine x_lv [2, 3, 1] [(0, .ref (ad 0)), (1, .int p1), (2, .int p100)] rfl ?_
        exact tm_yard_J46 d hd  p1 p100 1 _ _ _ h
      · have h := aw_pos h c_10
        refine x_iconst (pc := 41) (w := 2) dX10_yard_41 ic_2 ?_
        refine x_goto (pc := 42) 46 dX10_yard_42 (by decide) ?_
        refine x_lv [2, 3, 1] [(0, .ref (ad 0)), (1, .int p1), (2, .int p100)] rfl ?_
        exact tm_yard_J46 d hd  p1 p100 2 _ _ _ h
  · have h := aw_pos h c_8
    refine x_iconst (pc := 27) (w := 0) dX10_yard_27 ic_0 ?_
    refine x_goto (pc := 28) 46 dX10_yard_28 (by decide) ?_
    refine x_lv [2, 3, 1] [(0, .ref (ad 0)), (1, .int p1), (2, .int p100)] rfl ?_
    exact tm_yard_J46 d hd  p1 p100 0 _ _ _ h
def fm_yard (p1 : Int32) (M : aw_M) : Option (Int32 × aw_M) :=
  aw_bi (fm_shows p1 M) fun r_2 M_3 => (
  if r_2 = 0 then (
    fm_yard_J13  p1 0 M_3
  ) else (
    fm_yard_J13  p1 1 M_3
  )
  )
set_option maxRecDepth 20000 in
theorem tm_yard {l : Launch} {D : va_G} {cy : Nat → ClassId} {ad : Nat → Nat} {A : Nat → Prop} (d : Nat) (hd : 107 ≤ d) (p1 : Int32) (M : aw_M) (r : Int32) (M1 : aw_M) (h : fm_yard p1 M = some (r, M1)) : AX l D cy ad A gm_G yX10_yard cX10_yard 5 (some .int) d [.ref (ad 0), .int p1] M (some (.int r)) M1 := by
  have hd1 : (d - 1) + 1 ≤ d := by omega
  have hm1 : 1 ≤ d := by omega
  have hh_0 : 0 ≤ d - 1 := by omega
  have hh_106 : 106 ≤ d - 1 := by omega
  refine AX.of (own := RX10) (by decide +kernel) rfl (Nat.le_of_ble_eq_true rfl) ?_
  unfold fm_yard at h
  show AW l D cy ad A gm_G RX10 cX10_yard 5 (some .int) d (some (.int r)) M1 0 [(0, .ref (ad 0)), (1, .int p1)] [] M
  refine x_aload_n (pc := 0) 0 dX10_yard_0 rfl rfl ?_
  refine x_iload_n (pc := 1) 1 dX10_yard_1 rfl rfl ?_
  obtain ⟨r_2, M_3, e_1, h⟩ := aw_bi_e h
  refine x_callV (pc := 2) (As := [.int p1]) (rest := []) (st' := [.int r_2]) (w := (some (.int r_2))) dX10_yard_2 cw_X10_75 hd1 gm_0 rfl rfl rfl (Nat.le_of_ble_eq_true rfl) (tm_shows (d - 1) hh_106 p1 _ _ _ e_1) rfl ?_
  refine x_if_ne (pc := 5) 12 dX10_yard_5 (by decide) (fun c_4 => ?_) (fun c_4 => ?_)
  · have h := aw_neg h c_4
    refine x_iconst (pc := 12) (w := 1) dX10_yard_12 ic_1 ?_
    refine x_lv [0, 1] [(0, .ref (ad 0)), (1, .int p1)] rfl ?_
    exact tm_yard_J13 d hd  p1 1 _ _ _ h
  · have h := aw_pos h c_4
    refine x_iconst (pc := 8) (w := 0) dX10_yard_8 ic_0 ?_
    refine x_goto (pc := 9) 13 dX10_yard_9 (by decide) ?_
    refine x_lv [0, 1] [(0, .ref (ad 0)), (1, .int p1)] rfl ?_
    exact tm_yard_J13 d hd  p1 0 _ _ _ h
def fm_sews_L5 : Nat → Int32 → Int32 → Int32 → Int32 → aw_M → Option (Int32 × aw_M)
  | 0, _, _, _, _, _ => none
  | n + 1, p1, p2, p3, p4, M =>
    if p2 ≤ p4 then (
      some (p3, M)
    ) else (
      aw_bi (fm_yard p1 M) fun r_3 M_4 => (
      fm_sews_L5 n p1 p2 (p3 + r_3) (p4 + 1) M_4
      )
    )
theorem fm_sews_L5_s (n : Nat) (p1 : Int32) (p2 : Int32) (p3 : Int32) (p4 : Int32) (M : aw_M) : fm_sews_L5 (n + 1) p1 p2 p3 p4 M = (
    if p2 ≤ p4 then (
      some (p3, M)
    ) else (
      aw_bi (fm_yard p1 M) fun r_3 M_4 => (
      fm_sews_L5 n p1 p2 (p3 + r_3) (p4 + 1) M_4
      )
    )
    ) := rfl
set_option maxRecDepth 20000 in
theorem tm_sews_L5 {l : Launch} {D : va_G} {cy : Nat → ClassId} {ad : Nat → Nat} {A : Nat → Prop} (d : Nat) (hd : 108 ≤ d) : ∀ (n : Nat) (p1 : Int32) (p2 : Int32) (p3 : Int32) (p4 : Int32) (M : aw_M) (r : Int32) (M1 : aw_M), fm_sews_L5 n p1 p2 p3 p4 M = some (r, M1) → AW l D cy ad A gm_G RX10 cX10_sews 5 (some .int) d (some (.int r)) M1 5 [(0, .ref (ad 0)), (1, .int p1), (2, .int p2), (3, .int p3), (4, .int p4)] [] M := by
  have hd1 : (d - 1) + 1 ≤ d := by omega
  have hm1 : 1 ≤ d := by omega
  have hh_107 : 107 ≤ d - 1 := by omega
  intro n
  induction n with
  | zero => intro p1 p2 p3 p4 M r M1 h; cases h
  | succ n ih =>
    intro p1 p2 p3 p4 M r M1 h
    rw [fm_sews_L5_s] at h
    refine x_iload (pc := 5) dX10_sews_5 rfl ?_
    refine x_iload_n (pc := 7) 2 dX10_sews_7 rfl rfl ?_
    refine x_icmp_ge (pc := 8) 25 dX10_sews_8 (by decide) (fun c_1 => ?_) (fun c_1 => ?_)
    · have h := aw_pos h c_1
      refine x_iload_n (pc := 25) 3 dX10_sews_25 rfl rfl ?_
      obtain ⟨rfl, rfl⟩ := aw_so h
      exact x_iret (pc := 26) dX10_sews_26
    · have h := aw_neg h c_1
      refine x_iload_n (pc := 11) 3 dX10_sews_11 rfl rfl ?_
      refine x_aload_n (pc := 12) 0 dX10_sews_12 rfl rfl ?_
      refine x_iload_n (pc := 13) 1 dX10_sews_13 rfl rfl ?_
      obtain ⟨r_3, M_4, e_2, h⟩ := aw_bi_e h
      refine x_callV (pc := 14) (As := [.int p1]) (rest := [.int p3]) (st' := [.int r_3, .int p3]) (w := (some (.int r_3))) dX10_sews_14 cw_X10_165 hd1 gm_0 rfl rfl rfl (Nat.le_of_ble_eq_true rfl) (tm_yard (d - 1) hh_107 p1 _ _ _ e_2) rfl ?_
      refine x_iadd (pc := 17) dX10_sews_17 ?_
      refine x_istore_n (pc := 18) 3 [(3, .int (p3 + r_3)), (0, .ref (ad 0)), (1, .int p1), (2, .int p2), (4, .int p4)] dX10_sews_18 rfl (by decide) rfl ?_
      refine x_iinc (pc := 19) (p4 + 1) [(4, .int (p4 + 1)), (3, .int (p3 + r_3)), (0, .ref (ad 0)), (1, .int p1), (2, .int p2)] dX10_sews_19 rfl (congrArg (fun z => p4 + z) ic_1) (by decide) rfl ?_
      refine x_goto (pc := 22) 5 dX10_sews_22 (by decide) ?_
      refine x_lv [2, 3, 4, 1, 0] [(0, .ref (ad 0)), (1, .int p1), (2, .int p2), (3, .int (p3 + r_3)), (4, .int (p4 + 1))] rfl ?_
      exact ih p1 p2 (p3 + r_3) (p4 + 1) _ _ _ h
def fm_sews (p1 : Int32) (p2 : Int32) (M : aw_M) : Option (Int32 × aw_M) :=
  fm_sews_L5  2000 p1 p2 0 0 M
set_option maxRecDepth 20000 in
theorem tm_sews {l : Launch} {D : va_G} {cy : Nat → ClassId} {ad : Nat → Nat} {A : Nat → Prop} (d : Nat) (hd : 108 ≤ d) (p1 : Int32) (p2 : Int32) (M : aw_M) (r : Int32) (M1 : aw_M) (h : fm_sews p1 p2 M = some (r, M1)) : AX l D cy ad A gm_G yX10_sews cX10_sews 5 (some .int) d [.ref (ad 0), .int p1, .int p2] M (some (.int r)) M1 := by
  have hd1 : (d - 1) + 1 ≤ d := by omega
  have hm1 : 1 ≤ d := by omega
  have hh_107 : 107 ≤ d - 1 := by omega
  refine AX.of (own := RX10) (by decide +kernel) rfl (Nat.le_of_ble_eq_true rfl) ?_
  unfold fm_sews at h
  show AW l D cy ad A gm_G RX10 cX10_sews 5 (some .int) d (some (.int r)) M1 0 [(0, .ref (ad 0)), (1, .int p1), (2, .int p2)] [] M
  refine x_iconst (pc := 0) (w := 0) dX10_sews_0 ic_0 ?_
  refine x_istore_n (pc := 1) 3 [(3, .int 0), (0, .ref (ad 0)), (1, .int p1), (2, .int p2)] dX10_sews_1 rfl (by decide) rfl ?_
  refine x_iconst (pc := 2) (w := 0) dX10_sews_2 ic_0 ?_
  refine x_istore (pc := 3) 4 [(4, .int 0), (3, .int 0), (0, .ref (ad 0)), (1, .int p1), (2, .int p2)] dX10_sews_3 (by decide) rfl ?_
  refine x_lv [2, 3, 4, 1, 0] [(0, .ref (ad 0)), (1, .int p1), (2, .int p2), (3, .int 0), (4, .int 0)] rfl ?_
  exact tm_sews_L5 d hd  2000 p1 p2 0 0 _ _ _ h
def fm_sew (p1 : Int32) (p2 : Int32) (M : aw_M) : Option (Int32 × aw_M) :=
  aw_bi (fm_isCloth p1 M) fun r_2 M_3 => (
  if r_2 = 0 then (
    fm_errs (-1000000001) M_3
  ) else (
    aw_bi (fm_in p2 1 200 M_3) fun r_6 M_7 => (
    if r_6 = 0 then (
      fm_errs (-1000000001) M_7
    ) else (
      if ((M_7 1 0) + (p2 * (10 - (M_7 1 12)))) ≤ 99999 then (
        fm_sews p1 p2 M_7
      ) else (
        aw_bi (fm_errs (-1000000003) M_7) fun r_11 M_12 => (
        some (r_11, M_12)
        )
      )
    )
    )
  )
  )
set_option maxRecDepth 20000 in
theorem tm_sew {l : Launch} {D : va_G} {cy : Nat → ClassId} {ad : Nat → Nat} {A : Nat → Prop} (d : Nat) (hd : 109 ≤ d) (p1 : Int32) (p2 : Int32) (M : aw_M) (r : Int32) (M1 : aw_M) (h : fm_sew p1 p2 M = some (r, M1)) : AX l D cy ad A gm_G yX10_sew cX10_sew 3 (some .int) d [.ref (ad 0), .int p1, .int p2] M (some (.int r)) M1 := by
  have hd1 : (d - 1) + 1 ≤ d := by omega
  have hm1 : 1 ≤ d := by omega
  have hh_0 : 0 ≤ d - 1 := by omega
  have hh_1 : 1 ≤ d - 1 := by omega
  have hh_108 : 108 ≤ d - 1 := by omega
  refine AX.of (own := RX10) (by decide +kernel) rfl (Nat.le_of_ble_eq_true rfl) ?_
  unfold fm_sew at h
  show AW l D cy ad A gm_G RX10 cX10_sew 3 (some .int) d (some (.int r)) M1 0 [(0, .ref (ad 0)), (1, .int p1), (2, .int p2)] [] M
  refine x_aload_n (pc := 0) 0 dX10_sew_0 rfl rfl ?_
  refine x_iload_n (pc := 1) 1 dX10_sew_1 rfl rfl ?_
  obtain ⟨r_2, M_3, e_1, h⟩ := aw_bi_e h
  refine x_callV (pc := 2) (As := [.int p1]) (rest := []) (st' := [.int r_2]) (w := (some (.int r_2))) dX10_sew_2 cw_X10_62 hd1 gm_0 rfl rfl rfl (Nat.le_of_ble_eq_true rfl) (tm_isCloth (d - 1) hh_1 p1 _ _ _ e_1) rfl ?_
  refine x_if_eq (pc := 5) 19 dX10_sew_5 (by decide) (fun c_4 => ?_) (fun c_4 => ?_)
  · have h := aw_pos h c_4
    refine x_aload_n (pc := 19) 0 dX10_sew_19 rfl rfl ?_
    refine x_ldc (pc := 20) dX10_sew_20 wk_X10_48 ?_
    refine x_callV (pc := 22) (As := [.int (-1000000001)]) (rest := []) (st' := [.int r]) (w := (some (.int r))) dX10_sew_22 cw_X10_49 hd1 gm_0 rfl rfl rfl (Nat.le_of_ble_eq_true rfl) (tm_errs (d - 1) hh_0 (-1000000001) _ _ _ h) rfl ?_
    exact x_iret (pc := 25) dX10_sew_25
  · have h := aw_neg h c_4
    refine x_iload_n (pc := 8) 2 dX10_sew_8 rfl rfl ?_
    refine x_iconst (pc := 9) (w := 1) dX10_sew_9 ic_1 ?_
    refine x_sipush (pc := 10) (w := 200) dX10_sew_10 si_200 ?_
    obtain ⟨r_6, M_7, e_5, h⟩ := aw_bi_e h
    refine x_callS (pc := 13) (As := [.int p2, .int 1, .int 200]) (rest := []) (st' := [.int r_6]) (w := (some (.int r_6))) dX10_sew_13 cw_X10_44 hd1 rfl rfl (Nat.le_of_ble_eq_true rfl) (tm_in (d - 1) hh_0 p2 1 200 _ _ _ e_5) rfl ?_
    refine x_if_ne (pc := 16) 26 dX10_sew_16 (by decide) (fun c_8 => ?_) (fun c_8 => ?_)
    · have h := aw_neg h c_8
      refine x_aload_n (pc := 26) 0 dX10_sew_26 rfl rfl ?_
      refine x_get (pc := 27) dX10_sew_27 lk_X10_7 gm_0 rfl rfl ?_
      refine x_iconst (pc := 30) (w := 0) dX10_sew_30 ic_0 ?_
      refine x_ialdJ (pc := 31) 0 dX10_sew_31 gm_1 (by decide) tn_0 ?_
      refine x_iload_n (pc := 32) 2 dX10_sew_32 rfl rfl ?_
      refine x_bipush (pc := 33) (w := 10) dX10_sew_33 bi_10 ?_
      refine x_aload_n (pc := 35) 0 dX10_sew_35 rfl rfl ?_
      refine x_get (pc := 36) dX10_sew_36 lk_X10_7 gm_0 rfl rfl ?_
      refine x_bipush (pc := 39) (w := 12) dX10_sew_39 bi_12 ?_
      refine x_ialdJ (pc := 41) 12 dX10_sew_41 gm_1 (by decide) tn_12 ?_
      refine x_isub (pc := 42) dX10_sew_42 ?_
      refine x_imul (pc := 43) dX10_sew_43 ?_
      refine x_iadd (pc := 44) dX10_sew_44 ?_
      refine x_ldc (pc := 45) dX10_sew_45 wk_X10_168 ?_
      refine x_icmp_le (pc := 47) 59 dX10_sew_47 (by decide) (fun c_9 => ?_) (fun c_9 => ?_)
      · have h := aw_pos h c_9
        refine x_aload_n (pc := 59) 0 dX10_sew_59 rfl rfl ?_
        refine x_iload_n (pc := 60) 1 dX10_sew_60 rfl rfl ?_
        refine x_iload_n (pc := 61) 2 dX10_sew_61 rfl rfl ?_
        refine x_callV (pc := 62) (As := [.int p1, .int p2]) (rest := []) (st' := [.int r]) (w := (some (.int r))) dX10_sew_62 cw_X10_170 hd1 gm_0 rfl rfl rfl (Nat.le_of_ble_eq_true rfl) (tm_sews (d - 1) hh_108 p1 p2 _ _ _ h) rfl ?_
        exact x_iret (pc := 65) dX10_sew_65
      · have h := aw_neg h c_9
        refine x_aload_n (pc := 50) 0 dX10_sew_50 rfl rfl ?_
        refine x_ldc (pc := 51) dX10_sew_51 wk_X10_169 ?_
        obtain ⟨r_11, M_12, e_10, h⟩ := aw_bi_e h
        refine x_callV (pc := 53) (As := [.int (-1000000003)]) (rest := []) (st' := [.int r_11]) (w := (some (.int r_11))) dX10_sew_53 cw_X10_49 hd1 gm_0 rfl rfl rfl (Nat.le_of_ble_eq_true rfl) (tm_errs (d - 1) hh_0 (-1000000003) _ _ _ e_10) rfl ?_
        refine x_goto (pc := 56) 65 dX10_sew_56 (by decide) ?_
        obtain ⟨rfl, rfl⟩ := aw_so h
        exact x_iret (pc := 65) dX10_sew_65
    · have h := aw_pos h c_8
      refine x_aload_n (pc := 19) 0 dX10_sew_19 rfl rfl ?_
      refine x_ldc (pc := 20) dX10_sew_20 wk_X10_48 ?_
      refine x_callV (pc := 22) (As := [.int (-1000000001)]) (rest := []) (st' := [.int r]) (w := (some (.int r))) dX10_sew_22 cw_X10_49 hd1 gm_0 rfl rfl rfl (Nat.le_of_ble_eq_true rfl) (tm_errs (d - 1) hh_0 (-1000000001) _ _ _ h) rfl ?_
      exact x_iret (pc := 25) dX10_sew_25
def fm_lasts (p0 : Int32) (M : aw_M) : Option (Int32 × aw_M) :=
  if p0 = 0 then (
    some (11, M)
  ) else (
    if p0 = 1 then (
      some (20, M)
    ) else (
      if p0 = 2 then (
        some (9, M)
      ) else (
        if (5 : Int32) ≤ p0 then (
          some (5, M)
        ) else (
          some (2, M)
        )
      )
    )
  )
set_option maxRecDepth 20000 in
theorem tm_lasts {l : Launch} {D : va_G} {cy : Nat → ClassId} {ad : Nat → Nat} {A : Nat → Prop} (d : Nat) (hd : 0 ≤ d) (p0 : Int32) (M : aw_M) (r : Int32) (M1 : aw_M) (h : fm_lasts p0 M = some (r, M1)) : AX l D cy ad A gm_G yX10_lasts cX10_lasts 1 (some .int) d [.int p0] M (some (.int r)) M1 := by
  refine AX.of (own := RX10) (by decide +kernel) rfl (Nat.le_of_ble_eq_true rfl) ?_
  unfold fm_lasts at h
  show AW l D cy ad A gm_G RX10 cX10_lasts 1 (some .int) d (some (.int r)) M1 0 [(0, .int p0)] [] M
  refine x_iload_n (pc := 0) 0 dX10_lasts_0 rfl rfl ?_
  refine x_if_ne (pc := 1) 9 dX10_lasts_1 (by decide) (fun c_1 => ?_) (fun c_1 => ?_)
  · have h := aw_neg h c_1
    refine x_iload_n (pc := 9) 0 dX10_lasts_9 rfl rfl ?_
    refine x_iconst (pc := 10) (w := 1) dX10_lasts_10 ic_1 ?_
    refine x_icmp_ne (pc := 11) 19 dX10_lasts_11 (by decide) (fun c_2 => ?_) (fun c_2 => ?_)
    · have h := aw_neg h c_2
      refine x_iload_n (pc := 19) 0 dX10_lasts_19 rfl rfl ?_
      refine x_iconst (pc := 20) (w := 2) dX10_lasts_20 ic_2 ?_
      refine x_icmp_ne (pc := 21) 29 dX10_lasts_21 (by decide) (fun c_3 => ?_) (fun c_3 => ?_)
      · have h := aw_neg h c_3
        refine x_iload_n (pc := 29) 0 dX10_lasts_29 rfl rfl ?_
        refine x_iconst (pc := 30) (w := 5) dX10_lasts_30 ic_5 ?_
        refine x_icmp_ge (pc := 31) 38 dX10_lasts_31 (by decide) (fun c_4 => ?_) (fun c_4 => ?_)
        · have h := aw_pos h c_4
          refine x_iconst (pc := 38) (w := 5) dX10_lasts_38 ic_5 ?_
          obtain ⟨rfl, rfl⟩ := aw_so h
          exact x_iret (pc := 39) dX10_lasts_39
        · have h := aw_neg h c_4
          refine x_iconst (pc := 34) (w := 2) dX10_lasts_34 ic_2 ?_
          refine x_goto (pc := 35) 39 dX10_lasts_35 (by decide) ?_
          obtain ⟨rfl, rfl⟩ := aw_so h
          exact x_iret (pc := 39) dX10_lasts_39
      · have h := aw_pos h c_3
        refine x_bipush (pc := 24) (w := 9) dX10_lasts_24 bi_9 ?_
        refine x_goto (pc := 26) 39 dX10_lasts_26 (by decide) ?_
        obtain ⟨rfl, rfl⟩ := aw_so h
        exact x_iret (pc := 39) dX10_lasts_39
    · have h := aw_pos h c_2
      refine x_bipush (pc := 14) (w := 20) dX10_lasts_14 bi_20 ?_
      refine x_goto (pc := 16) 39 dX10_lasts_16 (by decide) ?_
      obtain ⟨rfl, rfl⟩ := aw_so h
      exact x_iret (pc := 39) dX10_lasts_39
  · have h := aw_pos h c_1
    refine x_bipush (pc := 4) (w := 11) dX10_lasts_4 bi_11 ?_
    refine x_goto (pc := 6) 39 dX10_lasts_6 (by decide) ?_
    obtain ⟨rfl, rfl⟩ := aw_so h
    exact x_iret (pc := 39) dX10_lasts_39
def fm_canDo (p1 : Int32) (M : aw_M) : Option (Int32 × aw_M) :=
  if p1 = 3 then (
    if (9 : Int32) ≤ (M 1 8) then (
      some (0, M)
    ) else (
      some (1, M)
    )
  ) else (
    if p1 = 4 then (
      if (M 1 8) ≤ 0 then (
        some (0, M)
      ) else (
        some (1, M)
      )
    ) else (
      if p1 = 5 then (
        if (9 : Int32) ≤ (M 1 9) then (
          some (0, M)
        ) else (
          some (1, M)
        )
      ) else (
        if p1 = 6 then (
          if (M 1 9) ≤ 0 then (
            some (0, M)
          ) else (
            some (1, M)
          )
        ) else (
          some (1, M)
        )
      )
    )
  )
set_option maxRecDepth 20000 in
theorem tm_canDo {l : Launch} {D : va_G} {cy : Nat → ClassId} {ad : Nat → Nat} {A : Nat → Prop} (d : Nat) (hd : 0 ≤ d) (p1 : Int32) (M : aw_M) (r : Int32) (M1 : aw_M) (h : fm_canDo p1 M = some (r, M1)) : AX l D cy ad A gm_G yX10_canDo cX10_canDo 2 (some .boolean) d [.ref (ad 0), .int p1] M (some (.int r)) M1 := by
  refine AX.of (own := RX10) (by decide +kernel) rfl (Nat.le_of_ble_eq_true rfl) ?_
  unfold fm_canDo at h
  show AW l D cy ad A gm_G RX10 cX10_canDo 2 (some .boolean) d (some (.int r)) M1 0 [(0, .ref (ad 0)), (1, .int p1)] [] M
  refine x_iload_n (pc := 0) 1 dX10_canDo_0 rfl rfl ?_
  refine x_iconst (pc := 1) (w := 3) dX10_canDo_1 ic_3 ?_
  refine x_icmp_ne (pc := 2) 25 dX10_canDo_2 (by decide) (fun c_1 => ?_) (fun c_1 => ?_)
  · have h := aw_neg h c_1
    refine x_iload_n (pc := 25) 1 dX10_canDo_25 rfl rfl ?_
    refine x_iconst (pc := 26) (w := 4) dX10_canDo_26 ic_4 ?_
    refine x_icmp_ne (pc := 27) 48 dX10_canDo_27 (by decide) (fun c_2 => ?_) (fun c_2 => ?_)
    · have h := aw_neg h c_2
      refine x_iload_n (pc := 48) 1 dX10_canDo_48 rfl rfl ?_
      refine x_iconst (pc := 49) (w := 5) dX10_canDo_49 ic_5 ?_
      refine x_icmp_ne (pc := 50) 73 dX10_canDo_50 (by decide) (fun c_3 => ?_) (fun c_3 => ?_)
      · have h := aw_neg h c_3
        refine x_iload_n (pc := 73) 1 dX10_canDo_73 rfl rfl ?_
        refine x_bipush (pc := 74) (w := 6) dX10_canDo_74 bi_6 ?_
        refine x_icmp_ne (pc := 76) 89 dX10_canDo_76 (by decide) (fun c_4 => ?_) (fun c_4 => ?_)
        · have h := aw_neg h c_4
          refine x_iconst (pc := 89) (w := 1) dX10_canDo_89 ic_1 ?_
          refine x_goto (pc := 90) 94 dX10_canDo_90 (by decide) ?_
          obtain ⟨rfl, rfl⟩ := aw_so h
          exact x_zret (pc := 94) aw_b1 dX10_canDo_94
        · have h := aw_pos h c_4
          refine x_aload_n (pc := 79) 0 dX10_canDo_79 rfl rfl ?_
          refine x_get (pc := 80) dX10_canDo_80 lk_X10_7 gm_0 rfl rfl ?_
          refine x_bipush (pc := 83) (w := 9) dX10_canDo_83 bi_9 ?_
          refine x_ialdJ (pc := 85) 9 dX10_canDo_85 gm_1 (by decide) tn_9 ?_
          refine x_if_le (pc := 86) 93 dX10_canDo_86 (by decide) (fun c_5 => ?_) (fun c_5 => ?_)
          · have h := aw_pos h c_5
            refine x_iconst (pc := 93) (w := 0) dX10_canDo_93 ic_0 ?_
            obtain ⟨rfl, rfl⟩ := aw_so h
            exact x_zret (pc := 94) aw_b0 dX10_canDo_94
          · have h := aw_neg h c_5
            refine x_iconst (pc := 89) (w := 1) dX10_canDo_89 ic_1 ?_
            refine x_goto (pc := 90) 94 dX10_canDo_90 (by decide) ?_
            obtain ⟨rfl, rfl⟩ := aw_so h
            exact x_zret (pc := 94) aw_b1 dX10_canDo_94
      · have h := aw_pos h c_3
        refine x_aload_n (pc := 53) 0 dX10_canDo_53 rfl rfl ?_
        refine x_get (pc := 54) dX10_canDo_54 lk_X10_7 gm_0 rfl rfl ?_
        refine x_bipush (pc := 57) (w := 9) dX10_canDo_57 bi_9 ?_
        refine x_ialdJ (pc := 59) 9 dX10_canDo_59 gm_1 (by decide) tn_9 ?_
        refine x_bipush (pc := 60) (w := 9) dX10_canDo_60 bi_9 ?_
        refine x_icmp_ge (pc := 62) 69 dX10_canDo_62 (by decide) (fun c_6 => ?_) (fun c_6 => ?_)
        · have h := aw_pos h c_6
          refine x_iconst (pc := 69) (w := 0) dX10_canDo_69 ic_0 ?_
          refine x_goto (pc := 70) 94 dX10_canDo_70 (by decide) ?_
          obtain ⟨rfl, rfl⟩ := aw_so h
          exact x_zret (pc := 94) aw_b0 dX10_canDo_94
        · have h := aw_neg h c_6
          refine x_iconst (pc := 65) (w := 1) dX10_canDo_65 ic_1 ?_
          refine x_goto (pc := 66) 94 dX10_canDo_66 (by decide) ?_
          obtain ⟨rfl, rfl⟩ := aw_so h
          exact x_zret (pc := 94) aw_b1 dX10_canDo_94
    · have h := aw_pos h c_2
      refine x_aload_n (pc := 30) 0 dX10_canDo_30 rfl rfl ?_
      refine x_get (pc := 31) dX10_canDo_31 lk_X10_7 gm_0 rfl rfl ?_
      refine x_bipush (pc := 34) (w := 8) dX10_canDo_34 bi_8 ?_
      refine x_ialdJ (pc := 36) 8 dX10_canDo_36 gm_1 (by decide) tn_8 ?_
      refine x_if_le (pc := 37) 44 dX10_canDo_37 (by decide) (fun c_7 => ?_) (fun c_7 => ?_)
      · have h := aw_pos h c_7
        refine x_iconst (pc := 44) (w := 0) dX10_canDo_44 ic_0 ?_
        refine x_goto (pc := 45) 94 dX10_canDo_45 (by decide) ?_
        obtain ⟨rfl, rfl⟩ := aw_so h
        exact x_zret (pc := 94) aw_b0 dX10_canDo_94
      · have h := aw_neg h c_7
        refine x_iconst (pc := 40) (w := 1) dX10_canDo_40 ic_1 ?_
        refine x_goto (pc := 41) 94 dX10_canDo_41 (by decide) ?_
        obtain ⟨rfl, rfl⟩ := aw_so h
        exact x_zret (pc := 94) aw_b1 dX10_canDo_94
  · have h := aw_pos h c_1
    refine x_aload_n (pc := 5) 0 dX10_canDo_5 rfl rfl ?_
    refine x_get (pc := 6) dX10_canDo_6 lk_X10_7 gm_0 rfl rfl ?_
    refine x_bipush (pc := 9) (w := 8) dX10_canDo_9 bi_8 ?_
    refine x_ialdJ (pc := 11) 8 dX10_canDo_11 gm_1 (by decide) tn_8 ?_
    refine x_bipush (pc := 12) (w := 9) dX10_canDo_12 bi_9 ?_
    refine x_icmp_ge (pc := 14) 21 dX10_canDo_14 (by decide) (fun c_8 => ?_) (fun c_8 => ?_)
    · have h := aw_pos h c_8
      refine x_iconst (pc := 21) (w := 0) dX10_canDo_21 ic_0 ?_
      refine x_goto (pc := 22) 94 dX10_canDo_22 (by decide) ?_
      obtain ⟨rfl, rfl⟩ := aw_so h
      exact x_zret (pc := 94) aw_b0 dX10_canDo_94
    · have h := aw_neg h c_8
      refine x_iconst (pc := 17) (w := 1) dX10_canDo_17 ic_1 ?_
      refine x_goto (pc := 18) 94 dX10_canDo_18 (by decide) ?_
      obtain ⟨rfl, rfl⟩ := aw_so h
      exact x_zret (pc := 94) aw_b1 dX10_canDo_94
def fm_does_J126 (p1 : Int32) (M : aw_M) : Option aw_M :=
    aw_bi (fm_lasts p1 M) fun r_8 M_9 => (
    some (aw_u M_9 1 0 ((M 1 0) + r_8))
    )
set_option maxRecDepth 20000 in
theorem tm_does_J126 {l : Launch} {D : va_G} {cy : Nat → ClassId} {ad : Nat → Nat} {A : Nat → Prop} (d : Nat) (hd : 1 ≤ d) (p1 : Int32) (M : aw_M) (M1 : aw_M) (h : fm_does_J126 p1 M = some M1) : AW l D cy ad A gm_G RX10 cX10_does 2 none d none M1 126 [(0, .ref (ad 0)), (1, .int p1)] [] M := by
  have hd1 : (d - 1) + 1 ≤ d := by omega
  have hm1 : 1 ≤ d := by omega
  have hh_0 : 0 ≤ d - 1 := by omega
  unfold fm_does_J126 at h
  refine x_aload_n (pc := 126) 0 dX10_does_126 rfl rfl ?_
  refine x_get (pc := 127) dX10_does_127 lk_X10_7 gm_0 rfl rfl ?_
  refine x_iconst (pc := 130) (w := 0) dX10_does_130 ic_0 ?_
  refine x_dup2_11 (pc := 131) dX10_does_131 rfl rfl ?_
  refine x_ialdJ (pc := 132) 0 dX10_does_132 gm_1 (by decide) tn_0 ?_
  refine x_iload_n (pc := 133) 1 dX10_does_133 rfl rfl ?_
  obtain ⟨r_8, M_9, e_7, h⟩ := aw_bi_e h
  refine x_callS (pc := 134) (As := [.int p1]) (rest := [.int (M 1 0), .int 0, .ref (ad 1)]) (st' := [.int r_8, .int (M 1 0), .int 0, .ref (ad 1)]) (w := (some (.int r_8))) dX10_does_134 cw_X10_173 hd1 rfl rfl (Nat.le_of_ble_eq_true rfl) (tm_lasts (d - 1) hh_0 p1 _ _ _ e_7) rfl ?_
  refine x_iadd (pc := 137) dX10_does_137 ?_
  refine x_iastJ (pc := 138) 0 dX10_does_138 gm_1 (by decide) tn_0 ?_
  obtain rfl := aw_sv h
  exact x_vret (pc := 139) dX10_does_139
def fm_does (p1 : Int32) (M : aw_M) : Option aw_M :=
  if p1 = 0 then (
    fm_does_J126  p1 (aw_u M 1 7 0)
  ) else (
    if p1 = 1 then (
      fm_does_J126  p1 (aw_u M 1 10 0)
    ) else (
      if p1 = 2 then (
        fm_does_J126  p1 (aw_u M 1 11 0)
      ) else (
        if p1 = 3 then (
          fm_does_J126  p1 (aw_u M 1 8 ((M 1 8) + 1))
        ) else (
          if p1 = 4 then (
            fm_does_J126  p1 (aw_u M 1 8 ((M 1 8) - 1))
          ) else (
            if p1 = 5 then (
              fm_does_J126  p1 (aw_u M 1 9 ((M 1 9) + 1))
            ) else (
              fm_does_J126  p1 (aw_u M 1 9 ((M 1 9) - 1))
            )
          )
        )
      )
    )
  )
set_option maxRecDepth 20000 in
theorem tm_does {l : Launch} {D : va_G} {cy : Nat → ClassId} {ad : Nat → Nat} {A : Nat → Prop} (d : Nat) (hd : 1 ≤ d) (p1 : Int32) (M : aw_M) (M1 : aw_M) (h : fm_does p1 M = some M1) : AX l D cy ad A gm_G yX10_does cX10_does 2 none d [.ref (ad 0), .int p1] M none M1 := by
  have hd1 : (d - 1) + 1 ≤ d := by omega
  have hm1 : 1 ≤ d := by omega
  have hh_0 : 0 ≤ d - 1 := by omega
  refine AX.of (own := RX10) (by decide +kernel) rfl (Nat.le_of_ble_eq_true rfl) ?_
  unfold fm_does at h
  show AW l D cy ad A gm_G RX10 cX10_does 2 none d none M1 0 [(0, .ref (ad 0)), (1, .int p1)] [] M
  refine x_iload_n (pc := 0) 1 dX10_does_0 rfl rfl ?_
  by_cases c_1 : p1 = 0
  · have h := aw_pos h c_1
    refine x_tin (pc := 1) (off := 39) 0 40 dX10_does_1 c_1 (by decide) (by decide) rfl (by decide) ?_
    refine x_aload_n (pc := 40) 0 dX10_does_40 rfl rfl ?_
    refine x_get (pc := 41) dX10_does_41 lk_X10_7 gm_0 rfl rfl ?_
    refine x_bipush (pc := 44) (w := 7) dX10_does_44 bi_7 ?_
    refine x_iconst (pc := 46) (w := 0) dX10_does_46 ic_0 ?_
    refine x_iastJ (pc := 47) 7 dX10_does_47 gm_1 (by decide) tn_7 ?_
    refine x_goto (pc := 48) 126 dX10_does_48 (by decide) ?_
    refine x_lv [0, 1] [(0, .ref (ad 0)), (1, .int p1)] rfl ?_
    exact tm_does_J126 d hd  p1 _ _ h
  · have h := aw_neg h c_1
    by_cases c_2 : p1 = 1
    · have h := aw_pos h c_2
      refine x_tin (pc := 1) (off := 50) 1 51 dX10_does_1 c_2 (by decide) (by decide) rfl (by decide) ?_
      refine x_aload_n (pc := 51) 0 dX10_does_51 rfl rfl ?_
      refine x_get (pc := 52) dX10_does_52 lk_X10_7 gm_0 rfl rfl ?_
      refine x_bipush (pc := 55) (w := 10) dX10_does_55 bi_10 ?_
      refine x_iconst (pc := 57) (w := 0) dX10_does_57 ic_0 ?_
      refine x_iastJ (pc := 58) 10 dX10_does_58 gm_1 (by decide) tn_10 ?_
      refine x_goto (pc := 59) 126 dX10_does_59 (by decide) ?_
      refine x_lv [0, 1] [(0, .ref (ad 0)), (1, .int p1)] rfl ?_
      exact tm_does_J126 d hd  p1 _ _ h
    · have h := aw_neg h c_2
      by_cases c_3 : p1 = 2
      · have h := aw_pos h c_3
        refine x_tin (pc := 1) (off := 61) 2 62 dX10_does_1 c_3 (by decide) (by decide) rfl (by decide) ?_
        refine x_aload_n (pc := 62) 0 dX10_does_62 rfl rfl ?_
        refine x_get (pc := 63) dX10_does_63 lk_X10_7 gm_0 rfl rfl ?_
        refine x_bipush (pc := 66) (w := 11) dX10_does_66 bi_11 ?_
        refine x_iconst (pc := 68) (w := 0) dX10_does_68 ic_0 ?_
        refine x_iastJ (pc := 69) 11 dX10_does_69 gm_1 (by decide) tn_11 ?_
        refine x_goto (pc := 70) 126 dX10_does_70 (by decide) ?_
        refine x_lv [0, 1] [(0, .ref (ad 0)), (1, .int p1)] rfl ?_
        exact tm_does_J126 d hd  p1 _ _ h
      · have h := aw_neg h c_3
        by_cases c_4 : p1 = 3
        · have h := aw_pos h c_4
          refine x_tin (pc := 1) (off := 72) 3 73 dX10_does_1 c_4 (by decide) (by decide) rfl (by decide) ?_
          refine x_aload_n (pc := 73) 0 dX10_does_73 rfl rfl ?_
          refine x_get (pc := 74) dX10_does_74 lk_X10_7 gm_0 rfl rfl ?_
          refine x_bipush (pc := 77) (w := 8) dX10_does_77 bi_8 ?_
          refine x_dup2_11 (pc := 79) dX10_does_79 rfl rfl ?_
          refine x_ialdJ (pc := 80) 8 dX10_does_80 gm_1 (by decide) tn_8 ?_
          refine x_iconst (pc := 81) (w := 1) dX10_does_81 ic_1 ?_
          refine x_iadd (pc := 82) dX10_does_82 ?_
          refine x_iastJ (pc := 83) 8 dX10_does_83 gm_1 (by decide) tn_8 ?_
          refine x_goto (pc := 84) 126 dX10_does_84 (by decide) ?_
          refine x_lv [0, 1] [(0, .ref (ad 0)), (1, .int p1)] rfl ?_
          exact tm_does_J126 d hd  p1 _ _ h
        · have h := aw_neg h c_4
          by_cases c_5 : p1 = 4
          · have h := aw_pos h c_5
            refine x_tin (pc := 1) (off := 86) 4 87 dX10_does_1 c_5 (by decide) (by decide) rfl (by decide) ?_
            refine x_aload_n (pc := 87) 0 dX10_does_87 rfl rfl ?_
            refine x_get (pc := 88) dX10_does_88 lk_X10_7 gm_0 rfl rfl ?_
            refine x_bipush (pc := 91) (w := 8) dX10_does_91 bi_8 ?_
            refine x_dup2_11 (pc := 93) dX10_does_93 rfl rfl ?_
            refine x_ialdJ (pc := 94) 8 dX10_does_94 gm_1 (by decide) tn_8 ?_
            refine x_iconst (pc := 95) (w := 1) dX10_does_95 ic_1 ?_
            refine x_isub (pc := 96) dX10_does_96 ?_
            refine x_iastJ (pc := 97) 8 dX10_does_97 gm_1 (by decide) tn_8 ?_
            refine x_goto (pc := 98) 126 dX10_does_98 (by decide) ?_
            refine x_lv [0, 1] [(0, .ref (ad 0)), (1, .int p1)] rfl ?_
            exact tm_does_J126 d hd  p1 _ _ h
          · have h := aw_neg h c_5
            by_cases c_6 : p1 = 5
            · have h := aw_pos h c_6
              refine x_tin (pc := 1) (off := 100) 5 101 dX10_does_1 c_6 (by decide) (by decide) rfl (by decide) ?_
              refine x_aload_n (pc := 101) 0 dX10_does_101 rfl rfl ?_
              refine x_get (pc := 102) dX10_does_102 lk_X10_7 gm_0 rfl rfl ?_
              refine x_bipush (pc := 105) (w := 9) dX10_does_105 bi_9 ?_
              refine x_dup2_11 (pc := 107) dX10_does_107 rfl rfl ?_
              refine x_ialdJ (pc := 108) 9 dX10_does_108 gm_1 (by decide) tn_9 ?_
              refine x_iconst (pc := 109) (w := 1) dX10_does_109 ic_1 ?_
              refine x_iadd (pc := 110) dX10_does_110 ?_
              refine x_iastJ (pc := 111) 9 dX10_does_111 gm_1 (by decide) tn_9 ?_
              refine x_goto (pc := 112) 126 dX10_does_112 (by decide) ?_
              refine x_lv [0, 1] [(0, .ref (ad 0)), (1, .int p1)] rfl ?_
              exact tm_does_J126 d hd  p1 _ _ h
            · have h := aw_neg h c_6
              refine x_tout (pc := 1) 115 dX10_does_1 (by have z0 := lv_neT c_1 (a := 0) rfl; have z1 := lv_neT c_2 (a := 1) rfl; have z2 := lv_neT c_3 (a := 2) rfl; have z3 := lv_neT c_4 (a := 3) rfl; have z4 := lv_neT c_5 (a := 4) rfl; have z5 := lv_neT c_6 (a := 5) rfl; omega) (by decide) ?_
              refine x_aload_n (pc := 115) 0 dX10_does_115 rfl rfl ?_
              refine x_get (pc := 116) dX10_does_116 lk_X10_7 gm_0 rfl rfl ?_
              refine x_bipush (pc := 119) (w := 9) dX10_does_119 bi_9 ?_
              refine x_dup2_11 (pc := 121) dX10_does_121 rfl rfl ?_
              refine x_ialdJ (pc := 122) 9 dX10_does_122 gm_1 (by decide) tn_9 ?_
              refine x_iconst (pc := 123) (w := 1) dX10_does_123 ic_1 ?_
              refine x_isub (pc := 124) dX10_does_124 ?_
              refine x_iastJ (pc := 125) 9 dX10_does_125 gm_1 (by decide) tn_9 ?_
              refine x_lv [0, 1] [(0, .ref (ad 0)), (1, .int p1)] rfl ?_
              exact tm_does_J126 d hd  p1 _ _ h
def fm_deed (p1 : Int32) (M : aw_M) : Option (Int32 × aw_M) :=
  aw_bi (fm_in p1 0 6 M) fun r_2 M_3 => (
  if r_2 = 0 then (
    fm_errs (-1000000001) M_3
  ) else (
    aw_bi (fm_canDo p1 M_3) fun r_6 M_7 => (
    if r_6 = 0 then (
      fm_errs (-1000000003) M_7
    ) else (
      aw_bi (fm_lasts p1 M_7) fun r_10 M_11 => (
      if ((M_7 1 0) + r_10) ≤ 99999 then (
        aw_bv (fm_does p1 M_11) fun M_14 => (
        some ((M_14 1 0), M_14)
        )
      ) else (
        fm_errs (-1000000003) M_11
      )
      )
    )
    )
  )
  )
set_option maxRecDepth 20000 in
theorem tm_deed {l : Launch} {D : va_G} {cy : Nat → ClassId} {ad : Nat → Nat} {A : Nat → Prop} (d : Nat) (hd : 2 ≤ d) (p1 : Int32) (M : aw_M) (r : Int32) (M1 : aw_M) (h : fm_deed p1 M = some (r, M1)) : AX l D cy ad A gm_G yX10_deed cX10_deed 2 (some .int) d [.ref (ad 0), .int p1] M (some (.int r)) M1 := by
  have hd1 : (d - 1) + 1 ≤ d := by omega
  have hm1 : 1 ≤ d := by omega
  have hh_0 : 0 ≤ d - 1 := by omega
  have hh_1 : 1 ≤ d - 1 := by omega
  refine AX.of (own := RX10) (by decide +kernel) rfl (Nat.le_of_ble_eq_true rfl) ?_
  unfold fm_deed at h
  show AW l D cy ad A gm_G RX10 cX10_deed 2 (some .int) d (some (.int r)) M1 0 [(0, .ref (ad 0)), (1, .int p1)] [] M
  refine x_iload_n (pc := 0) 1 dX10_deed_0 rfl rfl ?_
  refine x_iconst (pc := 1) (w := 0) dX10_deed_1 ic_0 ?_
  refine x_bipush (pc := 2) (w := 6) dX10_deed_2 bi_6 ?_
  obtain ⟨r_2, M_3, e_1, h⟩ := aw_bi_e h
  refine x_callS (pc := 4) (As := [.int p1, .int 0, .int 6]) (rest := []) (st' := [.int r_2]) (w := (some (.int r_2))) dX10_deed_4 cw_X10_44 hd1 rfl rfl (Nat.le_of_ble_eq_true rfl) (tm_in (d - 1) hh_0 p1 0 6 _ _ _ e_1) rfl ?_
  refine x_if_ne (pc := 7) 17 dX10_deed_7 (by decide) (fun c_4 => ?_) (fun c_4 => ?_)
  · have h := aw_neg h c_4
    refine x_aload_n (pc := 17) 0 dX10_deed_17 rfl rfl ?_
    refine x_iload_n (pc := 18) 1 dX10_deed_18 rfl rfl ?_
    obtain ⟨r_6, M_7, e_5, h⟩ := aw_bi_e h
    refine x_callV (pc := 19) (As := [.int p1]) (rest := []) (st' := [.int r_6]) (w := (some (.int r_6))) dX10_deed_19 cw_X10_176 hd1 gm_0 rfl rfl rfl (Nat.le_of_ble_eq_true rfl) (tm_canDo (d - 1) hh_0 p1 _ _ _ e_5) rfl ?_
    refine x_if_eq (pc := 22) 41 dX10_deed_22 (by decide) (fun c_8 => ?_) (fun c_8 => ?_)
    · have h := aw_pos h c_8
      refine x_aload_n (pc := 41) 0 dX10_deed_41 rfl rfl ?_
      refine x_ldc (pc := 42) dX10_deed_42 wk_X10_169 ?_
      refine x_callV (pc := 44) (As := [.int (-1000000003)]) (rest := []) (st' := [.int r]) (w := (some (.int r))) dX10_deed_44 cw_X10_49 hd1 gm_0 rfl rfl rfl (Nat.le_of_ble_eq_true rfl) (tm_errs (d - 1) hh_0 (-1000000003) _ _ _ h) rfl ?_
      exact x_iret (pc := 47) dX10_deed_47
    · have h := aw_neg h c_8
      refine x_aload_n (pc := 25) 0 dX10_deed_25 rfl rfl ?_
      refine x_get (pc := 26) dX10_deed_26 lk_X10_7 gm_0 rfl rfl ?_
      refine x_iconst (pc := 29) (w := 0) dX10_deed_29 ic_0 ?_
      refine x_ialdJ (pc := 30) 0 dX10_deed_30 gm_1 (by decide) tn_0 ?_
      refine x_iload_n (pc := 31) 1 dX10_deed_31 rfl rfl ?_
      obtain ⟨r_10, M_11, e_9, h⟩ := aw_bi_e h
      refine x_callS (pc := 32) (As := [.int p1]) (rest := [.int (M_7 1 0)]) (st' := [.int r_10, .int (M_7 1 0)]) (w := (some (.int r_10))) dX10_deed_32 cw_X10_173 hd1 rfl rfl (Nat.le_of_ble_eq_true rfl) (tm_lasts (d - 1) hh_0 p1 _ _ _ e_9) rfl ?_
      refine x_iadd (pc := 35) dX10_deed_35 ?_
      refine x_ldc (pc := 36) dX10_deed_36 wk_X10_168 ?_
      refine x_icmp_le (pc := 38) 48 dX10_deed_38 (by decide) (fun c_12 => ?_) (fun c_12 => ?_)
      · have h := aw_pos h c_12
        refine x_aload_n (pc := 48) 0 dX10_deed_48 rfl rfl ?_
        refine x_iload_n (pc := 49) 1 dX10_deed_49 rfl rfl ?_
        obtain ⟨M_14, e_13, h⟩ := aw_bv_e h
        refine x_callV (pc := 50) (As := [.int p1]) (rest := []) (st' := []) (w := none) dX10_deed_50 cw_X10_179 hd1 gm_0 rfl rfl rfl (Nat.le_of_ble_eq_true rfl) (tm_does (d - 1) hh_1 p1 _  _ e_13) rfl ?_
        refine x_aload_n (pc := 53) 0 dX10_deed_53 rfl rfl ?_
        refine x_get (pc := 54) dX10_deed_54 lk_X10_7 gm_0 rfl rfl ?_
        refine x_iconst (pc := 57) (w := 0) dX10_deed_57 ic_0 ?_
        refine x_ialdJ (pc := 58) 0 dX10_deed_58 gm_1 (by decide) tn_0 ?_
        obtain ⟨rfl, rfl⟩ := aw_so h
        exact x_iret (pc := 59) dX10_deed_59
      · have h := aw_neg h c_12
        refine x_aload_n (pc := 41) 0 dX10_deed_41 rfl rfl ?_
        refine x_ldc (pc := 42) dX10_deed_42 wk_X10_169 ?_
        refine x_callV (pc := 44) (As := [.int (-1000000003)]) (rest := []) (st' := [.int r]) (w := (some (.int r))) dX10_deed_44 cw_X10_49 hd1 gm_0 rfl rfl rfl (Nat.le_of_ble_eq_true rfl) (tm_errs (d - 1) hh_0 (-1000000003) _ _ _ h) rfl ?_
        exact x_iret (pc := 47) dX10_deed_47
  · have h := aw_pos h c_4
    refine x_aload_n (pc := 10) 0 dX10_deed_10 rfl rfl ?_
    refine x_ldc (pc := 11) dX10_deed_11 wk_X10_48 ?_
    refine x_callV (pc := 13) (As := [.int (-1000000001)]) (rest := []) (st' := [.int r]) (w := (some (.int r))) dX10_deed_13 cw_X10_49 hd1 gm_0 rfl rfl rfl (Nat.le_of_ble_eq_true rfl) (tm_errs (d - 1) hh_0 (-1000000001) _ _ _ h) rfl ?_
    exact x_iret (pc := 16) dX10_deed_16
def fm_drawn (p1 : Int32) (M : aw_M) : Option (Int32 × aw_M) :=
  if p1 = 0 then none else (
  some ((aw_rem (aw_ush ((aw_u M 1 1 (((M 1 1) * 1103515245) + 12345)) 1 1) 8) p1), (aw_u M 1 1 (((M 1 1) * 1103515245) + 12345)))
  )
set_option maxRecDepth 20000 in
theorem tm_drawn {l : Launch} {D : va_G} {cy : Nat → ClassId} {ad : Nat → Nat} {A : Nat → Prop} (d : Nat) (hd : 0 ≤ d) (p1 : Int32) (M : aw_M) (r : Int32) (M1 : aw_M) (h : fm_drawn p1 M = some (r, M1)) : AX l D cy ad A gm_G yX10_drawn cX10_drawn 2 (some .int) d [.ref (ad 0), .int p1] M (some (.int r)) M1 := by
  refine AX.of (own := RX10) (by decide +kernel) rfl (Nat.le_of_ble_eq_true rfl) ?_
  unfold fm_drawn at h
  show AW l D cy ad A gm_G RX10 cX10_drawn 2 (some .int) d (some (.int r)) M1 0 [(0, .ref (ad 0)), (1, .int p1)] [] M
  refine x_aload_n (pc := 0) 0 dX10_drawn_0 rfl rfl ?_
  refine x_get (pc := 1) dX10_drawn_1 lk_X10_7 gm_0 rfl rfl ?_
  refine x_iconst (pc := 4) (w := 1) dX10_drawn_4 ic_1 ?_
  refine x_aload_n (pc := 5) 0 dX10_drawn_5 rfl rfl ?_
  refine x_get (pc := 6) dX10_drawn_6 lk_X10_7 gm_0 rfl rfl ?_
  refine x_iconst (pc := 9) (w := 1) dX10_drawn_9 ic_1 ?_
  refine x_ialdJ (pc := 10) 1 dX10_drawn_10 gm_1 (by decide) tn_1 ?_
  refine x_ldc (pc := 11) dX10_drawn_11 wk_X10_183 ?_
  refine x_imul (pc := 13) dX10_drawn_13 ?_
  refine x_sipush (pc := 14) (w := 12345) dX10_drawn_14 si_12345 ?_
  refine x_iadd (pc := 17) dX10_drawn_17 ?_
  refine x_iastJ (pc := 18) 1 dX10_drawn_18 gm_1 (by decide) tn_1 ?_
  refine x_aload_n (pc := 19) 0 dX10_drawn_19 rfl rfl ?_
  refine x_get (pc := 20) dX10_drawn_20 lk_X10_7 gm_0 rfl rfl ?_
  refine x_iconst (pc := 23) (w := 1) dX10_drawn_23 ic_1 ?_
  refine x_ialdJ (pc := 24) 1 dX10_drawn_24 gm_1 (by decide) tn_1 ?_
  refine x_bipush (pc := 25) (w := 8) dX10_drawn_25 bi_8 ?_
  refine x_iushr (pc := 27) dX10_drawn_27 ?_
  refine x_iload_n (pc := 28) 1 dX10_drawn_28 rfl rfl ?_
  obtain ⟨c_1, h⟩ := aw_ck h
  refine x_irem (pc := 29) dX10_drawn_29 c_1 ?_
  obtain ⟨rfl, rfl⟩ := aw_so h
  exact x_iret (pc := 30) dX10_drawn_30
def fm_loose_J77 (K44 : Int32 → Int32 → Int32 → aw_M → Option (Int32 × aw_M)) (p1 : Int32) (p2 : Int32) (p3 : Int32) (p4 : Int32) (p100 : Int32) (M : aw_M) : Option (Int32 × aw_M) :=
    aw_bi (fm_drawn p100 M) fun r_12 M_13 => (
    aw_bi (fm_canDo p4 M_13) fun r_15 M_16 => (
    if r_15 = 0 then (
      if (M_16 1 2) ≤ 0 then (
        K44 p1 (p2 + 0) (p3 + 1) M_16
      ) else (
        aw_bi (fm_yard r_12 M_16) fun r_20 M_21 => (
        K44 p1 (p2 + r_20) (p3 + 1) M_21
        )
      )
    ) else (
      aw_bv (fm_does p4 M_16) fun M_23 => (
      if (M_23 1 2) ≤ 0 then (
        K44 p1 (p2 + 0) (p3 + 1) M_23
      ) else (
        aw_bi (fm_yard r_12 M_23) fun r_26 M_27 => (
        K44 p1 (p2 + r_26) (p3 + 1) M_27
        )
      )
      )
    )
    )
    )
set_option maxRecDepth 20000 in
theorem tm_loose_J77 {l : Launch} {D : va_G} {cy : Nat → ClassId} {ad : Nat → Nat} {A : Nat → Prop} (d : Nat) (hd : 108 ≤ d) (K44 : Int32 → Int32 → Int32 → aw_M → Option (Int32 × aw_M)) (hK44 : ∀ (p1 : Int32) (p2 : Int32) (p3 : Int32) (M : aw_M) (r : Int32) (M1 : aw_M), K44  p1 p2 p3 M = some (r, M1) → AW l D cy ad A gm_G RX10 cX10_loose 6 (some .int) d (some (.int r)) M1 44 [(0, .ref (ad 0)), (1, .int p1), (2, .int p2), (3, .int p3)] [] M) (p1 : Int32) (p2 : Int32) (p3 : Int32) (p4 : Int32) (p100 : Int32) (M : aw_M) (r : Int32) (M1 : aw_M) (h : fm_loose_J77 K44 p1 p2 p3 p4 p100 M = some (r, M1)) : AW l D cy ad A gm_G RX10 cX10_loose 6 (some .int) d (some (.int r)) M1 77 [(0, .ref (ad 0)), (1, .int p1), (2, .int p2), (3, .int p3), (4, .int p4)] [.int p100, .ref (ad 0)] M := by
  have hd1 : (d - 1) + 1 ≤ d := by omega
  have hm1 : 1 ≤ d := by omega
  have hh_0 : 0 ≤ d - 1 := by omega
  have hh_1 : 1 ≤ d - 1 := by omega
  have hh_107 : 107 ≤ d - 1 := by omega
  unfold fm_loose_J77 at h
  obtain ⟨r_12, M_13, e_11, h⟩ := aw_bi_e h
  refine x_callV (pc := 77) (As := [.int p100]) (rest := []) (st' := [.int r_12]) (w := (some (.int r_12))) dX10_loose_77 cw_X10_184 hd1 gm_0 rfl rfl rfl (Nat.le_of_ble_eq_true rfl) (tm_drawn (d - 1) hh_0 p100 _ _ _ e_11) rfl ?_
  refine x_istore (pc := 80) 5 [(5, .int r_12), (0, .ref (ad 0)), (1, .int p1), (2, .int p2), (3, .int p3), (4, .int p4)] dX10_loose_80 (by decide) rfl ?_
  refine x_aload_n (pc := 82) 0 dX10_loose_82 rfl rfl ?_
  refine x_iload (pc := 83) dX10_loose_83 rfl ?_
  obtain ⟨r_15, M_16, e_14, h⟩ := aw_bi_e h
  refine x_callV (pc := 85) (As := [.int p4]) (rest := []) (st' := [.int r_15]) (w := (some (.int r_15))) dX10_loose_85 cw_X10_176 hd1 gm_0 rfl rfl rfl (Nat.le_of_ble_eq_true rfl) (tm_canDo (d - 1) hh_0 p4 _ _ _ e_14) rfl ?_
  refine x_if_eq (pc := 88) 97 dX10_loose_88 (by decide) (fun c_17 => ?_) (fun c_17 => ?_)
  · have h := aw_pos h c_17
    refine x_iload_n (pc := 97) 2 dX10_loose_97 rfl rfl ?_
    refine x_aload_n (pc := 98) 0 dX10_loose_98 rfl rfl ?_
    refine x_get (pc := 99) dX10_loose_99 lk_X10_7 gm_0 rfl rfl ?_
    refine x_iconst (pc := 102) (w := 2) dX10_loose_102 ic_2 ?_
    refine x_ialdJ (pc := 103) 2 dX10_loose_103 gm_1 (by decide) tn_2 ?_
    refine x_if_le (pc := 104) 116 dX10_loose_104 (by decide) (fun c_18 => ?_) (fun c_18 => ?_)
    · have h := aw_pos h c_18
      refine x_iconst (pc := 116) (w := 0) dX10_loose_116 ic_0 ?_
      refine x_iadd (pc := 117) dX10_loose_117 ?_
      refine x_istore_n (pc := 118) 2 [(2, .int (p2 + 0)), (5, .int r_12), (0, .ref (ad 0)), (1, .int p1), (3, .int p3), (4, .int p4)] dX10_loose_118 rfl (by decide) rfl ?_
      refine x_iinc (pc := 119) (p3 + 1) [(3, .int (p3 + 1)), (2, .int (p2 + 0)), (5, .int r_12), (0, .ref (ad 0)), (1, .int p1), (4, .int p4)] dX10_loose_119 rfl (congrArg (fun z => p3 + z) ic_1) (by decide) rfl ?_
      refine x_goto (pc := 122) 44 dX10_loose_122 (by decide) ?_
      refine x_lv [3, 4, 1, 0] [(0, .ref (ad 0)), (1, .int p1), (2, .int (p2 + 0)), (3, .int (p3 + 1))] rfl ?_
      exact hK44 p1 (p2 + 0) (p3 + 1) _ _ _ h
    · have h := aw_neg h c_18
      refine x_aload_n (pc := 107) 0 dX10_loose_107 rfl rfl ?_
      refine x_iload (pc := 108) dX10_loose_108 rfl ?_
      obtain ⟨r_20, M_21, e_19, h⟩ := aw_bi_e h
      refine x_callV (pc := 110) (As := [.int r_12]) (rest := [.int p2]) (st' := [.int r_20, .int p2]) (w := (some (.int r_20))) dX10_loose_110 cw_X10_165 hd1 gm_0 rfl rfl rfl (Nat.le_of_ble_eq_true rfl) (tm_yard (d - 1) hh_107 r_12 _ _ _ e_19) rfl ?_
      refine x_goto (pc := 113) 117 dX10_loose_113 (by decide) ?_
      refine x_iadd (pc := 117) dX10_loose_117 ?_
      refine x_istore_n (pc := 118) 2 [(2, .int (p2 + r_20)), (5, .int r_12), (0, .ref (ad 0)), (1, .int p1), (3, .int p3), (4, .int p4)] dX10_loose_118 rfl (by decide) rfl ?_
      refine x_iinc (pc := 119) (p3 + 1) [(3, .int (p3 + 1)), (2, .int (p2 + r_20)), (5, .int r_12), (0, .ref (ad 0)), (1, .int p1), (4, .int p4)] dX10_loose_119 rfl (congrArg (fun z => p3 + z) ic_1) (by decide) rfl ?_
      refine x_goto (pc := 122) 44 dX10_loose_122 (by decide) ?_
      refine x_lv [3, 4, 1, 0] [(0, .ref (ad 0)), (1, .int p1), (2, .int (p2 + r_20)), (3, .int (p3 + 1))] rfl ?_
      exact hK44 p1 (p2 + r_20) (p3 + 1) _ _ _ h
  · have h := aw_neg h c_17
    refine x_aload_n (pc := 91) 0 dX10_loose_91 rfl rfl ?_
    refine x_iload (pc := 92) dX10_loose_92 rfl ?_
    obtain ⟨M_23, e_22, h⟩ := aw_bv_e h
    refine x_callV (pc := 94) (As := [.int p4]) (rest := []) (st' := []) (w := none) dX10_loose_94 cw_X10_179 hd1 gm_0 rfl rfl rfl (Nat.le_of_ble_eq_true rfl) (tm_does (d - 1) hh_1 p4 _  _ e_22) rfl ?_
    refine x_iload_n (pc := 97) 2 dX10_loose_97 rfl rfl ?_
    refine x_aload_n (pc := 98) 0 dX10_loose_98 rfl rfl ?_
    refine x_get (pc := 99) dX10_loose_99 lk_X10_7 gm_0 rfl rfl ?_
    refine x_iconst (pc := 102) (w := 2) dX10_loose_102 ic_2 ?_
    refine x_ialdJ (pc := 103) 2 dX10_loose_103 gm_1 (by decide) tn_2 ?_
    refine x_if_le (pc := 104) 116 dX10_loose_104 (by decide) (fun c_24 => ?_) (fun c_24 => ?_)
    · have h := aw_pos h c_24
      refine x_iconst (pc := 116) (w := 0) dX10_loose_116 ic_0 ?_
      refine x_iadd (pc := 117) dX10_loose_117 ?_
      refine x_istore_n (pc := 118) 2 [(2, .int (p2 + 0)), (5, .int r_12), (0, .ref (ad 0)), (1, .int p1), (3, .int p3), (4, .int p4)] dX10_loose_118 rfl (by decide) rfl ?_
      refine x_iinc (pc := 119) (p3 + 1) [(3, .int (p3 + 1)), (2, .int (p2 + 0)), (5, .int r_12), (0, .ref (ad 0)), (1, .int p1), (4, .int p4)] dX10_loose_119 rfl (congrArg (fun z => p3 + z) ic_1) (by decide) rfl ?_
      refine x_goto (pc := 122) 44 dX10_loose_122 (by decide) ?_
      refine x_lv [3, 4, 1, 0] [(0, .ref (ad 0)), (1, .int p1), (2, .int (p2 + 0)), (3, .int (p3 + 1))] rfl ?_
      exact hK44 p1 (p2 + 0) (p3 + 1) _ _ _ h
    · have h := aw_neg h c_24
      refine x_aload_n (pc := 107) 0 dX10_loose_107 rfl rfl ?_
      refine x_iload (pc := 108) dX10_loose_108 rfl ?_
      obtain ⟨r_26, M_27, e_25, h⟩ := aw_bi_e h
      refine x_callV (pc := 110) (As := [.int r_12]) (rest := [.int p2]) (st' := [.int r_26, .int p2]) (w := (some (.int r_26))) dX10_loose_110 cw_X10_165 hd1 gm_0 rfl rfl rfl (Nat.le_of_ble_eq_true rfl) (tm_yard (d - 1) hh_107 r_12 _ _ _ e_25) rfl ?_
      refine x_goto (pc := 113) 117 dX10_loose_113 (by decide) ?_
      refine x_iadd (pc := 117) dX10_loose_117 ?_
      refine x_istore_n (pc := 118) 2 [(2, .int (p2 + r_26)), (5, .int r_12), (0, .ref (ad 0)), (1, .int p1), (3, .int p3), (4, .int p4)] dX10_loose_118 rfl (by decide) rfl ?_
      refine x_iinc (pc := 119) (p3 + 1) [(3, .int (p3 + 1)), (2, .int (p2 + r_26)), (5, .int r_12), (0, .ref (ad 0)), (1, .int p1), (4, .int p4)] dX10_loose_119 rfl (congrArg (fun z => p3 + z) ic_1) (by decide) rfl ?_
      refine x_goto (pc := 122) 44 dX10_loose_122 (by decide) ?_
      refine x_lv [3, 4, 1, 0] [(0, .ref (ad 0)), (1, .int p1), (2, .int (p2 + r_26)), (3, .int (p3 + 1))] rfl ?_
      exact hK44 p1 (p2 + r_26) (p3 + 1) _ _ _ h
def fm_loose_L44 : Nat → Int32 → Int32 → Int32 → aw_M → Option (Int32 × aw_M)
  | 0, _, _, _, _ => none
  | n + 1, p1, p2, p3, M =>
    if p1 ≤ p3 then (
      some (p2, M)
    ) else (
      aw_bi (fm_drawn 7 M) fun r_8 M_9 => (
      if (M_9 1 2) ≤ 0 then (
        fm_loose_J77 (fm_loose_L44 n) p1 p2 p3 r_8 1 M_9
      ) else (
        fm_loose_J77 (fm_loose_L44 n) p1 p2 p3 r_8 (M_9 1 2) M_9
      )
      )
    )
theorem fm_loose_L44_s (n : Nat) (p1 : Int32) (p2 : Int32) (p3 : Int32) (M : aw_M) : fm_loose_L44 (n + 1) p1 p2 p3 M = (
    if p1 ≤ p3 then (
      some (p2, M)
    ) else (
      aw_bi (fm_drawn 7 M) fun r_8 M_9 => (
      if (M_9 1 2) ≤ 0 then (
        fm_loose_J77 (fm_loose_L44 n) p1 p2 p3 r_8 1 M_9
      ) else (
        fm_loose_J77 (fm_loose_L44 n) p1 p2 p3 r_8 (M_9 1 2) M_9
      )
      )
    )
    ) := rfl
set_option maxRecDepth 20000 in
theorem tm_loose_L44 {l : Launch} {D : va_G} {cy : Nat → ClassId} {ad : Nat → Nat} {A : Nat → Prop} (d : Nat) (hd : 108 ≤ d) : ∀ (n : Nat) (p1 : Int32) (p2 : Int32) (p3 : Int32) (M : aw_M) (r : Int32) (M1 : aw_M), fm_loose_L44 n p1 p2 p3 M = some (r, M1) → AW l D cy ad A gm_G RX10 cX10_loose 6 (some .int) d (some (.int r)) M1 44 [(0, .ref (ad 0)), (1, .int p1), (2, .int p2), (3, .int p3)] [] M := by
  have hd1 : (d - 1) + 1 ≤ d := by omega
  have hm1 : 1 ≤ d := by omega
  have hh_0 : 0 ≤ d - 1 := by omega
  have hh_1 : 1 ≤ d - 1 := by omega
  have hh_107 : 107 ≤ d - 1 := by omega
  intro n
  induction n with
  | zero => intro p1 p2 p3 M r M1 h; cases h
  | succ n ih =>
    intro p1 p2 p3 M r M1 h
    rw [fm_loose_L44_s] at h
    refine x_iload_n (pc := 44) 3 dX10_loose_44 rfl rfl ?_
    refine x_iload_n (pc := 45) 1 dX10_loose_45 rfl rfl ?_
    refine x_icmp_ge (pc := 46) 125 dX10_loose_46 (by decide) (fun c_6 => ?_) (fun c_6 => ?_)
    · have h := aw_pos h c_6
      refine x_iload_n (pc := 125) 2 dX10_loose_125 rfl rfl ?_
      obtain ⟨rfl, rfl⟩ := aw_so h
      exact x_iret (pc := 126) dX10_loose_126
    · have h := aw_neg h c_6
      refine x_aload_n (pc := 49) 0 dX10_loose_49 rfl rfl ?_
      refine x_bipush (pc := 50) (w := 7) dX10_loose_50 bi_7 ?_
      obtain ⟨r_8, M_9, e_7, h⟩ := aw_bi_e h
      refine x_callV (pc := 52) (As := [.int 7]) (rest := []) (st' := [.int r_8]) (w := (some (.int r_8))) dX10_loose_52 cw_X10_184 hd1 gm_0 rfl rfl rfl (Nat.le_of_ble_eq_true rfl) (tm_drawn (d - 1) hh_0 7 _ _ _ e_7) rfl ?_
      refine x_istore (pc := 55) 4 [(4, .int r_8), (0, .ref (ad 0)), (1, .int p1), (2, .int p2), (3, .int p3)] dX10_loose_55 (by decide) rfl ?_
      refine x_aload_n (pc := 57) 0 dX10_loose_57 rfl rfl ?_
      refine x_aload_n (pc := 58) 0 dX10_loose_58 rfl rfl ?_
      refine x_get (pc := 59) dX10_loose_59 lk_X10_7 gm_0 rfl rfl ?_
      refine x_iconst (pc := 62) (w := 2) dX10_loose_62 ic_2 ?_
      refine x_ialdJ (pc := 63) 2 dX10_loose_63 gm_1 (by decide) tn_2 ?_
      refine x_if_le (pc := 64) 76 dX10_loose_64 (by decide) (fun c_10 => ?_) (fun c_10 => ?_)
      · have h := aw_pos h c_10
        refine x_iconst (pc := 76) (w := 1) dX10_loose_76 ic_1 ?_
        refine x_lv [1, 2, 3, 4, 0] [(0, .ref (ad 0)), (1, .int p1), (2, .int p2), (3, .int p3), (4, .int r_8)] rfl ?_
        exact tm_loose_J77 d hd _ ih p1 p2 p3 r_8 1 _ _ _ h
      · have h := aw_neg h c_10
        refine x_aload_n (pc := 67) 0 dX10_loose_67 rfl rfl ?_
        refine x_get (pc := 68) dX10_loose_68 lk_X10_7 gm_0 rfl rfl ?_
        refine x_iconst (pc := 71) (w := 2) dX10_loose_71 ic_2 ?_
        refine x_ialdJ (pc := 72) 2 dX10_loose_72 gm_1 (by decide) tn_2 ?_
        refine x_goto (pc := 73) 77 dX10_loose_73 (by decide) ?_
        refine x_lv [1, 2, 3, 4, 0] [(0, .ref (ad 0)), (1, .int p1), (2, .int p2), (3, .int p3), (4, .int r_8)] rfl ?_
        exact tm_loose_J77 d hd _ ih p1 p2 p3 r_8 (M_9 1 2) _ _ _ h
def fm_loose (p1 : Int32) (M : aw_M) : Option (Int32 × aw_M) :=
  aw_bi (fm_in p1 1 40 M) fun r_2 M_3 => (
  if r_2 = 0 then (
    fm_errs (-1000000001) M_3
  ) else (
    if ((M_3 1 0) + (30 * p1)) ≤ 99999 then (
      fm_loose_L44  2000 p1 0 0 M_3
    ) else (
      fm_errs (-1000000003) M_3
    )
  )
  )
set_option maxRecDepth 20000 in
theorem tm_loose {l : Launch} {D : va_G} {cy : Nat → ClassId} {ad : Nat → Nat} {A : Nat → Prop} (d : Nat) (hd : 108 ≤ d) (p1 : Int32) (M : aw_M) (r : Int32) (M1 : aw_M) (h : fm_loose p1 M = some (r, M1)) : AX l D cy ad A gm_G yX10_loose cX10_loose 6 (some .int) d [.ref (ad 0), .int p1] M (some (.int r)) M1 := by
  have hd1 : (d - 1) + 1 ≤ d := by omega
  have hm1 : 1 ≤ d := by omega
  have hh_0 : 0 ≤ d - 1 := by omega
  have hh_1 : 1 ≤ d - 1 := by omega
  have hh_107 : 107 ≤ d - 1 := by omega
  refine AX.of (own := RX10) (by decide +kernel) rfl (Nat.le_of_ble_eq_true rfl) ?_
  unfold fm_loose at h
  show AW l D cy ad A gm_G RX10 cX10_loose 6 (some .int) d (some (.int r)) M1 0 [(0, .ref (ad 0)), (1, .int p1)] [] M
  refine x_iload_n (pc := 0) 1 dX10_loose_0 rfl rfl ?_
  refine x_iconst (pc := 1) (w := 1) dX10_loose_1 ic_1 ?_
  refine x_bipush (pc := 2) (w := 40) dX10_loose_2 bi_40 ?_
  obtain ⟨r_2, M_3, e_1, h⟩ := aw_bi_e h
  refine x_callS (pc := 4) (As := [.int p1, .int 1, .int 40]) (rest := []) (st' := [.int r_2]) (w := (some (.int r_2))) dX10_loose_4 cw_X10_44 hd1 rfl rfl (Nat.le_of_ble_eq_true rfl) (tm_in (d - 1) hh_0 p1 1 40 _ _ _ e_1) rfl ?_
  refine x_if_ne (pc := 7) 17 dX10_loose_7 (by decide) (fun c_4 => ?_) (fun c_4 => ?_)
  · have h := aw_neg h c_4
    refine x_aload_n (pc := 17) 0 dX10_loose_17 rfl rfl ?_
    refine x_get (pc := 18) dX10_loose_18 lk_X10_7 gm_0 rfl rfl ?_
    refine x_iconst (pc := 21) (w := 0) dX10_loose_21 ic_0 ?_
    refine x_ialdJ (pc := 22) 0 dX10_loose_22 gm_1 (by decide) tn_0 ?_
    refine x_bipush (pc := 23) (w := 30) dX10_loose_23 bi_30 ?_
    refine x_iload_n (pc := 25) 1 dX10_loose_25 rfl rfl ?_
    refine x_imul (pc := 26) dX10_loose_26 ?_
    refine x_iadd (pc := 27) dX10_loose_27 ?_
    refine x_ldc (pc := 28) dX10_loose_28 wk_X10_168 ?_
    refine x_icmp_le (pc := 30) 40 dX10_loose_30 (by decide) (fun c_5 => ?_) (fun c_5 => ?_)
    · have h := aw_pos h c_5
      refine x_iconst (pc := 40) (w := 0) dX10_loose_40 ic_0 ?_
      refine x_istore_n (pc := 41) 2 [(2, .int 0), (0, .ref (ad 0)), (1, .int p1)] dX10_loose_41 rfl (by decide) rfl ?_
      refine x_iconst (pc := 42) (w := 0) dX10_loose_42 ic_0 ?_
      refine x_istore_n (pc := 43) 3 [(3, .int 0), (2, .int 0), (0, .ref (ad 0)), (1, .int p1)] dX10_loose_43 rfl (by decide) rfl ?_
      refine x_lv [2, 3, 1, 0] [(0, .ref (ad 0)), (1, .int p1), (2, .int 0), (3, .int 0)] rfl ?_
      exact tm_loose_L44 d hd  2000 p1 0 0 _ _ _ h
    · have h := aw_neg h c_5
      refine x_aload_n (pc := 33) 0 dX10_loose_33 rfl rfl ?_
      refine x_ldc (pc := 34) dX10_loose_34 wk_X10_169 ?_
      refine x_callV (pc := 36) (As := [.int (-1000000003)]) (rest := []) (st' := [.int r]) (w := (some (.int r))) dX10_loose_36 cw_X10_49 hd1 gm_0 rfl rfl rfl (Nat.le_of_ble_eq_true rfl) (tm_errs (d - 1) hh_0 (-1000000003) _ _ _ h) rfl ?_
      exact x_iret (pc := 39) dX10_loose_39
  · have h := aw_pos h c_4
    refine x_aload_n (pc := 10) 0 dX10_loose_10 rfl rfl ?_
    refine x_ldc (pc := 11) dX10_loose_11 wk_X10_48 ?_
    refine x_callV (pc := 13) (As := [.int (-1000000001)]) (rest := []) (st' := [.int r]) (w := (some (.int r))) dX10_loose_13 cw_X10_49 hd1 gm_0 rfl rfl rfl (Nat.le_of_ble_eq_true rfl) (tm_errs (d - 1) hh_0 (-1000000001) _ _ _ h) rfl ?_
    exact x_iret (pc := 16) dX10_loose_16
def fm_after (p1 : Int32) (p2 : Int32) (M : aw_M) : Option (Int32 × aw_M) :=
  aw_bi (fm_isCloth p1 M) fun r_2 M_3 => (
  if r_2 = 0 then (
    fm_errs (-1000000001) M_3
  ) else (
    aw_bi (fm_in p2 0 200 M_3) fun r_6 M_7 => (
    if r_6 = 0 then (
      fm_errs (-1000000001) M_7
    ) else (
      aw_bv (fm_moveAll 1 3 M_7) fun M_10 => (
      aw_bi (fm_sews p1 p2 M_10) fun r_12 M_13 => (
      if (0 : Int32) ≤ r_12 then (
        aw_bi (fm_shows p1 M_13) fun r_16 M_17 => (
        aw_bv (fm_moveAll 3 1 M_17) fun M_19 => (
        some (r_16, M_19)
        )
        )
      ) else (
        aw_bv (fm_moveAll 3 1 M_13) fun M_21 => (
        some (0, M_21)
        )
      )
      )
      )
    )
    )
  )
  )
set_option maxRecDepth 20000 in
theorem tm_after {l : Launch} {D : va_G} {cy : Nat → ClassId} {ad : Nat → Nat} {A : Nat → Prop} (d : Nat) (hd : 109 ≤ d) (p1 : Int32) (p2 : Int32) (M : aw_M) (r : Int32) (M1 : aw_M) (h : fm_after p1 p2 M = some (r, M1)) : AX l D cy ad A gm_G yX10_after cX10_after 5 (some .int) d [.ref (ad 0), .int p1, .int p2] M (some (.int r)) M1 := by
  have hd1 : (d - 1) + 1 ≤ d := by omega
  have hm1 : 1 ≤ d := by omega
  have hh_0 : 0 ≤ d - 1 := by omega
  have hh_1 : 1 ≤ d - 1 := by omega
  have hh_106 : 106 ≤ d - 1 := by omega
  have hh_108 : 108 ≤ d - 1 := by omega
  refine AX.of (own := RX10) (by decide +kernel) rfl (Nat.le_of_ble_eq_true rfl) ?_
  unfold fm_after at h
  show AW l D cy ad A gm_G RX10 cX10_after 5 (some .int) d (some (.int r)) M1 0 [(0, .ref (ad 0)), (1, .int p1), (2, .int p2)] [] M
  refine x_aload_n (pc := 0) 0 dX10_after_0 rfl rfl ?_
  refine x_iload_n (pc := 1) 1 dX10_after_1 rfl rfl ?_
  obtain ⟨r_2, M_3, e_1, h⟩ := aw_bi_e h
  refine x_callV (pc := 2) (As := [.int p1]) (rest := []) (st' := [.int r_2]) (w := (some (.int r_2))) dX10_after_2 cw_X10_62 hd1 gm_0 rfl rfl rfl (Nat.le_of_ble_eq_true rfl) (tm_isCloth (d - 1) hh_1 p1 _ _ _ e_1) rfl ?_
  refine x_if_eq (pc := 5) 19 dX10_after_5 (by decide) (fun c_4 => ?_) (fun c_4 => ?_)
  · have h := aw_pos h c_4
    refine x_aload_n (pc := 19) 0 dX10_after_19 rfl rfl ?_
    refine x_ldc (pc := 20) dX10_after_20 wk_X10_48 ?_
    refine x_callV (pc := 22) (As := [.int (-1000000001)]) (rest := []) (st' := [.int r]) (w := (some (.int r))) dX10_after_22 cw_X10_49 hd1 gm_0 rfl rfl rfl (Nat.le_of_ble_eq_true rfl) (tm_errs (d - 1) hh_0 (-1000000001) _ _ _ h) rfl ?_
    exact x_iret (pc := 25) dX10_after_25
  · have h := aw_neg h c_4
    refine x_iload_n (pc := 8) 2 dX10_after_8 rfl rfl ?_
    refine x_iconst (pc := 9) (w := 0) dX10_after_9 ic_0 ?_
    refine x_sipush (pc := 10) (w := 200) dX10_after_10 si_200 ?_
    obtain ⟨r_6, M_7, e_5, h⟩ := aw_bi_e h
    refine x_callS (pc := 13) (As := [.int p2, .int 0, .int 200]) (rest := []) (st' := [.int r_6]) (w := (some (.int r_6))) dX10_after_13 cw_X10_44 hd1 rfl rfl (Nat.le_of_ble_eq_true rfl) (tm_in (d - 1) hh_0 p2 0 200 _ _ _ e_5) rfl ?_
    refine x_if_ne (pc := 16) 26 dX10_after_16 (by decide) (fun c_8 => ?_) (fun c_8 => ?_)
    · have h := aw_neg h c_8
      refine x_aload_n (pc := 26) 0 dX10_after_26 rfl rfl ?_
      refine x_aload_n (pc := 27) 0 dX10_after_27 rfl rfl ?_
      refine x_get (pc := 28) dX10_after_28 lk_X10_7 gm_0 rfl rfl ?_
      refine x_aload_n (pc := 31) 0 dX10_after_31 rfl rfl ?_
      refine x_get (pc := 32) dX10_after_32 lk_X10_16 gm_0 rfl rfl ?_
      obtain ⟨M_10, e_9, h⟩ := aw_bv_e h
      refine x_callV (pc := 35) (As := [.ref (ad 1), .ref (ad 3)]) (rest := []) (st' := []) (w := none) dX10_after_35 cw_X10_158 hd1 gm_0 rfl rfl rfl (Nat.le_of_ble_eq_true rfl) (tm_moveAll (d - 1) hh_0 1 gm_1 3 gm_3 _  _ e_9) rfl ?_
      refine x_aload_n (pc := 38) 0 dX10_after_38 rfl rfl ?_
      refine x_iload_n (pc := 39) 1 dX10_after_39 rfl rfl ?_
      refine x_iload_n (pc := 40) 2 dX10_after_40 rfl rfl ?_
      obtain ⟨r_12, M_13, e_11, h⟩ := aw_bi_e h
      refine x_callV (pc := 41) (As := [.int p1, .int p2]) (rest := []) (st' := [.int r_12]) (w := (some (.int r_12))) dX10_after_41 cw_X10_170 hd1 gm_0 rfl rfl rfl (Nat.le_of_ble_eq_true rfl) (tm_sews (d - 1) hh_108 p1 p2 _ _ _ e_11) rfl ?_
      refine x_istore_n (pc := 44) 3 [(3, .int r_12), (0, .ref (ad 0)), (1, .int p1), (2, .int p2)] dX10_after_44 rfl (by decide) rfl ?_
      refine x_iload_n (pc := 45) 3 dX10_after_45 rfl rfl ?_
      refine x_if_ge (pc := 46) 53 dX10_after_46 (by decide) (fun c_14 => ?_) (fun c_14 => ?_)
      · have h := aw_pos h c_14
        refine x_aload_n (pc := 53) 0 dX10_after_53 rfl rfl ?_
        refine x_iload_n (pc := 54) 1 dX10_after_54 rfl rfl ?_
        obtain ⟨r_16, M_17, e_15, h⟩ := aw_bi_e h
        refine x_callV (pc := 55) (As := [.int p1]) (rest := []) (st' := [.int r_16]) (w := (some (.int r_16))) dX10_after_55 cw_X10_75 hd1 gm_0 rfl rfl rfl (Nat.le_of_ble_eq_true rfl) (tm_shows (d - 1) hh_106 p1 _ _ _ e_15) rfl ?_
        refine x_istore (pc := 58) 4 [(4, .int r_16), (3, .int r_12), (0, .ref (ad 0)), (1, .int p1), (2, .int p2)] dX10_after_58 (by decide) rfl ?_
        refine x_aload_n (pc := 60) 0 dX10_after_60 rfl rfl ?_
        refine x_aload_n (pc := 61) 0 dX10_after_61 rfl rfl ?_
        refine x_get (pc := 62) dX10_after_62 lk_X10_16 gm_0 rfl rfl ?_
        refine x_aload_n (pc := 65) 0 dX10_after_65 rfl rfl ?_
        refine x_get (pc := 66) dX10_after_66 lk_X10_7 gm_0 rfl rfl ?_
        obtain ⟨M_19, e_18, h⟩ := aw_bv_e h
        refine x_callV (pc := 69) (As := [.ref (ad 3), .ref (ad 1)]) (rest := []) (st' := []) (w := none) dX10_after_69 cw_X10_158 hd1 gm_0 rfl rfl rfl (Nat.le_of_ble_eq_true rfl) (tm_moveAll (d - 1) hh_0 3 gm_3 1 gm_1 _  _ e_18) rfl ?_
        refine x_iload (pc := 72) dX10_after_72 rfl ?_
        obtain ⟨rfl, rfl⟩ := aw_so h
        exact x_iret (pc := 74) dX10_after_74
      · have h := aw_neg h c_14
        refine x_iconst (pc := 49) (w := 0) dX10_after_49 ic_0 ?_
        refine x_goto (pc := 50) 58 dX10_after_50 (by decide) ?_
        refine x_istore (pc := 58) 4 [(4, .int 0), (3, .int r_12), (0, .ref (ad 0)), (1, .int p1), (2, .int p2)] dX10_after_58 (by decide) rfl ?_
        refine x_aload_n (pc := 60) 0 dX10_after_60 rfl rfl ?_
        refine x_aload_n (pc := 61) 0 dX10_after_61 rfl rfl ?_
        refine x_get (pc := 62) dX10_after_62 lk_X10_16 gm_0 rfl rfl ?_
        refine x_aload_n (pc := 65) 0 dX10_after_65 rfl rfl ?_
        refine x_get (pc := 66) dX10_after_66 lk_X10_7 gm_0 rfl rfl ?_
        obtain ⟨M_21, e_20, h⟩ := aw_bv_e h
        refine x_callV (pc := 69) (As := [.ref (ad 3), .ref (ad 1)]) (rest := []) (st' := []) (w := none) dX10_after_69 cw_X10_158 hd1 gm_0 rfl rfl rfl (Nat.le_of_ble_eq_true rfl) (tm_moveAll (d - 1) hh_0 3 gm_3 1 gm_1 _  _ e_20) rfl ?_
        refine x_iload (pc := 72) dX10_after_72 rfl ?_
        obtain ⟨rfl, rfl⟩ := aw_so h
        exact x_iret (pc := 74) dX10_after_74
    · have h := aw_pos h c_8
      refine x_aload_n (pc := 19) 0 dX10_after_19 rfl rfl ?_
      refine x_ldc (pc := 20) dX10_after_20 wk_X10_48 ?_
      refine x_callV (pc := 22) (As := [.int (-1000000001)]) (rest := []) (st' := [.int r]) (w := (some (.int r))) dX10_after_22 cw_X10_49 hd1 gm_0 rfl rfl rfl (Nat.le_of_ble_eq_true rfl) (tm_errs (d - 1) hh_0 (-1000000001) _ _ _ h) rfl ?_
      exact x_iret (pc := 25) dX10_after_25
