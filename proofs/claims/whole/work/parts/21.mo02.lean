def fm_off (p1 : Int32) (M : aw_M) : Option (Int32 × aw_M) :=
  aw_bi (fm_wants p1 M) fun r_2 M_3 => (
  some (((((M 1 8) - (M 1 9)) - ((M 1 11) / 20)) - r_2), M_3)
  )
set_option maxRecDepth 20000 in
theorem tm_off {l : Launch} {D : va_G} {cy : Nat → ClassId} {ad : Nat → Nat} {A : Nat → Prop} (d : Nat) (hd : 105 ≤ d) (p1 : Int32) (M : aw_M) (r : Int32) (M1 : aw_M) (h : fm_off p1 M = some (r, M1)) : AX l D cy ad A gm_G yX10_off cX10_off 2 (some .int) d [.ref (ad 0), .int p1] M (some (.int r)) M1 := by
  have hd1 : (d - 1) + 1 ≤ d := by omega
  have hm1 : 1 ≤ d := by omega
  have hh_104 : 104 ≤ d - 1 := by omega
  refine AX.of (own := RX10) (by decide +kernel) rfl (Nat.le_of_ble_eq_true rfl) ?_
  unfold fm_off at h
  show AW l D cy ad A gm_G RX10 cX10_off 2 (some .int) d (some (.int r)) M1 0 [(0, .ref (ad 0)), (1, .int p1)] [] M
  refine x_aload_n (pc := 0) 0 dX10_off_0 rfl rfl ?_
  refine x_get (pc := 1) dX10_off_1 lk_X10_7 gm_0 rfl rfl ?_
  refine x_bipush (pc := 4) (w := 8) dX10_off_4 bi_8 ?_
  refine x_ialdJ (pc := 6) 8 dX10_off_6 gm_1 (by decide) tn_8 ?_
  refine x_aload_n (pc := 7) 0 dX10_off_7 rfl rfl ?_
  refine x_get (pc := 8) dX10_off_8 lk_X10_7 gm_0 rfl rfl ?_
  refine x_bipush (pc := 11) (w := 9) dX10_off_11 bi_9 ?_
  refine x_ialdJ (pc := 13) 9 dX10_off_13 gm_1 (by decide) tn_9 ?_
  refine x_isub (pc := 14) dX10_off_14 ?_
  refine x_aload_n (pc := 15) 0 dX10_off_15 rfl rfl ?_
  refine x_get (pc := 16) dX10_off_16 lk_X10_7 gm_0 rfl rfl ?_
  refine x_bipush (pc := 19) (w := 11) dX10_off_19 bi_11 ?_
  refine x_ialdJ (pc := 21) 11 dX10_off_21 gm_1 (by decide) tn_11 ?_
  refine x_bipush (pc := 22) (w := 20) dX10_off_22 bi_20 ?_
  refine x_idiv (pc := 24) dX10_off_24 (by decide) ?_
  refine x_isub (pc := 25) dX10_off_25 ?_
  refine x_aload_n (pc := 26) 0 dX10_off_26 rfl rfl ?_
  refine x_iload_n (pc := 27) 1 dX10_off_27 rfl rfl ?_
  obtain ⟨r_2, M_3, e_1, h⟩ := aw_bi_e h
  refine x_callV (pc := 28) (As := [.int p1]) (rest := [.int (((M 1 8) - (M 1 9)) - ((M 1 11) / 20))]) (st' := [.int r_2, .int (((M 1 8) - (M 1 9)) - ((M 1 11) / 20))]) (w := (some (.int r_2))) dX10_off_28 cw_X10_66 hd1 gm_0 rfl rfl rfl (Nat.le_of_ble_eq_true rfl) (tm_wants (d - 1) hh_104 p1 _ _ _ e_1) rfl ?_
  refine x_isub (pc := 31) dX10_off_31 ?_
  obtain ⟨rfl, rfl⟩ := aw_so h
  exact x_iret (pc := 32) dX10_off_32
def fm_isSkipped (p1 : Int32) (M : aw_M) : Option (Int32 × aw_M) :=
  if (M 1 10) = 2 then (
    some (1, M)
  ) else (
    if (M 1 10) = 1 then (
      aw_bi (fm_its p1 2 M) fun r_4 M_5 => (
      aw_bi (fm_its p1 1 M_5) fun r_7 M_8 => (
      aw_bi (fm_lawOf 1 r_4 r_7 (M_8 1 11) M_8) fun r_10 M_11 => (
      if (M 1 12) ≤ r_10 then (
        some (0, M_11)
      ) else (
        some (1, M_11)
      )
      )
      )
      )
    ) else (
      some (0, M)
    )
  )
set_option maxRecDepth 20000 in
theorem tm_isSkipped {l : Launch} {D : va_G} {cy : Nat → ClassId} {ad : Nat → Nat} {A : Nat → Prop} (d : Nat) (hd : 104 ≤ d) (p1 : Int32) (M : aw_M) (r : Int32) (M1 : aw_M) (h : fm_isSkipped p1 M = some (r, M1)) : AX l D cy ad A gm_G yX10_isSkipped cX10_isSkipped 2 (some .boolean) d [.ref (ad 0), .int p1] M (some (.int r)) M1 := by
  have hd1 : (d - 1) + 1 ≤ d := by omega
  have hm1 : 1 ≤ d := by omega
  have hh_0 : 0 ≤ d - 1 := by omega
  have hh_103 : 103 ≤ d - 1 := by omega
  refine AX.of (own := RX10) (by decide +kernel) rfl (Nat.le_of_ble_eq_true rfl) ?_
  unfold fm_isSkipped at h
  show AW l D cy ad A gm_G RX10 cX10_isSkipped 2 (some .boolean) d (some (.int r)) M1 0 [(0, .ref (ad 0)), (1, .int p1)] [] M
  refine x_aload_n (pc := 0) 0 dX10_isSkipped_0 rfl rfl ?_
  refine x_get (pc := 1) dX10_isSkipped_1 lk_X10_7 gm_0 rfl rfl ?_
  refine x_bipush (pc := 4) (w := 10) dX10_isSkipped_4 bi_10 ?_
  refine x_ialdJ (pc := 6) 10 dX10_isSkipped_6 gm_1 (by decide) tn_10 ?_
  refine x_iconst (pc := 7) (w := 2) dX10_isSkipped_7 ic_2 ?_
  refine x_icmp_eq (pc := 8) 56 dX10_isSkipped_8 (by decide) (fun c_1 => ?_) (fun c_1 => ?_)
  · have h := aw_pos h c_1
    refine x_iconst (pc := 56) (w := 1) dX10_isSkipped_56 ic_1 ?_
    refine x_goto (pc := 57) 61 dX10_isSkipped_57 (by decide) ?_
    obtain ⟨rfl, rfl⟩ := aw_so h
    exact x_zret (pc := 61) aw_b1 dX10_isSkipped_61
  · have h := aw_neg h c_1
    refine x_aload_n (pc := 11) 0 dX10_isSkipped_11 rfl rfl ?_
    refine x_get (pc := 12) dX10_isSkipped_12 lk_X10_7 gm_0 rfl rfl ?_
    refine x_bipush (pc := 15) (w := 10) dX10_isSkipped_15 bi_10 ?_
    refine x_ialdJ (pc := 17) 10 dX10_isSkipped_17 gm_1 (by decide) tn_10 ?_
    refine x_iconst (pc := 18) (w := 1) dX10_isSkipped_18 ic_1 ?_
    refine x_icmp_ne (pc := 19) 60 dX10_isSkipped_19 (by decide) (fun c_2 => ?_) (fun c_2 => ?_)
    · have h := aw_neg h c_2
      refine x_iconst (pc := 60) (w := 0) dX10_isSkipped_60 ic_0 ?_
      obtain ⟨rfl, rfl⟩ := aw_so h
      exact x_zret (pc := 61) aw_b0 dX10_isSkipped_61
    · have h := aw_pos h c_2
      refine x_aload_n (pc := 22) 0 dX10_isSkipped_22 rfl rfl ?_
      refine x_get (pc := 23) dX10_isSkipped_23 lk_X10_7 gm_0 rfl rfl ?_
      refine x_bipush (pc := 26) (w := 12) dX10_isSkipped_26 bi_12 ?_
      refine x_ialdJ (pc := 28) 12 dX10_isSkipped_28 gm_1 (by decide) tn_12 ?_
      refine x_aload_n (pc := 29) 0 dX10_isSkipped_29 rfl rfl ?_
      refine x_iconst (pc := 30) (w := 1) dX10_isSkipped_30 ic_1 ?_
      refine x_aload_n (pc := 31) 0 dX10_isSkipped_31 rfl rfl ?_
      refine x_iload_n (pc := 32) 1 dX10_isSkipped_32 rfl rfl ?_
      refine x_iconst (pc := 33) (w := 2) dX10_isSkipped_33 ic_2 ?_
      obtain ⟨r_4, M_5, e_3, h⟩ := aw_bi_e h
      refine x_callV (pc := 34) (As := [.int p1, .int 2]) (rest := [.int 1, .ref (ad 0), .int (M 1 12)]) (st' := [.int r_4, .int 1, .ref (ad 0), .int (M 1 12)]) (w := (some (.int r_4))) dX10_isSkipped_34 cw_X10_78 hd1 gm_0 rfl rfl rfl (Nat.le_of_ble_eq_true rfl) (tm_its (d - 1) hh_0 p1 2 _ _ _ e_3) rfl ?_
      refine x_aload_n (pc := 37) 0 dX10_isSkipped_37 rfl rfl ?_
      refine x_iload_n (pc := 38) 1 dX10_isSkipped_38 rfl rfl ?_
      refine x_iconst (pc := 39) (w := 1) dX10_isSkipped_39 ic_1 ?_
      obtain ⟨r_7, M_8, e_6, h⟩ := aw_bi_e h
      refine x_callV (pc := 40) (As := [.int p1, .int 1]) (rest := [.int r_4, .int 1, .ref (ad 0), .int (M 1 12)]) (st' := [.int r_7, .int r_4, .int 1, .ref (ad 0), .int (M 1 12)]) (w := (some (.int r_7))) dX10_isSkipped_40 cw_X10_78 hd1 gm_0 rfl rfl rfl (Nat.le_of_ble_eq_true rfl) (tm_its (d - 1) hh_0 p1 1 _ _ _ e_6) rfl ?_
      refine x_aload_n (pc := 43) 0 dX10_isSkipped_43 rfl rfl ?_
      refine x_get (pc := 44) dX10_isSkipped_44 lk_X10_7 gm_0 rfl rfl ?_
      refine x_bipush (pc := 47) (w := 11) dX10_isSkipped_47 bi_11 ?_
      refine x_ialdJ (pc := 49) 11 dX10_isSkipped_49 gm_1 (by decide) tn_11 ?_
      obtain ⟨r_10, M_11, e_9, h⟩ := aw_bi_e h
      refine x_callV (pc := 50) (As := [.int 1, .int r_4, .int r_7, .int (M_8 1 11)]) (rest := [.int (M 1 12)]) (st' := [.int r_10, .int (M 1 12)]) (w := (some (.int r_10))) dX10_isSkipped_50 cw_X10_153 hd1 gm_0 rfl rfl rfl (Nat.le_of_ble_eq_true rfl) (tm_lawOf (d - 1) hh_103 1 r_4 r_7 (M_8 1 11) _ _ _ e_9) rfl ?_
      refine x_icmp_le (pc := 53) 60 dX10_isSkipped_53 (by decide) (fun c_12 => ?_) (fun c_12 => ?_)
      · have h := aw_pos h c_12
        refine x_iconst (pc := 60) (w := 0) dX10_isSkipped_60 ic_0 ?_
        obtain ⟨rfl, rfl⟩ := aw_so h
        exact x_zret (pc := 61) aw_b0 dX10_isSkipped_61
      · have h := aw_neg h c_12
        refine x_iconst (pc := 56) (w := 1) dX10_isSkipped_56 ic_1 ?_
        refine x_goto (pc := 57) 61 dX10_isSkipped_57 (by decide) ?_
        obtain ⟨rfl, rfl⟩ := aw_so h
        exact x_zret (pc := 61) aw_b1 dX10_isSkipped_61
def fm_shows (p1 : Int32) (M : aw_M) : Option (Int32 × aw_M) :=
  if (M 1 7) = 1 then (
    some (4, M)
  ) else (
    aw_bi (fm_isSkipped p1 M) fun r_3 M_4 => (
    if r_3 = 0 then (
      aw_bi (fm_off p1 M_4) fun r_7 M_8 => (
      aw_bi (fm_bears p1 M_8) fun r_10 M_11 => (
      if (-r_10) ≤ r_7 then (
        aw_bi (fm_bears p1 M_11) fun r_14 M_15 => (
        if r_7 ≤ r_14 then (
          some (0, M_15)
        ) else (
          some (2, M_15)
        )
        )
      ) else (
        some (1, M_11)
      )
      )
      )
    ) else (
      some (3, M_4)
    )
    )
  )
set_option maxRecDepth 20000 in
theorem tm_shows {l : Launch} {D : va_G} {cy : Nat → ClassId} {ad : Nat → Nat} {A : Nat → Prop} (d : Nat) (hd : 106 ≤ d) (p1 : Int32) (M : aw_M) (r : Int32) (M1 : aw_M) (h : fm_shows p1 M = some (r, M1)) : AX l D cy ad A gm_G yX10_shows cX10_shows 3 (some .int) d [.ref (ad 0), .int p1] M (some (.int r)) M1 := by
  have hd1 : (d - 1) + 1 ≤ d := by omega
  have hm1 : 1 ≤ d := by omega
  have hh_1 : 1 ≤ d - 1 := by omega
  have hh_104 : 104 ≤ d - 1 := by omega
  have hh_105 : 105 ≤ d - 1 := by omega
  refine AX.of (own := RX10) (by decide +kernel) rfl (Nat.le_of_ble_eq_true rfl) ?_
  unfold fm_shows at h
  show AW l D cy ad A gm_G RX10 cX10_shows 3 (some .int) d (some (.int r)) M1 0 [(0, .ref (ad 0)), (1, .int p1)] [] M
  refine x_aload_n (pc := 0) 0 dX10_shows_0 rfl rfl ?_
  refine x_get (pc := 1) dX10_shows_1 lk_X10_7 gm_0 rfl rfl ?_
  refine x_bipush (pc := 4) (w := 7) dX10_shows_4 bi_7 ?_
  refine x_ialdJ (pc := 6) 7 dX10_shows_6 gm_1 (by decide) tn_7 ?_
  refine x_iconst (pc := 7) (w := 1) dX10_shows_7 ic_1 ?_
  refine x_icmp_ne (pc := 8) 13 dX10_shows_8 (by decide) (fun c_1 => ?_) (fun c_1 => ?_)
  · have h := aw_neg h c_1
    refine x_aload_n (pc := 13) 0 dX10_shows_13 rfl rfl ?_
    refine x_iload_n (pc := 14) 1 dX10_shows_14 rfl rfl ?_
    obtain ⟨r_3, M_4, e_2, h⟩ := aw_bi_e h
    refine x_callV (pc := 15) (As := [.int p1]) (rest := []) (st' := [.int r_3]) (w := (some (.int r_3))) dX10_shows_15 cw_X10_162 hd1 gm_0 rfl rfl rfl (Nat.le_of_ble_eq_true rfl) (tm_isSkipped (d - 1) hh_104 p1 _ _ _ e_2) rfl ?_
    refine x_if_eq (pc := 18) 23 dX10_shows_18 (by decide) (fun c_5 => ?_) (fun c_5 => ?_)
    · have h := aw_pos h c_5
      refine x_aload_n (pc := 23) 0 dX10_shows_23 rfl rfl ?_
      refine x_iload_n (pc := 24) 1 dX10_shows_24 rfl rfl ?_
      obtain ⟨r_7, M_8, e_6, h⟩ := aw_bi_e h
      refine x_callV (pc := 25) (As := [.int p1]) (rest := []) (st' := [.int r_7]) (w := (some (.int r_7))) dX10_shows_25 cw_X10_72 hd1 gm_0 rfl rfl rfl (Nat.le_of_ble_eq_true rfl) (tm_off (d - 1) hh_105 p1 _ _ _ e_6) rfl ?_
      refine x_istore_n (pc := 28) 2 [(2, .int r_7), (0, .ref (ad 0)), (1, .int p1)] dX10_shows_28 rfl (by decide) rfl ?_
      refine x_iload_n (pc := 29) 2 dX10_shows_29 rfl rfl ?_
      refine x_aload_n (pc := 30) 0 dX10_shows_30 rfl rfl ?_
      refine x_iload_n (pc := 31) 1 dX10_shows_31 rfl rfl ?_
      obtain ⟨r_10, M_11, e_9, h⟩ := aw_bi_e h
      refine x_callV (pc := 32) (As := [.int p1]) (rest := [.int r_7]) (st' := [.int r_10, .int r_7]) (w := (some (.int r_10))) dX10_shows_32 cw_X10_69 hd1 gm_0 rfl rfl rfl (Nat.le_of_ble_eq_true rfl) (tm_bears (d - 1) hh_1 p1 _ _ _ e_9) rfl ?_
      refine x_ineg (pc := 35) dX10_shows_35 ?_
      refine x_icmp_ge (pc := 36) 43 dX10_shows_36 (by decide) (fun c_12 => ?_) (fun c_12 => ?_)
      · have h := aw_pos h c_12
        refine x_iload_n (pc := 43) 2 dX10_shows_43 rfl rfl ?_
        refine x_aload_n (pc := 44) 0 dX10_shows_44 rfl rfl ?_
        refine x_iload_n (pc := 45) 1 dX10_shows_45 rfl rfl ?_
        obtain ⟨r_14, M_15, e_13, h⟩ := aw_bi_e h
        refine x_callV (pc := 46) (As := [.int p1]) (rest := [.int r_7]) (st' := [.int r_14, .int r_7]) (w := (some (.int r_14))) dX10_shows_46 cw_X10_69 hd1 gm_0 rfl rfl rfl (Nat.le_of_ble_eq_true rfl) (tm_bears (d - 1) hh_1 p1 _ _ _ e_13) rfl ?_
        refine x_icmp_le (pc := 49) 56 dX10_shows_49 (by decide) (fun c_16 => ?_) (fun c_16 => ?_)
        · have h := aw_pos h c_16
          refine x_iconst (pc := 56) (w := 0) dX10_shows_56 ic_0 ?_
          obtain ⟨rfl, rfl⟩ := aw_so h
          exact x_iret (pc := 57) dX10_shows_57
        · have h := aw_neg h c_16
          refine x_iconst (pc := 52) (w := 2) dX10_shows_52 ic_2 ?_
          refine x_goto (pc := 53) 57 dX10_shows_53 (by decide) ?_
          obtain ⟨rfl, rfl⟩ := aw_so h
          exact x_iret (pc := 57) dX10_shows_57
      · have h := aw_neg h c_12
        refine x_iconst (pc := 39) (w := 1) dX10_shows_39 ic_1 ?_
        refine x_goto (pc := 40) 57 dX10_shows_40 (by decide) ?_
        obtain ⟨rfl, rfl⟩ := aw_so h
        exact x_iret (pc := 57) dX10_shows_57
    · have h := aw_neg h c_5
      refine x_iconst (pc := 21) (w := 3) dX10_shows_21 ic_3 ?_
      obtain ⟨rfl, rfl⟩ := aw_so h
      exact x_iret (pc := 22) dX10_shows_22
  · have h := aw_pos h c_1
    refine x_iconst (pc := 11) (w := 4) dX10_shows_11 ic_4 ?_
    obtain ⟨rfl, rfl⟩ := aw_so h
    exact x_iret (pc := 12) dX10_shows_12
def fm_ofCloth (p1 : Int32) (p2 : Int32) (M : aw_M) : Option (Int32 × aw_M) :=
  aw_bi (fm_isCloth p1 M) fun r_2 M_3 => (
  if r_2 = 0 then (
    fm_errs (-1000000001) M_3
  ) else (
    aw_bi (fm_in p2 0 8 M_3) fun r_6 M_7 => (
    if r_6 = 0 then (
      fm_errs (-1000000001) M_7
    ) else (
      if p2 = 5 then (
        fm_wants p1 M_7
      ) else (
        if p2 = 6 then (
          fm_bears p1 M_7
        ) else (
          if p2 = 7 then (
            fm_off p1 M_7
          ) else (
            if p2 = 8 then (
              fm_shows p1 M_7
            ) else (
              fm_its p1 p2 M_7
            )
          )
        )
      )
    )
    )
  )
  )
set_option maxRecDepth 20000 in
theorem tm_ofCloth {l : Launch} {D : va_G} {cy : Nat → ClassId} {ad : Nat → Nat} {A : Nat → Prop} (d : Nat) (hd : 107 ≤ d) (p1 : Int32) (p2 : Int32) (M : aw_M) (r : Int32) (M1 : aw_M) (h : fm_ofCloth p1 p2 M = some (r, M1)) : AX l D cy ad A gm_G yX10_ofCloth cX10_ofCloth 3 (some .int) d [.ref (ad 0), .int p1, .int p2] M (some (.int r)) M1 := by
  have hd1 : (d - 1) + 1 ≤ d := by omega
  have hm1 : 1 ≤ d := by omega
  have hh_0 : 0 ≤ d - 1 := by omega
  have hh_1 : 1 ≤ d - 1 := by omega
  have hh_104 : 104 ≤ d - 1 := by omega
  have hh_105 : 105 ≤ d - 1 := by omega
  have hh_106 : 106 ≤ d - 1 := by omega
  refine AX.of (own := RX10) (by decide +kernel) rfl (Nat.le_of_ble_eq_true rfl) ?_
  unfold fm_ofCloth at h
  show AW l D cy ad A gm_G RX10 cX10_ofCloth 3 (some .int) d (some (.int r)) M1 0 [(0, .ref (ad 0)), (1, .int p1), (2, .int p2)] [] M
  refine x_aload_n (pc := 0) 0 dX10_ofCloth_0 rfl rfl ?_
  refine x_iload_n (pc := 1) 1 dX10_ofCloth_1 rfl rfl ?_
  obtain ⟨r_2, M_3, e_1, h⟩ := aw_bi_e h
  refine x_callV (pc := 2) (As := [.int p1]) (rest := []) (st' := [.int r_2]) (w := (some (.int r_2))) dX10_ofCloth_2 cw_X10_62 hd1 gm_0 rfl rfl rfl (Nat.le_of_ble_eq_true rfl) (tm_isCloth (d - 1) hh_1 p1 _ _ _ e_1) rfl ?_
  refine x_if_eq (pc := 5) 18 dX10_ofCloth_5 (by decide) (fun c_4 => ?_) (fun c_4 => ?_)
  · have h := aw_pos h c_4
    refine x_aload_n (pc := 18) 0 dX10_ofCloth_18 rfl rfl ?_
    refine x_ldc (pc := 19) dX10_ofCloth_19 wk_X10_48 ?_
    refine x_callV (pc := 21) (As := [.int (-1000000001)]) (rest := []) (st' := [.int r]) (w := (some (.int r))) dX10_ofCloth_21 cw_X10_49 hd1 gm_0 rfl rfl rfl (Nat.le_of_ble_eq_true rfl) (tm_errs (d - 1) hh_0 (-1000000001) _ _ _ h) rfl ?_
    exact x_iret (pc := 24) dX10_ofCloth_24
  · have h := aw_neg h c_4
    refine x_iload_n (pc := 8) 2 dX10_ofCloth_8 rfl rfl ?_
    refine x_iconst (pc := 9) (w := 0) dX10_ofCloth_9 ic_0 ?_
    refine x_bipush (pc := 10) (w := 8) dX10_ofCloth_10 bi_8 ?_
    obtain ⟨r_6, M_7, e_5, h⟩ := aw_bi_e h
    refine x_callS (pc := 12) (As := [.int p2, .int 0, .int 8]) (rest := []) (st' := [.int r_6]) (w := (some (.int r_6))) dX10_ofCloth_12 cw_X10_44 hd1 rfl rfl (Nat.le_of_ble_eq_true rfl) (tm_in (d - 1) hh_0 p2 0 8 _ _ _ e_5) rfl ?_
    refine x_if_ne (pc := 15) 25 dX10_ofCloth_15 (by decide) (fun c_8 => ?_) (fun c_8 => ?_)
    · have h := aw_neg h c_8
      refine x_iload_n (pc := 25) 2 dX10_ofCloth_25 rfl rfl ?_
      by_cases c_9 : p2 = 5
      · have h := aw_pos h c_9
        refine x_tin (pc := 26) (off := 30) 5 56 dX10_ofCloth_26 c_9 (by decide) (by decide) rfl (by decide) ?_
        refine x_aload_n (pc := 56) 0 dX10_ofCloth_56 rfl rfl ?_
        refine x_iload_n (pc := 57) 1 dX10_ofCloth_57 rfl rfl ?_
        refine x_callV (pc := 58) (As := [.int p1]) (rest := []) (st' := [.int r]) (w := (some (.int r))) dX10_ofCloth_58 cw_X10_66 hd1 gm_0 rfl rfl rfl (Nat.le_of_ble_eq_true rfl) (tm_wants (d - 1) hh_104 p1 _ _ _ h) rfl ?_
        exact x_iret (pc := 61) dX10_ofCloth_61
      · have h := aw_neg h c_9
        by_cases c_10 : p2 = 6
        · have h := aw_pos h c_10
          refine x_tin (pc := 26) (off := 36) 6 62 dX10_ofCloth_26 c_10 (by decide) (by decide) rfl (by decide) ?_
          refine x_aload_n (pc := 62) 0 dX10_ofCloth_62 rfl rfl ?_
          refine x_iload_n (pc := 63) 1 dX10_ofCloth_63 rfl rfl ?_
          refine x_callV (pc := 64) (As := [.int p1]) (rest := []) (st' := [.int r]) (w := (some (.int r))) dX10_ofCloth_64 cw_X10_69 hd1 gm_0 rfl rfl rfl (Nat.le_of_ble_eq_true rfl) (tm_bears (d - 1) hh_1 p1 _ _ _ h) rfl ?_
          exact x_iret (pc := 67) dX10_ofCloth_67
        · have h := aw_neg h c_10
          by_cases c_11 : p2 = 7
          · have h := aw_pos h c_11
            refine x_tin (pc := 26) (off := 42) 7 68 dX10_ofCloth_26 c_11 (by decide) (by decide) rfl (by decide) ?_
            refine x_aload_n (pc := 68) 0 dX10_ofCloth_68 rfl rfl ?_
            refine x_iload_n (pc := 69) 1 dX10_ofCloth_69 rfl rfl ?_
            refine x_callV (pc := 70) (As := [.int p1]) (rest := []) (st' := [.int r]) (w := (some (.int r))) dX10_ofCloth_70 cw_X10_72 hd1 gm_0 rfl rfl rfl (Nat.le_of_ble_eq_true rfl) (tm_off (d - 1) hh_105 p1 _ _ _ h) rfl ?_
            exact x_iret (pc := 73) dX10_ofCloth_73
          · have h := aw_neg h c_11
            by_cases c_12 : p2 = 8
            · have h := aw_pos h c_12
              refine x_tin (pc := 26) (off := 48) 8 74 dX10_ofCloth_26 c_12 (by decide) (by decide) rfl (by decide) ?_
              refine x_aload_n (pc := 74) 0 dX10_ofCloth_74 rfl rfl ?_
              refine x_iload_n (pc := 75) 1 dX10_ofCloth_75 rfl rfl ?_
              refine x_callV (pc := 76) (As := [.int p1]) (rest := []) (st' := [.int r]) (w := (some (.int r))) dX10_ofCloth_76 cw_X10_75 hd1 gm_0 rfl rfl rfl (Nat.le_of_ble_eq_true rfl) (tm_shows (d - 1) hh_106 p1 _ _ _ h) rfl ?_
              exact x_iret (pc := 79) dX10_ofCloth_79
            · have h := aw_neg h c_12
              refine x_tout (pc := 26) 80 dX10_ofCloth_26 (by have z0 := lv_neT c_9 (a := 5) rfl; have z1 := lv_neT c_10 (a := 6) rfl; have z2 := lv_neT c_11 (a := 7) rfl; have z3 := lv_neT c_12 (a := 8) rfl; omega) (by decide) ?_
              refine x_aload_n (pc := 80) 0 dX10_ofCloth_80 rfl rfl ?_
              refine x_iload_n (pc := 81) 1 dX10_ofCloth_81 rfl rfl ?_
              refine x_iload_n (pc := 82) 2 dX10_ofCloth_82 rfl rfl ?_
              refine x_callV (pc := 83) (As := [.int p1, .int p2]) (rest := []) (st' := [.int r]) (w := (some (.int r))) dX10_ofCloth_83 cw_X10_78 hd1 gm_0 rfl rfl rfl (Nat.le_of_ble_eq_true rfl) (tm_its (d - 1) hh_0 p1 p2 _ _ _ h) rfl ?_
              exact x_iret (pc := 86) dX10_ofCloth_86
    · have h := aw_pos h c_8
      refine x_aload_n (pc := 18) 0 dX10_ofCloth_18 rfl rfl ?_
      refine x_ldc (pc := 19) dX10_ofCloth_19 wk_X10_48 ?_
      refine x_callV (pc := 21) (As := [.int (-1000000001)]) (rest := []) (st' := [.int r]) (w := (some (.int r))) dX10_ofCloth_21 cw_X10_49 hd1 gm_0 rfl rfl rfl (Nat.le_of_ble_eq_true rfl) (tm_errs (d - 1) hh_0 (-1000000001) _ _ _ h) rfl ?_
      exact x_iret (pc := 24) dX10_ofCloth_24
def fm_change (p1 : Int32) (p2 : Int32) (p3 : Int32) (M : aw_M) : Option (Int32 × aw_M) :=
  aw_bi (fm_isCloth p1 M) fun r_2 M_3 => (
  if r_2 = 0 then (
    fm_errs (-1000000001) M_3
  ) else (
    aw_bi (fm_in p2 0 2 M_3) fun r_6 M_7 => (
    if r_6 = 0 then (
      fm_errs (-1000000001) M_7
    ) else (
      if p2 = 0 then (
        aw_bi (fm_in p3 0 9 M_7) fun r_18 M_19 => (
        if r_18 = 0 then (
          fm_errs (-1000000001) M_19
        ) else (
          aw_bi (fm_becomes (((13 + (5 * p1)) + 2) + p2) p3 M_19) fun r_22 M_23 => (
          some (r_22, M_23)
          )
        )
        )
      ) else (
        aw_bi (fm_in p3 0 9999 M_7) fun r_11 M_12 => (
        if r_11 = 0 then (
          fm_errs (-1000000001) M_12
        ) else (
          aw_bi (fm_becomes (((13 + (5 * p1)) + 2) + p2) p3 M_12) fun r_15 M_16 => (
          some (r_15, M_16)
          )
        )
        )
      )
    )
    )
  )
  )
set_option maxRecDepth 20000 in
theorem tm_change {l : Launch} {D : va_G} {cy : Nat → ClassId} {ad : Nat → Nat} {A : Nat → Prop} (d : Nat) (hd : 2 ≤ d) (p1 : Int32) (p2 : Int32) (p3 : Int32) (M : aw_M) (r : Int32) (M1 : aw_M) (h : fm_change p1 p2 p3 M = some (r, M1)) : AX l D cy ad A gm_G yX10_change cX10_change 4 (some .int) d [.ref (ad 0), .int p1, .int p2, .int p3] M (some (.int r)) M1 := by
  have hd1 : (d - 1) + 1 ≤ d := by omega
  have hm1 : 1 ≤ d := by omega
  have hh_0 : 0 ≤ d - 1 := by omega
  have hh_1 : 1 ≤ d - 1 := by omega
  refine AX.of (own := RX10) (by decide +kernel) rfl (Nat.le_of_ble_eq_true rfl) ?_
  unfold fm_change at h
  show AW l D cy ad A gm_G RX10 cX10_change 4 (some .int) d (some (.int r)) M1 0 [(0, .ref (ad 0)), (1, .int p1), (2, .int p2), (3, .int p3)] [] M
  refine x_aload_n (pc := 0) 0 dX10_change_0 rfl rfl ?_
  refine x_iload_n (pc := 1) 1 dX10_change_1 rfl rfl ?_
  obtain ⟨r_2, M_3, e_1, h⟩ := aw_bi_e h
  refine x_callV (pc := 2) (As := [.int p1]) (rest := []) (st' := [.int r_2]) (w := (some (.int r_2))) dX10_change_2 cw_X10_62 hd1 gm_0 rfl rfl rfl (Nat.le_of_ble_eq_true rfl) (tm_isCloth (d - 1) hh_1 p1 _ _ _ e_1) rfl ?_
  refine x_if_eq (pc := 5) 55 dX10_change_5 (by decide) (fun c_4 => ?_) (fun c_4 => ?_)
  · have h := aw_pos h c_4
    refine x_aload_n (pc := 55) 0 dX10_change_55 rfl rfl ?_
    refine x_ldc (pc := 56) dX10_change_56 wk_X10_48 ?_
    refine x_callV (pc := 58) (As := [.int (-1000000001)]) (rest := []) (st' := [.int r]) (w := (some (.int r))) dX10_change_58 cw_X10_49 hd1 gm_0 rfl rfl rfl (Nat.le_of_ble_eq_true rfl) (tm_errs (d - 1) hh_0 (-1000000001) _ _ _ h) rfl ?_
    exact x_iret (pc := 61) dX10_change_61
  · have h := aw_neg h c_4
    refine x_iload_n (pc := 8) 2 dX10_change_8 rfl rfl ?_
    refine x_iconst (pc := 9) (w := 0) dX10_change_9 ic_0 ?_
    refine x_iconst (pc := 10) (w := 2) dX10_change_10 ic_2 ?_
    obtain ⟨r_6, M_7, e_5, h⟩ := aw_bi_e h
    refine x_callS (pc := 11) (As := [.int p2, .int 0, .int 2]) (rest := []) (st' := [.int r_6]) (w := (some (.int r_6))) dX10_change_11 cw_X10_44 hd1 rfl rfl (Nat.le_of_ble_eq_true rfl) (tm_in (d - 1) hh_0 p2 0 2 _ _ _ e_5) rfl ?_
    refine x_if_eq (pc := 14) 55 dX10_change_14 (by decide) (fun c_8 => ?_) (fun c_8 => ?_)
    · have h := aw_pos h c_8
      refine x_aload_n (pc := 55) 0 dX10_change_55 rfl rfl ?_
      refine x_ldc (pc := 56) dX10_change_56 wk_X10_48 ?_
      refine x_callV (pc := 58) (As := [.int (-1000000001)]) (rest := []) (st' := [.int r]) (w := (some (.int r))) dX10_change_58 cw_X10_49 hd1 gm_0 rfl rfl rfl (Nat.le_of_ble_eq_true rfl) (tm_errs (d - 1) hh_0 (-1000000001) _ _ _ h) rfl ?_
      exact x_iret (pc := 61) dX10_change_61
    · have h := aw_neg h c_8
      refine x_iload_n (pc := 17) 3 dX10_change_17 rfl rfl ?_
      refine x_iconst (pc := 18) (w := 0) dX10_change_18 ic_0 ?_
      refine x_iload_n (pc := 19) 2 dX10_change_19 rfl rfl ?_
      refine x_if_ne (pc := 20) 28 dX10_change_20 (by decide) (fun c_9 => ?_) (fun c_9 => ?_)
      · have h := aw_neg h c_9
        refine x_sipush (pc := 28) (w := 9999) dX10_change_28 si_9999 ?_
        obtain ⟨r_11, M_12, e_10, h⟩ := aw_bi_e h
        refine x_callS (pc := 31) (As := [.int p3, .int 0, .int 9999]) (rest := []) (st' := [.int r_11]) (w := (some (.int r_11))) dX10_change_31 cw_X10_44 hd1 rfl rfl (Nat.le_of_ble_eq_true rfl) (tm_in (d - 1) hh_0 p3 0 9999 _ _ _ e_10) rfl ?_
        refine x_if_eq (pc := 34) 55 dX10_change_34 (by decide) (fun c_13 => ?_) (fun c_13 => ?_)
        · have h := aw_pos h c_13
          refine x_aload_n (pc := 55) 0 dX10_change_55 rfl rfl ?_
          refine x_ldc (pc := 56) dX10_change_56 wk_X10_48 ?_
          refine x_callV (pc := 58) (As := [.int (-1000000001)]) (rest := []) (st' := [.int r]) (w := (some (.int r))) dX10_change_58 cw_X10_49 hd1 gm_0 rfl rfl rfl (Nat.le_of_ble_eq_true rfl) (tm_errs (d - 1) hh_0 (-1000000001) _ _ _ h) rfl ?_
          exact x_iret (pc := 61) dX10_change_61
        · have h := aw_neg h c_13
          refine x_aload_n (pc := 37) 0 dX10_change_37 rfl rfl ?_
          refine x_bipush (pc := 38) (w := 13) dX10_change_38 bi_13 ?_
          refine x_iconst (pc := 40) (w := 5) dX10_change_40 ic_5 ?_
          refine x_iload_n (pc := 41) 1 dX10_change_41 rfl rfl ?_
          refine x_imul (pc := 42) dX10_change_42 ?_
          refine x_iadd (pc := 43) dX10_change_43 ?_
          refine x_iconst (pc := 44) (w := 2) dX10_change_44 ic_2 ?_
          refine x_iadd (pc := 45) dX10_change_45 ?_
          refine x_iload_n (pc := 46) 2 dX10_change_46 rfl rfl ?_
          refine x_iadd (pc := 47) dX10_change_47 ?_
          refine x_iload_n (pc := 48) 3 dX10_change_48 rfl rfl ?_
          obtain ⟨r_15, M_16, e_14, h⟩ := aw_bi_e h
          refine x_callV (pc := 49) (As := [.int (((13 + (5 * p1)) + 2) + p2), .int p3]) (rest := []) (st' := [.int r_15]) (w := (some (.int r_15))) dX10_change_49 cw_X10_53 hd1 gm_0 rfl rfl rfl (Nat.le_of_ble_eq_true rfl) (tm_becomes (d - 1) hh_0 (((13 + (5 * p1)) + 2) + p2) p3 _ _ _ e_14) rfl ?_
          refine x_goto (pc := 52) 61 dX10_change_52 (by decide) ?_
          obtain ⟨rfl, rfl⟩ := aw_so h
          exact x_iret (pc := 61) dX10_change_61
      · have h := aw_pos h c_9
        refine x_bipush (pc := 23) (w := 9) dX10_change_23 bi_9 ?_
        refine x_goto (pc := 25) 31 dX10_change_25 (by decide) ?_
        obtain ⟨r_18, M_19, e_17, h⟩ := aw_bi_e h
        refine x_callS (pc := 31) (As := [.int p3, .int 0, .int 9]) (rest := []) (st' := [.int r_18]) (w := (some (.int r_18))) dX10_change_31 cw_X10_44 hd1 rfl rfl (Nat.le_of_ble_eq_true rfl) (tm_in (d - 1) hh_0 p3 0 9 _ _ _ e_17) rfl ?_
        refine x_if_eq (pc := 34) 55 dX10_change_34 (by decide) (fun c_20 => ?_) (fun c_20 => ?_)
        · have h := aw_pos h c_20
          refine x_aload_n (pc := 55) 0 dX10_change_55 rfl rfl ?_
          refine x_ldc (pc := 56) dX10_change_56 wk_X10_48 ?_
          refine x_callV (pc := 58) (As := [.int (-1000000001)]) (rest := []) (st' := [.int r]) (w := (some (.int r))) dX10_change_58 cw_X10_49 hd1 gm_0 rfl rfl rfl (Nat.le_of_ble_eq_true rfl) (tm_errs (d - 1) hh_0 (-1000000001) _ _ _ h) rfl ?_
          exact x_iret (pc := 61) dX10_change_61
        · have h := aw_neg h c_20
          refine x_aload_n (pc := 37) 0 dX10_change_37 rfl rfl ?_
          refine x_bipush (pc := 38) (w := 13) dX10_change_38 bi_13 ?_
          refine x_iconst (pc := 40) (w := 5) dX10_change_40 ic_5 ?_
          refine x_iload_n (pc := 41) 1 dX10_change_41 rfl rfl ?_
          refine x_imul (pc := 42) dX10_change_42 ?_
          refine x_iadd (pc := 43) dX10_change_43 ?_
          refine x_iconst (pc := 44) (w := 2) dX10_change_44 ic_2 ?_
          refine x_iadd (pc := 45) dX10_change_45 ?_
          refine x_iload_n (pc := 46) 2 dX10_change_46 rfl rfl ?_
          refine x_iadd (pc := 47) dX10_change_47 ?_
          refine x_iload_n (pc := 48) 3 dX10_change_48 rfl rfl ?_
          obtain ⟨r_22, M_23, e_21, h⟩ := aw_bi_e h
          refine x_callV (pc := 49) (As := [.int (((13 + (5 * p1)) + 2) + p2), .int p3]) (rest := []) (st' := [.int r_22]) (w := (some (.int r_22))) dX10_change_49 cw_X10_53 hd1 gm_0 rfl rfl rfl (Nat.le_of_ble_eq_true rfl) (tm_becomes (d - 1) hh_0 (((13 + (5 * p1)) + 2) + p2) p3 _ _ _ e_21) rfl ?_
          refine x_goto (pc := 52) 61 dX10_change_52 (by decide) ?_
          obtain ⟨rfl, rfl⟩ := aw_so h
          exact x_iret (pc := 61) dX10_change_61
def fm_become (p1 : Int32) (p2 : Int32) (M : aw_M) : Option (Int32 × aw_M) :=
  aw_bi (fm_isCloth p1 M) fun r_2 M_3 => (
  if r_2 = 0 then (
    fm_errs (-1000000001) M_3
  ) else (
    aw_bi (fm_in p2 0 69 M_3) fun r_6 M_7 => (
    if r_6 = 0 then (
      fm_errs (-1000000001) M_7
    ) else (
      aw_bv (fm_gets p1 1 (aw_rem p2 10) M_7) fun M_10 => (
      fm_becomes (13 + (5 * p1)) (p2 / 10) M_10
      )
    )
    )
  )
  )
set_option maxRecDepth 20000 in
theorem tm_become {l : Launch} {D : va_G} {cy : Nat → ClassId} {ad : Nat → Nat} {A : Nat → Prop} (d : Nat) (hd : 2 ≤ d) (p1 : Int32) (p2 : Int32) (M : aw_M) (r : Int32) (M1 : aw_M) (h : fm_become p1 p2 M = some (r, M1)) : AX l D cy ad A gm_G yX10_become cX10_become 3 (some .int) d [.ref (ad 0), .int p1, .int p2] M (some (.int r)) M1 := by
  have hd1 : (d - 1) + 1 ≤ d := by omega
  have hm1 : 1 ≤ d := by omega
  have hh_0 : 0 ≤ d - 1 := by omega
  have hh_1 : 1 ≤ d - 1 := by omega
  refine AX.of (own := RX10) (by decide +kernel) rfl (Nat.le_of_ble_eq_true rfl) ?_
  unfold fm_become at h
  show AW l D cy ad A gm_G RX10 cX10_become 3 (some .int) d (some (.int r)) M1 0 [(0, .ref (ad 0)), (1, .int p1), (2, .int p2)] [] M
  refine x_aload_n (pc := 0) 0 dX10_become_0 rfl rfl ?_
  refine x_iload_n (pc := 1) 1 dX10_become_1 rfl rfl ?_
  obtain ⟨r_2, M_3, e_1, h⟩ := aw_bi_e h
  refine x_callV (pc := 2) (As := [.int p1]) (rest := []) (st' := [.int r_2]) (w := (some (.int r_2))) dX10_become_2 cw_X10_62 hd1 gm_0 rfl rfl rfl (Nat.le_of_ble_eq_true rfl) (tm_isCloth (d - 1) hh_1 p1 _ _ _ e_1) rfl ?_
  refine x_if_eq (pc := 5) 18 dX10_become_5 (by decide) (fun c_4 => ?_) (fun c_4 => ?_)
  · have h := aw_pos h c_4
    refine x_aload_n (pc := 18) 0 dX10_become_18 rfl rfl ?_
    refine x_ldc (pc := 19) dX10_become_19 wk_X10_48 ?_
    refine x_callV (pc := 21) (As := [.int (-1000000001)]) (rest := []) (st' := [.int r]) (w := (some (.int r))) dX10_become_21 cw_X10_49 hd1 gm_0 rfl rfl rfl (Nat.le_of_ble_eq_true rfl) (tm_errs (d - 1) hh_0 (-1000000001) _ _ _ h) rfl ?_
    exact x_iret (pc := 24) dX10_become_24
  · have h := aw_neg h c_4
    refine x_iload_n (pc := 8) 2 dX10_become_8 rfl rfl ?_
    refine x_iconst (pc := 9) (w := 0) dX10_become_9 ic_0 ?_
    refine x_bipush (pc := 10) (w := 69) dX10_become_10 bi_69 ?_
    obtain ⟨r_6, M_7, e_5, h⟩ := aw_bi_e h
    refine x_callS (pc := 12) (As := [.int p2, .int 0, .int 69]) (rest := []) (st' := [.int r_6]) (w := (some (.int r_6))) dX10_become_12 cw_X10_44 hd1 rfl rfl (Nat.le_of_ble_eq_true rfl) (tm_in (d - 1) hh_0 p2 0 69 _ _ _ e_5) rfl ?_
    refine x_if_ne (pc := 15) 25 dX10_become_15 (by decide) (fun c_8 => ?_) (fun c_8 => ?_)
    · have h := aw_neg h c_8
      refine x_aload_n (pc := 25) 0 dX10_become_25 rfl rfl ?_
      refine x_iload_n (pc := 26) 1 dX10_become_26 rfl rfl ?_
      refine x_iconst (pc := 27) (w := 1) dX10_become_27 ic_1 ?_
      refine x_iload_n (pc := 28) 2 dX10_become_28 rfl rfl ?_
      refine x_bipush (pc := 29) (w := 10) dX10_become_29 bi_10 ?_
      refine x_irem (pc := 31) dX10_become_31 (by decide) ?_
      obtain ⟨M_10, e_9, h⟩ := aw_bv_e h
      refine x_callV (pc := 32) (As := [.int p1, .int 1, .int (aw_rem p2 10)]) (rest := []) (st' := []) (w := none) dX10_become_32 cw_X10_58 hd1 gm_0 rfl rfl rfl (Nat.le_of_ble_eq_true rfl) (tm_gets (d - 1) hh_0 p1 1 (aw_rem p2 10) _  _ e_9) rfl ?_
      refine x_aload_n (pc := 35) 0 dX10_become_35 rfl rfl ?_
      refine x_bipush (pc := 36) (w := 13) dX10_become_36 bi_13 ?_
      refine x_iconst (pc := 38) (w := 5) dX10_become_38 ic_5 ?_
      refine x_iload_n (pc := 39) 1 dX10_become_39 rfl rfl ?_
      refine x_imul (pc := 40) dX10_become_40 ?_
      refine x_iadd (pc := 41) dX10_become_41 ?_
      refine x_iload_n (pc := 42) 2 dX10_become_42 rfl rfl ?_
      refine x_bipush (pc := 43) (w := 10) dX10_become_43 bi_10 ?_
      refine x_idiv (pc := 45) dX10_become_45 (by decide) ?_
      refine x_callV (pc := 46) (As := [.int (13 + (5 * p1)), .int (p2 / 10)]) (rest := []) (st' := [.int r]) (w := (some (.int r))) dX10_become_46 cw_X10_53 hd1 gm_0 rfl rfl rfl (Nat.le_of_ble_eq_true rfl) (tm_becomes (d - 1) hh_0 (13 + (5 * p1)) (p2 / 10) _ _ _ h) rfl ?_
      exact x_iret (pc := 49) dX10_become_49
    · have h := aw_pos h c_8
      refine x_aload_n (pc := 18) 0 dX10_become_18 rfl rfl ?_
      refine x_ldc (pc := 19) dX10_become_19 wk_X10_48 ?_
      refine x_callV (pc := 21) (As := [.int (-1000000001)]) (rest := []) (st' := [.int r]) (w := (some (.int r))) dX10_become_21 cw_X10_49 hd1 gm_0 rfl rfl rfl (Nat.le_of_ble_eq_true rfl) (tm_errs (d - 1) hh_0 (-1000000001) _ _ _ h) rfl ?_
      exact x_iret (pc := 24) dX10_become_24
def fm_above (p0 : Int32) (M : aw_M) : Option (Int32 × aw_M) :=
  if p0 = 0 then (
    some ((-1), M)
  ) else (
    if p0 ≤ 3 then (
      some (0, M)
    ) else (
      some ((p0 - 3), M)
    )
  )
set_option maxRecDepth 20000 in
theorem tm_above {l : Launch} {D : va_G} {cy : Nat → ClassId} {ad : Nat → Nat} {A : Nat → Prop} (d : Nat) (hd : 0 ≤ d) (p0 : Int32) (M : aw_M) (r : Int32) (M1 : aw_M) (h : fm_above p0 M = some (r, M1)) : AX l D cy ad A gm_G yX10_above cX10_above 1 (some .int) d [.int p0] M (some (.int r)) M1 := by
  refine AX.of (own := RX10) (by decide +kernel) rfl (Nat.le_of_ble_eq_true rfl) ?_
  unfold fm_above at h
  show AW l D cy ad A gm_G RX10 cX10_above 1 (some .int) d (some (.int r)) M1 0 [(0, .int p0)] [] M
  refine x_iload_n (pc := 0) 0 dX10_above_0 rfl rfl ?_
  refine x_if_ne (pc := 1) 8 dX10_above_1 (by decide) (fun c_1 => ?_) (fun c_1 => ?_)
  · have h := aw_neg h c_1
    refine x_iload_n (pc := 8) 0 dX10_above_8 rfl rfl ?_
    refine x_iconst (pc := 9) (w := 3) dX10_above_9 ic_3 ?_
    refine x_icmp_le (pc := 10) 19 dX10_above_10 (by decide) (fun c_2 => ?_) (fun c_2 => ?_)
    · have h := aw_pos h c_2
      refine x_iconst (pc := 19) (w := 0) dX10_above_19 ic_0 ?_
      obtain ⟨rfl, rfl⟩ := aw_so h
      exact x_iret (pc := 20) dX10_above_20
    · have h := aw_neg h c_2
      refine x_iload_n (pc := 13) 0 dX10_above_13 rfl rfl ?_
      refine x_iconst (pc := 14) (w := 3) dX10_above_14 ic_3 ?_
      refine x_isub (pc := 15) dX10_above_15 ?_
      refine x_goto (pc := 16) 20 dX10_above_16 (by decide) ?_
      obtain ⟨rfl, rfl⟩ := aw_so h
      exact x_iret (pc := 20) dX10_above_20
  · have h := aw_pos h c_1
    refine x_iconst (pc := 4) (w := (-1)) dX10_above_4 ic_m1 ?_
    refine x_goto (pc := 5) 20 dX10_above_5 (by decide) ?_
    obtain ⟨rfl, rfl⟩ := aw_so h
    exact x_iret (pc := 20) dX10_above_20
def fm_as_L32 : Nat → Int32 → Int32 → Int32 → aw_M → Option (Int32 × aw_M)
  | 0, _, _, _, _ => none
  | n + 1, p1, p2, p3, M =>
    if p3 < 0 then (
      if (0 : Int32) ≤ p3 then (
        fm_its p1 1 M
      ) else (
        aw_bi (fm_errs (-1000000005) M) fun r_15 M_16 => (
        some (r_15, M_16)
        )
      )
    ) else (
      if p3 = p2 then (
        if (0 : Int32) ≤ p3 then (
          fm_its p1 1 M
        ) else (
          aw_bi (fm_errs (-1000000005) M) fun r_20 M_21 => (
          some (r_20, M_21)
          )
        )
      ) else (
        aw_bi (fm_above p3 M) fun r_23 M_24 => (
        fm_as_L32 n p1 p2 r_23 M_24
        )
      )
    )
theorem fm_as_L32_s (n : Nat) (p1 : Int32) (p2 : Int32) (p3 : Int32) (M : aw_M) : fm_as_L32 (n + 1) p1 p2 p3 M = (
    if p3 < 0 then (
      if (0 : Int32) ≤ p3 then (
        fm_its p1 1 M
      ) else (
        aw_bi (fm_errs (-1000000005) M) fun r_15 M_16 => (
        some (r_15, M_16)
        )
      )
    ) else (
      if p3 = p2 then (
        if (0 : Int32) ≤ p3 then (
          fm_its p1 1 M
        ) else (
          aw_bi (fm_errs (-1000000005) M) fun r_20 M_21 => (
          some (r_20, M_21)
          )
        )
      ) else (
        aw_bi (fm_above p3 M) fun r_23 M_24 => (
        fm_as_L32 n p1 p2 r_23 M_24
        )
      )
    )
    ) := rfl
set_option maxRecDepth 20000 in
theorem tm_as_L32 {l : Launch} {D : va_G} {cy : Nat → ClassId} {ad : Nat → Nat} {A : Nat → Prop} (d : Nat) (hd : 2 ≤ d) : ∀ (n : Nat) (p1 : Int32) (p2 : Int32) (p3 : Int32) (M : aw_M) (r : Int32) (M1 : aw_M), fm_as_L32 n p1 p2 p3 M = some (r, M1) → AW l D cy ad A gm_G RX10 cX10_as 4 (some .int) d (some (.int r)) M1 32 [(0, .ref (ad 0)), (1, .int p1), (2, .int p2), (3, .int p3)] [] M := by
  have hd1 : (d - 1) + 1 ≤ d := by omega
  have hm1 : 1 ≤ d := by omega
  have hh_0 : 0 ≤ d - 1 := by omega
  have hh_1 : 1 ≤ d - 1 := by omega
  intro n
  induction n with
  | zero => intro p1 p2 p3 M r M1 h; cases h
  | succ n ih =>
    intro p1 p2 p3 M r M1 h
    rw [fm_as_L32_s] at h
    refine x_iload_n (pc := 32) 3 dX10_as_32 rfl rfl ?_
    refine x_if_lt (pc := 33) 49 dX10_as_33 (by decide) (fun c_12 => ?_) (fun c_12 => ?_)
    · have h := aw_pos h c_12
      refine x_iload_n (pc := 49) 3 dX10_as_49 rfl rfl ?_
      refine x_if_ge (pc := 50) 62 dX10_as_50 (by decide) (fun c_13 => ?_) (fun c_13 => ?_)
      · have h := aw_pos h c_13
        refine x_aload_n (pc := 62) 0 dX10_as_62 rfl rfl ?_
        refine x_iload_n (pc := 63) 1 dX10_as_63 rfl rfl ?_
        refine x_iconst (pc := 64) (w := 1) dX10_as_64 ic_1 ?_
        refine x_callV (pc := 65) (As := [.int p1, .int 1]) (rest := []) (st' := [.int r]) (w := (some (.int r))) dX10_as_65 cw_X10_78 hd1 gm_0 rfl rfl rfl (Nat.le_of_ble_eq_true rfl) (tm_its (d - 1) hh_0 p1 1 _ _ _ h) rfl ?_
        exact x_iret (pc := 68) dX10_as_68
      · have h := aw_neg h c_13
        refine x_aload_n (pc := 53) 0 dX10_as_53 rfl rfl ?_
        refine x_ldc (pc := 54) dX10_as_54 wk_X10_84 ?_
        obtain ⟨r_15, M_16, e_14, h⟩ := aw_bi_e h
        refine x_callV (pc := 56) (As := [.int (-1000000005)]) (rest := []) (st' := [.int r_15]) (w := (some (.int r_15))) dX10_as_56 cw_X10_49 hd1 gm_0 rfl rfl rfl (Nat.le_of_ble_eq_true rfl) (tm_errs (d - 1) hh_0 (-1000000005) _ _ _ e_14) rfl ?_
        refine x_goto (pc := 59) 68 dX10_as_59 (by decide) ?_
        obtain ⟨rfl, rfl⟩ := aw_so h
        exact x_iret (pc := 68) dX10_as_68
    · have h := aw_neg h c_12
      refine x_iload_n (pc := 36) 3 dX10_as_36 rfl rfl ?_
      refine x_iload_n (pc := 37) 2 dX10_as_37 rfl rfl ?_
      refine x_icmp_eq (pc := 38) 49 dX10_as_38 (by decide) (fun c_17 => ?_) (fun c_17 => ?_)
      · have h := aw_pos h c_17
        refine x_iload_n (pc := 49) 3 dX10_as_49 rfl rfl ?_
        refine x_if_ge (pc := 50) 62 dX10_as_50 (by decide) (fun c_18 => ?_) (fun c_18 => ?_)
        · have h := aw_pos h c_18
          refine x_aload_n (pc := 62) 0 dX10_as_62 rfl rfl ?_
          refine x_iload_n (pc := 63) 1 dX10_as_63 rfl rfl ?_
          refine x_iconst (pc := 64) (w := 1) dX10_as_64 ic_1 ?_
          refine x_callV (pc := 65) (As := [.int p1, .int 1]) (rest := []) (st' := [.int r]) (w := (some (.int r))) dX10_as_65 cw_X10_78 hd1 gm_0 rfl rfl rfl (Nat.le_of_ble_eq_true rfl) (tm_its (d - 1) hh_0 p1 1 _ _ _ h) rfl ?_
          exact x_iret (pc := 68) dX10_as_68
        · have h := aw_neg h c_18
          refine x_aload_n (pc := 53) 0 dX10_as_53 rfl rfl ?_
          refine x_ldc (pc := 54) dX10_as_54 wk_X10_84 ?_
          obtain ⟨r_20, M_21, e_19, h⟩ := aw_bi_e h
          refine x_callV (pc := 56) (As := [.int (-1000000005)]) (rest := []) (st' := [.int r_20]) (w := (some (.int r_20))) dX10_as_56 cw_X10_49 hd1 gm_0 rfl rfl rfl (Nat.le_of_ble_eq_true rfl) (tm_errs (d - 1) hh_0 (-1000000005) _ _ _ e_19) rfl ?_
          refine x_goto (pc := 59) 68 dX10_as_59 (by decide) ?_
          obtain ⟨rfl, rfl⟩ := aw_so h
          exact x_iret (pc := 68) dX10_as_68
      · have h := aw_neg h c_17
        refine x_iload_n (pc := 41) 3 dX10_as_41 rfl rfl ?_
        obtain ⟨r_23, M_24, e_22, h⟩ := aw_bi_e h
        refine x_callS (pc := 42) (As := [.int p3]) (rest := []) (st' := [.int r_23]) (w := (some (.int r_23))) dX10_as_42 cw_X10_81 hd1 rfl rfl (Nat.le_of_ble_eq_true rfl) (tm_above (d - 1) hh_0 p3 _ _ _ e_22) rfl ?_
        refine x_istore_n (pc := 45) 3 [(3, .int r_23), (0, .ref (ad 0)), (1, .int p1), (2, .int p2)] dX10_as_45 rfl (by decide) rfl ?_
        refine x_goto (pc := 46) 32 dX10_as_46 (by decide) ?_
        refine x_lv [1, 2, 3, 0] [(0, .ref (ad 0)), (1, .int p1), (2, .int p2), (3, .int r_23)] rfl ?_
        exact ih p1 p2 r_23 _ _ _ h
def fm_as (p1 : Int32) (p2 : Int32) (M : aw_M) : Option (Int32 × aw_M) :=
  aw_bi (fm_isCloth p1 M) fun r_2 M_3 => (
  if r_2 = 0 then (
    fm_errs (-1000000001) M_3
  ) else (
    aw_bi (fm_in p2 0 6 M_3) fun r_6 M_7 => (
    if r_6 = 0 then (
      fm_errs (-1000000001) M_7
    ) else (
      aw_bi (fm_its p1 0 M_7) fun r_10 M_11 => (
      fm_as_L32  2000 p1 p2 r_10 M_11
      )
    )
    )
  )
  )
set_option maxRecDepth 20000 in
theorem tm_as {l : Launch} {D : va_G} {cy : Nat → ClassId} {ad : Nat → Nat} {A : Nat → Prop} (d : Nat) (hd : 2 ≤ d) (p1 : Int32) (p2 : Int32) (M : aw_M) (r : Int32) (M1 : aw_M) (h : fm_as p1 p2 M = some (r, M1)) : AX l D cy ad A gm_G yX10_as cX10_as 4 (some .int) d [.ref (ad 0), .int p1, .int p2] M (some (.int r)) M1 := by
  have hd1 : (d - 1) + 1 ≤ d := by omega
  have hm1 : 1 ≤ d := by omega
  have hh_0 : 0 ≤ d - 1 := by omega
  have hh_1 : 1 ≤ d - 1 := by omega
  refine AX.of (own := RX10) (by decide +kernel) rfl (Nat.le_of_ble_eq_true rfl) ?_
  unfold fm_as at h
  show AW l D cy ad A gm_G RX10 cX10_as 4 (some .int) d (some (.int r)) M1 0 [(0, .ref (ad 0)), (1, .int p1), (2, .int p2)] [] M
  refine x_aload_n (pc := 0) 0 dX10_as_0 rfl rfl ?_
  refine x_iload_n (pc := 1) 1 dX10_as_1 rfl rfl ?_
  obtain ⟨r_2, M_3, e_1, h⟩ := aw_bi_e h
  refine x_callV (pc := 2) (As := [.int p1]) (rest := []) (st' := [.int r_2]) (w := (some (.int r_2))) dX10_as_2 cw_X10_62 hd1 gm_0 rfl rfl rfl (Nat.le_of_ble_eq_true rfl) (tm_isCloth (d - 1) hh_1 p1 _ _ _ e_1) rfl ?_
  refine x_if_eq (pc := 5) 18 dX10_as_5 (by decide) (fun c_4 => ?_) (fun c_4 => ?_)
  · have h := aw_pos h c_4
    refine x_aload_n (pc := 18) 0 dX10_as_18 rfl rfl ?_
    refine x_ldc (pc := 19) dX10_as_19 wk_X10_48 ?_
    refine x_callV (pc := 21) (As := [.int (-1000000001)]) (rest := []) (st' := [.int r]) (w := (some (.int r))) dX10_as_21 cw_X10_49 hd1 gm_0 rfl rfl rfl (Nat.le_of_ble_eq_true rfl) (tm_errs (d - 1) hh_0 (-1000000001) _ _ _ h) rfl ?_
    exact x_iret (pc := 24) dX10_as_24
  · have h := aw_neg h c_4
    refine x_iload_n (pc := 8) 2 dX10_as_8 rfl rfl ?_
    refine x_iconst (pc := 9) (w := 0) dX10_as_9 ic_0 ?_
    refine x_bipush (pc := 10) (w := 6) dX10_as_10 bi_6 ?_
    obtain ⟨r_6, M_7, e_5, h⟩ := aw_bi_e h
    refine x_callS (pc := 12) (As := [.int p2, .int 0, .int 6]) (rest := []) (st' := [.int r_6]) (w := (some (.int r_6))) dX10_as_12 cw_X10_44 hd1 rfl rfl (Nat.le_of_ble_eq_true rfl) (tm_in (d - 1) hh_0 p2 0 6 _ _ _ e_5) rfl ?_
    refine x_if_ne (pc := 15) 25 dX10_as_15 (by decide) (fun c_8 => ?_) (fun c_8 => ?_)
    · have h := aw_neg h c_8
      refine x_aload_n (pc := 25) 0 dX10_as_25 rfl rfl ?_
      refine x_iload_n (pc := 26) 1 dX10_as_26 rfl rfl ?_
      refine x_iconst (pc := 27) (w := 0) dX10_as_27 ic_0 ?_
      obtain ⟨r_10, M_11, e_9, h⟩ := aw_bi_e h
      refine x_callV (pc := 28) (As := [.int p1, .int 0]) (rest := []) (st' := [.int r_10]) (w := (some (.int r_10))) dX10_as_28 cw_X10_78 hd1 gm_0 rfl rfl rfl (Nat.le_of_ble_eq_true rfl) (tm_its (d - 1) hh_0 p1 0 _ _ _ e_9) rfl ?_
      refine x_istore_n (pc := 31) 3 [(3, .int r_10), (0, .ref (ad 0)), (1, .int p1), (2, .int p2)] dX10_as_31 rfl (by decide) rfl ?_
      refine x_lv [1, 2, 3, 0] [(0, .ref (ad 0)), (1, .int p1), (2, .int p2), (3, .int r_10)] rfl ?_
      exact tm_as_L32 d hd  2000 p1 p2 r_10 _ _ _ h
    · have h := aw_pos h c_8
      refine x_aload_n (pc := 18) 0 dX10_as_18 rfl rfl ?_
      refine x_ldc (pc := 19) dX10_as_19 wk_X10_48 ?_
      refine x_callV (pc := 21) (As := [.int (-1000000001)]) (rest := []) (st' := [.int r]) (w := (some (.int r))) dX10_as_21 cw_X10_49 hd1 gm_0 rfl rfl rfl (Nat.le_of_ble_eq_true rfl) (tm_errs (d - 1) hh_0 (-1000000001) _ _ _ h) rfl ?_
      exact x_iret (pc := 24) dX10_as_24
def fm_law (p1 : Int32) (p2 : Int32) (p3 : Int32) (p4 : Int32) (M : aw_M) : Option (Int32 × aw_M) :=
  aw_bi (fm_in p1 0 1 M) fun r_2 M_3 => (
  if r_2 = 0 then (
    fm_errs (-1000000001) M_3
  ) else (
    aw_bi (fm_lawOf p1 p2 p3 p4 M_3) fun r_6 M_7 => (
    some (r_6, M_7)
    )
  )
  )
set_option maxRecDepth 20000 in
theorem tm_law {l : Launch} {D : va_G} {cy : Nat → ClassId} {ad : Nat → Nat} {A : Nat → Prop} (d : Nat) (hd : 104 ≤ d) (p1 : Int32) (p2 : Int32) (p3 : Int32) (p4 : Int32) (M : aw_M) (r : Int32) (M1 : aw_M) (h : fm_law p1 p2 p3 p4 M = some (r, M1)) : AX l D cy ad A gm_G yX10_law cX10_law 5 (some .int) d [.ref (ad 0), .int p1, .int p2, .int p3, .int p4] M (some (.int r)) M1 := by
  have hd1 : (d - 1) + 1 ≤ d := by omega
  have hm1 : 1 ≤ d := by omega
  have hh_0 : 0 ≤ d - 1 := by omega
  have hh_103 : 103 ≤ d - 1 := by omega
  refine AX.of (own := RX10) (by decide +kernel) rfl (Nat.le_of_ble_eq_true rfl) ?_
  unfold fm_law at h
  show AW l D cy ad A gm_G RX10 cX10_law 5 (some .int) d (some (.int r)) M1 0 [(0, .ref (ad 0)), (1, .int p1), (2, .int p2), (3, .int p3), (4, .int p4)] [] M
  refine x_iload_n (pc := 0) 1 dX10_law_0 rfl rfl ?_
  refine x_iconst (pc := 1) (w := 0) dX10_law_1 ic_0 ?_
  refine x_iconst (pc := 2) (w := 1) dX10_law_2 ic_1 ?_
  obtain ⟨r_2, M_3, e_1, h⟩ := aw_bi_e h
  refine x_callS (pc := 3) (As := [.int p1, .int 0, .int 1]) (rest := []) (st' := [.int r_2]) (w := (some (.int r_2))) dX10_law_3 cw_X10_44 hd1 rfl rfl (Nat.le_of_ble_eq_true rfl) (tm_in (d - 1) hh_0 p1 0 1 _ _ _ e_1) rfl ?_
  refine x_if_eq (pc := 6) 21 dX10_law_6 (by decide) (fun c_4 => ?_) (fun c_4 => ?_)
  · have h := aw_pos h c_4
    refine x_aload_n (pc := 21) 0 dX10_law_21 rfl rfl ?_
    refine x_ldc (pc := 22) dX10_law_22 wk_X10_48 ?_
    refine x_callV (pc := 24) (As := [.int (-1000000001)]) (rest := []) (st' := [.int r]) (w := (some (.int r))) dX10_law_24 cw_X10_49 hd1 gm_0 rfl rfl rfl (Nat.le_of_ble_eq_true rfl) (tm_errs (d - 1) hh_0 (-1000000001) _ _ _ h) rfl ?_
    exact x_iret (pc := 27) dX10_law_27
  · have h := aw_neg h c_4
    refine x_aload_n (pc := 9) 0 dX10_law_9 rfl rfl ?_
    refine x_iload_n (pc := 10) 1 dX10_law_10 rfl rfl ?_
    refine x_iload_n (pc := 11) 2 dX10_law_11 rfl rfl ?_
    refine x_iload_n (pc := 12) 3 dX10_law_12 rfl rfl ?_
    refine x_iload (pc := 13) dX10_law_13 rfl ?_
    obtain ⟨r_6, M_7, e_5, h⟩ := aw_bi_e h
    refine x_callV (pc := 15) (As := [.int p1, .int p2, .int p3, .int p4]) (rest := []) (st' := [.int r_6]) (w := (some (.int r_6))) dX10_law_15 cw_X10_153 hd1 gm_0 rfl rfl rfl (Nat.le_of_ble_eq_true rfl) (tm_lawOf (d - 1) hh_103 p1 p2 p3 p4 _ _ _ e_5) rfl ?_
    refine x_goto (pc := 18) 27 dX10_law_18 (by decide) ?_
    obtain ⟨rfl, rfl⟩ := aw_so h
    exact x_iret (pc := 27) dX10_law_27
def fm_feed_L40 : Nat → Int64 → Int32 → Int32 → aw_M → Option (Int32 × aw_M)
  | 0, _, _, _, _ => none
  | n + 1, p1, p3, p4, M =>
    if p3 ≤ p4 then (
      some ((M 1 3), M)
    ) else (
      if aw_in (43 + (M 1 3)) 213 then none else (
      fm_feed_L40 n p1 p3 (p4 + 1) (aw_u (aw_u M 1 (43 + (M 1 3)).toNatClampNeg (((p1 >>> ((8 * p4).toInt64 &&& 63)) &&& 255).toInt32)) 1 3 (((aw_u M 1 (43 + (M 1 3)).toNatClampNeg (((p1 >>> ((8 * p4).toInt64 &&& 63)) &&& 255).toInt32)) 1 3) + 1))
      )
    )
theorem fm_feed_L40_s (n : Nat) (p1 : Int64) (p3 : Int32) (p4 : Int32) (M : aw_M) : fm_feed_L40 (n + 1) p1 p3 p4 M = (
    if p3 ≤ p4 then (
      some ((M 1 3), M)
    ) else (
      if aw_in (43 + (M 1 3)) 213 then none else (
      fm_feed_L40 n p1 p3 (p4 + 1) (aw_u (aw_u M 1 (43 + (M 1 3)).toNatClampNeg (((p1 >>> ((8 * p4).toInt64 &&& 63)) &&& 255).toInt32)) 1 3 (((aw_u M 1 (43 + (M 1 3)).toNatClampNeg (((p1 >>> ((8 * p4).toInt64 &&& 63)) &&& 255).toInt32)) 1 3) + 1))
      )
    )
    ) := rfl
set_option maxRecDepth 20000 in
theorem tm_feed_L40 {l : Launch} {D : va_G} {cy : Nat → ClassId} {ad : Nat → Nat} {A : Nat → Prop} (d : Nat) (hd : 1 ≤ d) : ∀ (n : Nat) (p1 : Int64) (p3 : Int32) (p4 : Int32) (M : aw_M) (r : Int32) (M1 : aw_M), fm_feed_L40 n p1 p3 p4 M = some (r, M1) → AW l D cy ad A gm_G RX10 cX10_feed 5 (some .int) d (some (.int r)) M1 40 [(0, .ref (ad 0)), (1, .long p1), (3, .int p3), (4, .int p4)] [] M := by
  have hd1 : (d - 1) + 1 ≤ d := by omega
  have hm1 : 1 ≤ d := by omega
  have hh_0 : 0 ≤ d - 1 := by omega
  intro n
  induction n with
  | zero => intro p1 p3 p4 M r M1 h; cases h
  | succ n ih =>
    intro p1 p3 p4 M r M1 h
    rw [fm_feed_L40_s] at h
    refine x_iload (pc := 40) dX10_feed_40 rfl ?_
    refine x_iload_n (pc := 42) 3 dX10_feed_42 rfl rfl ?_
    refine x_icmp_ge (pc := 43) 88 dX10_feed_43 (by decide) (fun c_6 => ?_) (fun c_6 => ?_)
    · have h := aw_pos h c_6
      refine x_aload_n (pc := 88) 0 dX10_feed_88 rfl rfl ?_
      refine x_get (pc := 89) dX10_feed_89 lk_X10_7 gm_0 rfl rfl ?_
      refine x_iconst (pc := 92) (w := 3) dX10_feed_92 ic_3 ?_
      refine x_ialdJ (pc := 93) 3 dX10_feed_93 gm_1 (by decide) tn_3 ?_
      obtain ⟨rfl, rfl⟩ := aw_so h
      exact x_iret (pc := 94) dX10_feed_94
    · have h := aw_neg h c_6
      refine x_aload_n (pc := 46) 0 dX10_feed_46 rfl rfl ?_
      refine x_get (pc := 47) dX10_feed_47 lk_X10_7 gm_0 rfl rfl ?_
      refine x_bipush (pc := 50) (w := 43) dX10_feed_50 bi_43 ?_
      refine x_aload_n (pc := 52) 0 dX10_feed_52 rfl rfl ?_
      refine x_get (pc := 53) dX10_feed_53 lk_X10_7 gm_0 rfl rfl ?_
      refine x_iconst (pc := 56) (w := 3) dX10_feed_56 ic_3 ?_
      refine x_ialdJ (pc := 57) 3 dX10_feed_57 gm_1 (by decide) tn_3 ?_
      refine x_iadd (pc := 58) dX10_feed_58 ?_
      refine x_lload_n (pc := 59) 1 dX10_feed_59 rfl rfl ?_
      refine x_bipush (pc := 60) (w := 8) dX10_feed_60 bi_8 ?_
      refine x_iload (pc := 62) dX10_feed_62 rfl ?_
      refine x_imul (pc := 64) dX10_feed_64 ?_
      refine x_lshr (pc := 65) dX10_feed_65 ?_
      refine x_ldc2 (pc := 66) dX10_feed_66 wk_X10_156 ?_
      refine x_land (pc := 69) dX10_feed_69 ?_
      refine x_l2i (pc := 70) dX10_feed_70 ?_
      obtain ⟨c_7, h⟩ := aw_ck h
      refine x_iast (pc := 71) dX10_feed_71 gm_1 c_7 ?_
      refine x_aload_n (pc := 72) 0 dX10_feed_72 rfl rfl ?_
      refine x_get (pc := 73) dX10_feed_73 lk_X10_7 gm_0 rfl rfl ?_
      refine x_iconst (pc := 76) (w := 3) dX10_feed_76 ic_3 ?_
      refine x_dup2_11 (pc := 77) dX10_feed_77 rfl rfl ?_
      refine x_ialdJ (pc := 78) 3 dX10_feed_78 gm_1 (by decide) tn_3 ?_
      refine x_iconst (pc := 79) (w := 1) dX10_feed_79 ic_1 ?_
      refine x_iadd (pc := 80) dX10_feed_80 ?_
      refine x_iastJ (pc := 81) 3 dX10_feed_81 gm_1 (by decide) tn_3 ?_
      refine x_iinc (pc := 82) (p4 + 1) [(4, .int (p4 + 1)), (0, .ref (ad 0)), (1, .long p1), (3, .int p3)] dX10_feed_82 rfl (congrArg (fun z => p4 + z) ic_1) (by decide) rfl ?_
      refine x_goto (pc := 85) 40 dX10_feed_85 (by decide) ?_
      refine x_lv [1, 2, 3, 0] [(0, .ref (ad 0)), (1, .long p1), (3, .int p3), (4, .int (p4 + 1))] rfl ?_
      exact ih p1 p3 (p4 + 1) _ _ _ h
def fm_feed (p1 : Int64) (p3 : Int32) (M : aw_M) : Option (Int32 × aw_M) :=
  aw_bi (fm_in p3 1 8 M) fun r_2 M_3 => (
  if r_2 = 0 then (
    fm_errs (-1000000001) M_3
  ) else (
    if ((M_3 1 3) + p3) ≤ 50 then (
      fm_feed_L40  2000 p1 p3 0 M_3
    ) else (
      fm_errs (-1000000004) M_3
    )
  )
  )
set_option maxRecDepth 20000 in
theorem tm_feed {l : Launch} {D : va_G} {cy : Nat → ClassId} {ad : Nat → Nat} {A : Nat → Prop} (d : Nat) (hd : 1 ≤ d) (p1 : Int64) (p3 : Int32) (M : aw_M) (r : Int32) (M1 : aw_M) (h : fm_feed p1 p3 M = some (r, M1)) : AX l D cy ad A gm_G yX10_feed cX10_feed 5 (some .int) d [.ref (ad 0), .long p1, .int p3] M (some (.int r)) M1 := by
  have hd1 : (d - 1) + 1 ≤ d := by omega
  have hm1 : 1 ≤ d := by omega
  have hh_0 : 0 ≤ d - 1 := by omega
  refine AX.of (own := RX10) (by decide +kernel) rfl (Nat.le_of_ble_eq_true rfl) ?_
  unfold fm_feed at h
  show AW l D cy ad A gm_G RX10 cX10_feed 5 (some .int) d (some (.int r)) M1 0 [(0, .ref (ad 0)), (1, .long p1), (3, .int p3)] [] M
  refine x_iload_n (pc := 0) 3 dX10_feed_0 rfl rfl ?_
  refine x_iconst (pc := 1) (w := 1) dX10_feed_1 ic_1 ?_
  refine x_bipush (pc := 2) (w := 8) dX10_feed_2 bi_8 ?_
  obtain ⟨r_2, M_3, e_1, h⟩ := aw_bi_e h
  refine x_callS (pc := 4) (As := [.int p3, .int 1, .int 8]) (rest := []) (st' := [.int r_2]) (w := (some (.int r_2))) dX10_feed_4 cw_X10_44 hd1 rfl rfl (Nat.le_of_ble_eq_true rfl) (tm_in (d - 1) hh_0 p3 1 8 _ _ _ e_1) rfl ?_
  refine x_if_ne (pc := 7) 17 dX10_feed_7 (by decide) (fun c_4 => ?_) (fun c_4 => ?_)
  · have h := aw_neg h c_4
    refine x_aload_n (pc := 17) 0 dX10_feed_17 rfl rfl ?_
    refine x_get (pc := 18) dX10_feed_18 lk_X10_7 gm_0 rfl rfl ?_
    refine x_iconst (pc := 21) (w := 3) dX10_feed_21 ic_3 ?_
    refine x_ialdJ (pc := 22) 3 dX10_feed_22 gm_1 (by decide) tn_3 ?_
    refine x_iload_n (pc := 23) 3 dX10_feed_23 rfl rfl ?_
    refine x_iadd (pc := 24) dX10_feed_24 ?_
    refine x_bipush (pc := 25) (w := 50) dX10_feed_25 bi_50 ?_
    refine x_icmp_le (pc := 27) 37 dX10_feed_27 (by decide) (fun c_5 => ?_) (fun c_5 => ?_)
    · have h := aw_pos h c_5
      refine x_iconst (pc := 37) (w := 0) dX10_feed_37 ic_0 ?_
      refine x_istore (pc := 38) 4 [(4, .int 0), (0, .ref (ad 0)), (1, .long p1), (3, .int p3)] dX10_feed_38 (by decide) rfl ?_
      refine x_lv [1, 2, 3, 0] [(0, .ref (ad 0)), (1, .long p1), (3, .int p3), (4, .int 0)] rfl ?_
      exact tm_feed_L40 d hd  2000 p1 p3 0 _ _ _ h
    · have h := aw_neg h c_5
      refine x_aload_n (pc := 30) 0 dX10_feed_30 rfl rfl ?_
      refine x_ldc (pc := 31) dX10_feed_31 wk_X10_57 ?_
      refine x_callV (pc := 33) (As := [.int (-1000000004)]) (rest := []) (st' := [.int r]) (w := (some (.int r))) dX10_feed_33 cw_X10_49 hd1 gm_0 rfl rfl rfl (Nat.le_of_ble_eq_true rfl) (tm_errs (d - 1) hh_0 (-1000000004) _ _ _ h) rfl ?_
      exact x_iret (pc := 36) dX10_feed_36
  · have h := aw_pos h c_4
    refine x_aload_n (pc := 10) 0 dX10_feed_10 rfl rfl ?_
    refine x_ldc (pc := 11) dX10_feed_11 wk_X10_48 ?_
    refine x_callV (pc := 13) (As := [.int (-1000000001)]) (rest := []) (st' := [.int r]) (w := (some (.int r))) dX10_feed_13 cw_X10_49 hd1 gm_0 rfl rfl rfl (Nat.le_of_ble_eq_true rfl) (tm_errs (d - 1) hh_0 (-1000000001) _ _ _ h) rfl ?_
    exact x_iret (pc := 16) dX10_feed_16
def fm_text_J105 (p100 : Int32) (M : aw_M) : Option (Int32 × aw_M) :=
    if p100 = 0 then (
      aw_bv (fm_moveAll 4 1 M) fun M_19 => (
      if p100 = 0 then (
        some (((-10) - (M 0 8)), (aw_u M_19 1 3 0))
      ) else (
        some (1, (aw_u M_19 1 3 0))
      )
      )
    ) else (
      if p100 = 0 then (
        some (((-10) - (M 0 8)), (aw_u M 1 3 0))
      ) else (
        some (1, (aw_u M 1 3 0))
      )
    )
set_option maxRecDepth 20000 in
theorem tm_text_J105 {l : Launch} {D : va_G} {cy : Nat → ClassId} {ad : Nat → Nat} {A : Nat → Prop} (d : Nat) (hd : 103 ≤ d) (p100 : Int32) (M : aw_M) (r : Int32) (M1 : aw_M) (h : fm_text_J105 p100 M = some (r, M1)) : AW l D cy ad A gm_G RX10 cX10_text 5 (some .int) d (some (.int r)) M1 105 [(0, .ref (ad 0))] [.int p100] M := by
  have hd1 : (d - 1) + 1 ≤ d := by omega
  have hm1 : 1 ≤ d := by omega
  have hh_0 : 0 ≤ d - 1 := by omega
  have hh_102 : 102 ≤ d - 1 := by omega
  unfold fm_text_J105 at h
  refine x_istore_n (pc := 105) 3 [(3, .int p100), (0, .ref (ad 0))] dX10_text_105 rfl (by decide) rfl ?_
  refine x_aload_n (pc := 106) 0 dX10_text_106 rfl rfl ?_
  refine x_get (pc := 107) dX10_text_107 lk_X10_96 gm_0 rfl rfl ?_
  refine x_istore (pc := 110) 4 [(4, .int (M 0 8)), (3, .int p100), (0, .ref (ad 0))] dX10_text_110 (by decide) rfl ?_
  refine x_iload_n (pc := 112) 3 dX10_text_112 rfl rfl ?_
  refine x_if_ne (pc := 113) 128 dX10_text_113 (by decide) (fun c_16 => ?_) (fun c_16 => ?_)
  · have h := aw_neg h c_16
    refine x_aload_n (pc := 128) 0 dX10_text_128 rfl rfl ?_
    refine x_get (pc := 129) dX10_text_129 lk_X10_7 gm_0 rfl rfl ?_
    refine x_iconst (pc := 132) (w := 3) dX10_text_132 ic_3 ?_
    refine x_iconst (pc := 133) (w := 0) dX10_text_133 ic_0 ?_
    refine x_iastJ (pc := 134) 3 dX10_text_134 gm_1 (by decide) tn_3 ?_
    refine x_iload_n (pc := 135) 3 dX10_text_135 rfl rfl ?_
    refine x_if_eq (pc := 136) 143 dX10_text_136 (by decide) (fun c_17 => ?_) (fun c_17 => ?_)
    · have h := aw_pos h c_17
      refine x_bipush (pc := 143) (w := (-10)) dX10_text_143 bi_m10 ?_
      refine x_iload (pc := 145) dX10_text_145 rfl ?_
      refine x_isub (pc := 147) dX10_text_147 ?_
      obtain ⟨rfl, rfl⟩ := aw_so h
      exact x_iret (pc := 148) dX10_text_148
    · have h := aw_neg h c_17
      refine x_iconst (pc := 139) (w := 1) dX10_text_139 ic_1 ?_
      refine x_goto (pc := 140) 148 dX10_text_140 (by decide) ?_
      obtain ⟨rfl, rfl⟩ := aw_so h
      exact x_iret (pc := 148) dX10_text_148
  · have h := aw_pos h c_16
    refine x_aload_n (pc := 116) 0 dX10_text_116 rfl rfl ?_
    refine x_aload_n (pc := 117) 0 dX10_text_117 rfl rfl ?_
    refine x_get (pc := 118) dX10_text_118 lk_X10_19 gm_0 rfl rfl ?_
    refine x_aload_n (pc := 121) 0 dX10_text_121 rfl rfl ?_
    refine x_get (pc := 122) dX10_text_122 lk_X10_7 gm_0 rfl rfl ?_
    obtain ⟨M_19, e_18, h⟩ := aw_bv_e h
    refine x_callV (pc := 125) (As := [.ref (ad 4), .ref (ad 1)]) (rest := []) (st' := []) (w := none) dX10_text_125 cw_X10_158 hd1 gm_0 rfl rfl rfl (Nat.le_of_ble_eq_true rfl) (tm_moveAll (d - 1) hh_0 4 gm_4 1 gm_1 _  _ e_18) rfl ?_
    refine x_aload_n (pc := 128) 0 dX10_text_128 rfl rfl ?_
    refine x_get (pc := 129) dX10_text_129 lk_X10_7 gm_0 rfl rfl ?_
    refine x_iconst (pc := 132) (w := 3) dX10_text_132 ic_3 ?_
    refine x_iconst (pc := 133) (w := 0) dX10_text_133 ic_0 ?_
    refine x_iastJ (pc := 134) 3 dX10_text_134 gm_1 (by decide) tn_3 ?_
    refine x_iload_n (pc := 135) 3 dX10_text_135 rfl rfl ?_
    refine x_if_eq (pc := 136) 143 dX10_text_136 (by decide) (fun c_20 => ?_) (fun c_20 => ?_)
    · have h := aw_pos h c_20
      refine x_bipush (pc := 143) (w := (-10)) dX10_text_143 bi_m10 ?_
      refine x_iload (pc := 145) dX10_text_145 rfl ?_
      refine x_isub (pc := 147) dX10_text_147 ?_
      obtain ⟨rfl, rfl⟩ := aw_so h
      exact x_iret (pc := 148) dX10_text_148
    · have h := aw_neg h c_20
      refine x_iconst (pc := 139) (w := 1) dX10_text_139 ic_1 ?_
      refine x_goto (pc := 140) 148 dX10_text_140 (by decide) ?_
      obtain ⟨rfl, rfl⟩ := aw_so h
      exact x_iret (pc := 148) dX10_text_148
def fm_text_L30 : Nat → Int32 → Int32 → aw_M → Option (Int32 × aw_M)
  | 0, _, _, _ => none
  | n + 1, p1, p2, M =>
    if (50 : Int32) ≤ p2 then (
      if aw_in (5 + p1) 213 then none else (
      aw_bi (fm_walks p1 1 1 1 (aw_u M 1 (5 + p1).toNatClampNeg (M 1 3))) fun r_10 M_11 => (
      if (M_11 0 14) = 0 then (
        fm_text_J105  0 M_11
      ) else (
        if r_10 = r_10 then (
          fm_text_J105  1 M_11
        ) else (
          fm_text_J105  0 M_11
        )
      )
      )
      )
    ) else (
      if aw_in (43 + p2) 213 then none else (
      if aw_in ((113 + (50 * p1)) + p2) 213 then none else (
      fm_text_L30 n p1 (p2 + 1) (aw_u M 1 ((113 + (50 * p1)) + p2).toNatClampNeg (M 1 (43 + p2).toNatClampNeg))
      )
      )
    )
theorem fm_text_L30_s (n : Nat) (p1 : Int32) (p2 : Int32) (M : aw_M) : fm_text_L30 (n + 1) p1 p2 M = (
    if (50 : Int32) ≤ p2 then (
      if aw_in (5 + p1) 213 then none else (
      aw_bi (fm_walks p1 1 1 1 (aw_u M 1 (5 + p1).toNatClampNeg (M 1 3))) fun r_10 M_11 => (
      if (M_11 0 14) = 0 then (
        fm_text_J105  0 M_11
      ) else (
        if r_10 = r_10 then (
          fm_text_J105  1 M_11
        ) else (
          fm_text_J105  0 M_11
        )
      )
      )
      )
    ) else (
      if aw_in (43 + p2) 213 then none else (
      if aw_in ((113 + (50 * p1)) + p2) 213 then none else (
      fm_text_L30 n p1 (p2 + 1) (aw_u M 1 ((113 + (50 * p1)) + p2).toNatClampNeg (M 1 (43 + p2).toNatClampNeg))
      )
      )
    )
    ) := rfl
set_option maxRecDepth 20000 in
theorem tm_text_L30 {l : Launch} {D : va_G} {cy : Nat → ClassId} {ad : Nat → Nat} {A : Nat → Prop} (d : Nat) (hd : 103 ≤ d) : ∀ (n : Nat) (p1 : Int32) (p2 : Int32) (M : aw_M) (r : Int32) (M1 : aw_M), fm_text_L30 n p1 p2 M = some (r, M1) → AW l D cy ad A gm_G RX10 cX10_text 5 (some .int) d (some (.int r)) M1 30 [(0, .ref (ad 0)), (1, .int p1), (2, .int p2)] [] M := by
  have hd1 : (d - 1) + 1 ≤ d := by omega
  have hm1 : 1 ≤ d := by omega
  have hh_0 : 0 ≤ d - 1 := by omega
  have hh_102 : 102 ≤ d - 1 := by omega
  intro n
  induction n with
  | zero => intro p1 p2 M r M1 h; cases h
  | succ n ih =>
    intro p1 p2 M r M1 h
    rw [fm_text_L30_s] at h
    refine x_iload_n (pc := 30) 2 dX10_text_30 rfl rfl ?_
    refine x_bipush (pc := 31) (w := 50) dX10_text_31 bi_50 ?_
    refine x_icmp_ge (pc := 33) 65 dX10_text_33 (by decide) (fun c_7 => ?_) (fun c_7 => ?_)
    · have h := aw_pos h c_7
      refine x_aload_n (pc := 65) 0 dX10_text_65 rfl rfl ?_
      refine x_get (pc := 66) dX10_text_66 lk_X10_7 gm_0 rfl rfl ?_
      refine x_iconst (pc := 69) (w := 5) dX10_text_69 ic_5 ?_
      refine x_iload_n (pc := 70) 1 dX10_text_70 rfl rfl ?_
      refine x_iadd (pc := 71) dX10_text_71 ?_
      refine x_aload_n (pc := 72) 0 dX10_text_72 rfl rfl ?_
      refine x_get (pc := 73) dX10_text_73 lk_X10_7 gm_0 rfl rfl ?_
      refine x_iconst (pc := 76) (w := 3) dX10_text_76 ic_3 ?_
      refine x_ialdJ (pc := 77) 3 dX10_text_77 gm_1 (by decide) tn_3 ?_
      obtain ⟨c_8, h⟩ := aw_ck h
      refine x_iast (pc := 78) dX10_text_78 gm_1 c_8 ?_
      refine x_aload_n (pc := 79) 0 dX10_text_79 rfl rfl ?_
      refine x_iload_n (pc := 80) 1 dX10_text_80 rfl rfl ?_
      refine x_iconst (pc := 81) (w := 1) dX10_text_81 ic_1 ?_
      refine x_iconst (pc := 82) (w := 1) dX10_text_82 ic_1 ?_
      refine x_iconst (pc := 83) (w := 1) dX10_text_83 ic_1 ?_
      obtain ⟨r_10, M_11, e_9, h⟩ := aw_bi_e h
      refine x_callV (pc := 84) (As := [.int p1, .int 1, .int 1, .int 1]) (rest := []) (st' := [.int r_10]) (w := (some (.int r_10))) dX10_text_84 cw_X10_145 hd1 gm_0 rfl rfl rfl (Nat.le_of_ble_eq_true rfl) (tm_walks (d - 1) hh_102 p1 1 1 1 _ _ _ e_9) rfl ?_
      refine x_istore_n (pc := 87) 2 [(2, .int r_10), (0, .ref (ad 0)), (1, .int p1)] dX10_text_87 rfl (by decide) rfl ?_
      refine x_aload_n (pc := 88) 0 dX10_text_88 rfl rfl ?_
      refine x_get (pc := 89) dX10_text_89 lk_X10_92 gm_0 rfl rfl ?_
      refine x_if_eq (pc := 92) 104 dX10_text_92 (by decide) (fun c_12 => ?_) (fun c_12 => ?_)
      · have h := aw_pos h c_12
        refine x_iconst (pc := 104) (w := 0) dX10_text_104 ic_0 ?_
        refine x_lv [1] [(0, .ref (ad 0))] rfl ?_
        exact tm_text_J105 d hd  0 _ _ _ h
      · have h := aw_neg h c_12
        refine x_iload_n (pc := 95) 2 dX10_text_95 rfl rfl ?_
        refine x_iload_n (pc := 96) 2 dX10_text_96 rfl rfl ?_
        refine x_icmp_ne (pc := 97) 104 dX10_text_97 (by decide) (fun c_13 => ?_) (fun c_13 => ?_)
        · have h := aw_neg h c_13
          refine x_iconst (pc := 104) (w := 0) dX10_text_104 ic_0 ?_
          refine x_lv [1] [(0, .ref (ad 0))] rfl ?_
          exact tm_text_J105 d hd  0 _ _ _ h
        · have h := aw_pos h c_13
          refine x_iconst (pc := 100) (w := 1) dX10_text_100 ic_1 ?_
          refine x_goto (pc := 101) 105 dX10_text_101 (by decide) ?_
          refine x_lv [1] [(0, .ref (ad 0))] rfl ?_
          exact tm_text_J105 d hd  1 _ _ _ h
    · have h := aw_neg h c_7
      refine x_aload_n (pc := 36) 0 dX10_text_36 rfl rfl ?_
      refine x_get (pc := 37) dX10_text_37 lk_X10_7 gm_0 rfl rfl ?_
      refine x_bipush (pc := 40) (w := 113) dX10_text_40 bi_113 ?_
      refine x_bipush (pc := 42) (w := 50) dX10_text_42 bi_50 ?_
      refine x_iload_n (pc := 44) 1 dX10_text_44 rfl rfl ?_
      refine x_imul (pc := 45) dX10_text_45 ?_
      refine x_iadd (pc := 46) dX10_text_46 ?_
      refine x_iload_n (pc := 47) 2 dX10_text_47 rfl rfl ?_
      refine x_iadd (pc := 48) dX10_text_48 ?_
      refine x_aload_n (pc := 49) 0 dX10_text_49 rfl rfl ?_
      refine x_get (pc := 50) dX10_text_50 lk_X10_7 gm_0 rfl rfl ?_
      refine x_bipush (pc := 53) (w := 43) dX10_text_53 bi_43 ?_
      refine x_iload_n (pc := 55) 2 dX10_text_55 rfl rfl ?_
      refine x_iadd (pc := 56) dX10_text_56 ?_
      obtain ⟨c_14, h⟩ := aw_ck h
      refine x_iald (pc := 57) dX10_text_57 gm_1 c_14 ?_
      obtain ⟨c_15, h⟩ := aw_ck h
      refine x_iast (pc := 58) dX10_text_58 gm_1 c_15 ?_
      refine x_iinc (pc := 59) (p2 + 1) [(2, .int (p2 + 1)), (0, .ref (ad 0)), (1, .int p1)] dX10_text_59 rfl (congrArg (fun z => p2 + z) ic_1) (by decide) rfl ?_
      refine x_goto (pc := 62) 30 dX10_text_62 (by decide) ?_
      refine x_lv [1, 2, 0] [(0, .ref (ad 0)), (1, .int p1), (2, .int (p2 + 1))] rfl ?_
      exact ih p1 (p2 + 1) _ _ _ h
def fm_text (p1 : Int32) (M : aw_M) : Option (Int32 × aw_M) :=
  aw_bi (fm_in p1 0 1 M) fun r_2 M_3 => (
  if r_2 = 0 then (
    fm_errs (-1000000001) M_3
  ) else (
    aw_bv (fm_moveAll 1 4 M_3) fun M_6 => (
    fm_text_L30  2000 p1 0 M_6
    )
  )
  )
set_option maxRecDepth 20000 in
theorem tm_text {l : Launch} {D : va_G} {cy : Nat → ClassId} {ad : Nat → Nat} {A : Nat → Prop} (d : Nat) (hd : 103 ≤ d) (p1 : Int32) (M : aw_M) (r : Int32) (M1 : aw_M) (h : fm_text p1 M = some (r, M1)) : AX l D cy ad A gm_G yX10_text cX10_text 5 (some .int) d [.ref (ad 0), .int p1] M (some (.int r)) M1 := by
  have hd1 : (d - 1) + 1 ≤ d := by omega
  have hm1 : 1 ≤ d := by omega
  have hh_0 : 0 ≤ d - 1 := by omega
  have hh_102 : 102 ≤ d - 1 := by omega
  refine AX.of (own := RX10) (by decide +kernel) rfl (Nat.le_of_ble_eq_true rfl) ?_
  unfold fm_text at h
  show AW l D cy ad A gm_G RX10 cX10_text 5 (some .int) d (some (.int r)) M1 0 [(0, .ref (ad 0)), (1, .int p1)] [] M
  refine x_iload_n (pc := 0) 1 dX10_text_0 rfl rfl ?_
  refine x_iconst (pc := 1) (w := 0) dX10_text_1 ic_0 ?_
  refine x_iconst (pc := 2) (w := 1) dX10_text_2 ic_1 ?_
  obtain ⟨r_2, M_3, e_1, h⟩ := aw_bi_e h
  refine x_callS (pc := 3) (As := [.int p1, .int 0, .int 1]) (rest := []) (st' := [.int r_2]) (w := (some (.int r_2))) dX10_text_3 cw_X10_44 hd1 rfl rfl (Nat.le_of_ble_eq_true rfl) (tm_in (d - 1) hh_0 p1 0 1 _ _ _ e_1) rfl ?_
  refine x_if_ne (pc := 6) 16 dX10_text_6 (by decide) (fun c_4 => ?_) (fun c_4 => ?_)
  · have h := aw_neg h c_4
    refine x_aload_n (pc := 16) 0 dX10_text_16 rfl rfl ?_
    refine x_aload_n (pc := 17) 0 dX10_text_17 rfl rfl ?_
    refine x_get (pc := 18) dX10_text_18 lk_X10_7 gm_0 rfl rfl ?_
    refine x_aload_n (pc := 21) 0 dX10_text_21 rfl rfl ?_
    refine x_get (pc := 22) dX10_text_22 lk_X10_19 gm_0 rfl rfl ?_
    obtain ⟨M_6, e_5, h⟩ := aw_bv_e h
    refine x_callV (pc := 25) (As := [.ref (ad 1), .ref (ad 4)]) (rest := []) (st' := []) (w := none) dX10_text_25 cw_X10_158 hd1 gm_0 rfl rfl rfl (Nat.le_of_ble_eq_true rfl) (tm_moveAll (d - 1) hh_0 1 gm_1 4 gm_4 _  _ e_5) rfl ?_
    refine x_iconst (pc := 28) (w := 0) dX10_text_28 ic_0 ?_
    refine x_istore_n (pc := 29) 2 [(2, .int 0), (0, .ref (ad 0)), (1, .int p1)] dX10_text_29 rfl (by decide) rfl ?_
    refine x_lv [1, 2, 0] [(0, .ref (ad 0)), (1, .int p1), (2, .int 0)] rfl ?_
    exact tm_text_L30 d hd  2000 p1 0 _ _ _ h
  · have h := aw_pos h c_4
    refine x_aload_n (pc := 9) 0 dX10_text_9 rfl rfl ?_
    refine x_ldc (pc := 10) dX10_text_10 wk_X10_48 ?_
    refine x_callV (pc := 12) (As := [.int (-1000000001)]) (rest := []) (st' := [.int r]) (w := (some (.int r))) dX10_text_12 cw_X10_49 hd1 gm_0 rfl rfl rfl (Nat.le_of_ble_eq_true rfl) (tm_errs (d - 1) hh_0 (-1000000001) _ _ _ h) rfl ?_
    exact x_iret (pc := 15) dX10_text_15
