def fm_until_L35 : Nat → Int32 → Int32 → Int32 → aw_M → Option (Int32 × aw_M)
  | 0, _, _, _, _ => none
  | n + 1, p1, p2, p3, M =>
    if (200 : Int32) < p3 then (
      aw_bv (fm_moveAll 3 1 M) fun M_12 => (
      if p3 ≤ 200 then (
        some (p3, M_12)
      ) else (
        aw_bi (fm_errs (-1000000002) M_12) fun r_15 M_16 => (
        some (r_15, M_16)
        )
      )
      )
    ) else (
      aw_bi (fm_shows p1 M) fun r_18 M_19 => (
      if r_18 = p2 then (
        aw_bi (fm_yard p1 M_19) fun r_28 M_29 => (
        if (0 : Int32) ≤ r_28 then (
          fm_until_L35 n p1 p2 (p3 + 1) M_29
        ) else (
          fm_until_L35 n p1 p2 (p3 + 0) M_29
        )
        )
      ) else (
        aw_bv (fm_moveAll 3 1 M_19) fun M_22 => (
        if p3 ≤ 200 then (
          some (p3, M_22)
        ) else (
          aw_bi (fm_errs (-1000000002) M_22) fun r_25 M_26 => (
          some (r_25, M_26)
          )
        )
        )
      )
      )
    )
theorem fm_until_L35_s (n : Nat) (p1 : Int32) (p2 : Int32) (p3 : Int32) (M : aw_M) : fm_until_L35 (n + 1) p1 p2 p3 M = (
    if (200 : Int32) < p3 then (
      aw_bv (fm_moveAll 3 1 M) fun M_12 => (
      if p3 ≤ 200 then (
        some (p3, M_12)
      ) else (
        aw_bi (fm_errs (-1000000002) M_12) fun r_15 M_16 => (
        some (r_15, M_16)
        )
      )
      )
    ) else (
      aw_bi (fm_shows p1 M) fun r_18 M_19 => (
      if r_18 = p2 then (
        aw_bi (fm_yard p1 M_19) fun r_28 M_29 => (
        if (0 : Int32) ≤ r_28 then (
          fm_until_L35 n p1 p2 (p3 + 1) M_29
        ) else (
          fm_until_L35 n p1 p2 (p3 + 0) M_29
        )
        )
      ) else (
        aw_bv (fm_moveAll 3 1 M_19) fun M_22 => (
        if p3 ≤ 200 then (
          some (p3, M_22)
        ) else (
          aw_bi (fm_errs (-1000000002) M_22) fun r_25 M_26 => (
          some (r_25, M_26)
          )
        )
        )
      )
      )
    )
    ) := rfl
set_option maxRecDepth 20000 in
theorem tm_until_L35 {l : Launch} {D : va_G} {cy : Nat → ClassId} {ad : Nat → Nat} {A : Nat → Prop} (d : Nat) (hd : 108 ≤ d) : ∀ (n : Nat) (p1 : Int32) (p2 : Int32) (p3 : Int32) (M : aw_M) (r : Int32) (M1 : aw_M), fm_until_L35 n p1 p2 p3 M = some (r, M1) → AW l D cy ad A gm_G RX10 cX10_until 4 (some .int) d (some (.int r)) M1 35 [(0, .ref (ad 0)), (1, .int p1), (2, .int p2), (3, .int p3)] [] M := by
  have hd1 : (d - 1) + 1 ≤ d := by omega
  have hm1 : 1 ≤ d := by omega
  have hh_0 : 0 ≤ d - 1 := by omega
  have hh_1 : 1 ≤ d - 1 := by omega
  have hh_106 : 106 ≤ d - 1 := by omega
  have hh_107 : 107 ≤ d - 1 := by omega
  intro n
  induction n with
  | zero => intro p1 p2 p3 M r M1 h; cases h
  | succ n ih =>
    intro p1 p2 p3 M r M1 h
    rw [fm_until_L35_s] at h
    refine x_iload_n (pc := 35) 3 dX10_until_35 rfl rfl ?_
    refine x_sipush (pc := 36) (w := 200) dX10_until_36 si_200 ?_
    refine x_icmp_gt (pc := 39) 70 dX10_until_39 (by decide) (fun c_10 => ?_) (fun c_10 => ?_)
    · have h := aw_pos h c_10
      refine x_aload_n (pc := 70) 0 dX10_until_70 rfl rfl ?_
      refine x_aload_n (pc := 71) 0 dX10_until_71 rfl rfl ?_
      refine x_get (pc := 72) dX10_until_72 lk_X10_16 gm_0 rfl rfl ?_
      refine x_aload_n (pc := 75) 0 dX10_until_75 rfl rfl ?_
      refine x_get (pc := 76) dX10_until_76 lk_X10_7 gm_0 rfl rfl ?_
      obtain ⟨M_12, e_11, h⟩ := aw_bv_e h
      refine x_callV (pc := 79) (As := [.ref (ad 3), .ref (ad 1)]) (rest := []) (st' := []) (w := none) dX10_until_79 cw_X10_158 hd1 gm_0 rfl rfl rfl (Nat.le_of_ble_eq_true rfl) (tm_moveAll (d - 1) hh_0 3 gm_3 1 gm_1 _  _ e_11) rfl ?_
      refine x_iload_n (pc := 82) 3 dX10_until_82 rfl rfl ?_
      refine x_sipush (pc := 83) (w := 200) dX10_until_83 si_200 ?_
      refine x_icmp_le (pc := 86) 98 dX10_until_86 (by decide) (fun c_13 => ?_) (fun c_13 => ?_)
      · have h := aw_pos h c_13
        refine x_iload_n (pc := 98) 3 dX10_until_98 rfl rfl ?_
        obtain ⟨rfl, rfl⟩ := aw_so h
        exact x_iret (pc := 99) dX10_until_99
      · have h := aw_neg h c_13
        refine x_aload_n (pc := 89) 0 dX10_until_89 rfl rfl ?_
        refine x_ldc (pc := 90) dX10_until_90 wk_X10_187 ?_
        obtain ⟨r_15, M_16, e_14, h⟩ := aw_bi_e h
        refine x_callV (pc := 92) (As := [.int (-1000000002)]) (rest := []) (st' := [.int r_15]) (w := (some (.int r_15))) dX10_until_92 cw_X10_49 hd1 gm_0 rfl rfl rfl (Nat.le_of_ble_eq_true rfl) (tm_errs (d - 1) hh_0 (-1000000002) _ _ _ e_14) rfl ?_
        refine x_goto (pc := 95) 99 dX10_until_95 (by decide) ?_
        obtain ⟨rfl, rfl⟩ := aw_so h
        exact x_iret (pc := 99) dX10_until_99
    · have h := aw_neg h c_10
      refine x_aload_n (pc := 42) 0 dX10_until_42 rfl rfl ?_
      refine x_iload_n (pc := 43) 1 dX10_until_43 rfl rfl ?_
      obtain ⟨r_18, M_19, e_17, h⟩ := aw_bi_e h
      refine x_callV (pc := 44) (As := [.int p1]) (rest := []) (st' := [.int r_18]) (w := (some (.int r_18))) dX10_until_44 cw_X10_75 hd1 gm_0 rfl rfl rfl (Nat.le_of_ble_eq_true rfl) (tm_shows (d - 1) hh_106 p1 _ _ _ e_17) rfl ?_
      refine x_iload_n (pc := 47) 2 dX10_until_47 rfl rfl ?_
      refine x_icmp_ne (pc := 48) 70 dX10_until_48 (by decide) (fun c_20 => ?_) (fun c_20 => ?_)
      · have h := aw_neg h c_20
        refine x_aload_n (pc := 70) 0 dX10_until_70 rfl rfl ?_
        refine x_aload_n (pc := 71) 0 dX10_until_71 rfl rfl ?_
        refine x_get (pc := 72) dX10_until_72 lk_X10_16 gm_0 rfl rfl ?_
        refine x_aload_n (pc := 75) 0 dX10_until_75 rfl rfl ?_
        refine x_get (pc := 76) dX10_until_76 lk_X10_7 gm_0 rfl rfl ?_
        obtain ⟨M_22, e_21, h⟩ := aw_bv_e h
        refine x_callV (pc := 79) (As := [.ref (ad 3), .ref (ad 1)]) (rest := []) (st' := []) (w := none) dX10_until_79 cw_X10_158 hd1 gm_0 rfl rfl rfl (Nat.le_of_ble_eq_true rfl) (tm_moveAll (d - 1) hh_0 3 gm_3 1 gm_1 _  _ e_21) rfl ?_
        refine x_iload_n (pc := 82) 3 dX10_until_82 rfl rfl ?_
        refine x_sipush (pc := 83) (w := 200) dX10_until_83 si_200 ?_
        refine x_icmp_le (pc := 86) 98 dX10_until_86 (by decide) (fun c_23 => ?_) (fun c_23 => ?_)
        · have h := aw_pos h c_23
          refine x_iload_n (pc := 98) 3 dX10_until_98 rfl rfl ?_
          obtain ⟨rfl, rfl⟩ := aw_so h
          exact x_iret (pc := 99) dX10_until_99
        · have h := aw_neg h c_23
          refine x_aload_n (pc := 89) 0 dX10_until_89 rfl rfl ?_
          refine x_ldc (pc := 90) dX10_until_90 wk_X10_187 ?_
          obtain ⟨r_25, M_26, e_24, h⟩ := aw_bi_e h
          refine x_callV (pc := 92) (As := [.int (-1000000002)]) (rest := []) (st' := [.int r_25]) (w := (some (.int r_25))) dX10_until_92 cw_X10_49 hd1 gm_0 rfl rfl rfl (Nat.le_of_ble_eq_true rfl) (tm_errs (d - 1) hh_0 (-1000000002) _ _ _ e_24) rfl ?_
          refine x_goto (pc := 95) 99 dX10_until_95 (by decide) ?_
          obtain ⟨rfl, rfl⟩ := aw_so h
          exact x_iret (pc := 99) dX10_until_99
      · have h := aw_pos h c_20
        refine x_iload_n (pc := 51) 3 dX10_until_51 rfl rfl ?_
        refine x_aload_n (pc := 52) 0 dX10_until_52 rfl rfl ?_
        refine x_iload_n (pc := 53) 1 dX10_until_53 rfl rfl ?_
        obtain ⟨r_28, M_29, e_27, h⟩ := aw_bi_e h
        refine x_callV (pc := 54) (As := [.int p1]) (rest := [.int p3]) (st' := [.int r_28, .int p3]) (w := (some (.int r_28))) dX10_until_54 cw_X10_165 hd1 gm_0 rfl rfl rfl (Nat.le_of_ble_eq_true rfl) (tm_yard (d - 1) hh_107 p1 _ _ _ e_27) rfl ?_
        refine x_if_ge (pc := 57) 64 dX10_until_57 (by decide) (fun c_30 => ?_) (fun c_30 => ?_)
        · have h := aw_pos h c_30
          refine x_iconst (pc := 64) (w := 1) dX10_until_64 ic_1 ?_
          refine x_iadd (pc := 65) dX10_until_65 ?_
          refine x_istore_n (pc := 66) 3 [(3, .int (p3 + 1)), (0, .ref (ad 0)), (1, .int p1), (2, .int p2)] dX10_until_66 rfl (by decide) rfl ?_
          refine x_goto (pc := 67) 35 dX10_until_67 (by decide) ?_
          refine x_lv [1, 2, 3, 0] [(0, .ref (ad 0)), (1, .int p1), (2, .int p2), (3, .int (p3 + 1))] rfl ?_
          exact ih p1 p2 (p3 + 1) _ _ _ h
        · have h := aw_neg h c_30
          refine x_iconst (pc := 60) (w := 0) dX10_until_60 ic_0 ?_
          refine x_goto (pc := 61) 65 dX10_until_61 (by decide) ?_
          refine x_iadd (pc := 65) dX10_until_65 ?_
          refine x_istore_n (pc := 66) 3 [(3, .int (p3 + 0)), (0, .ref (ad 0)), (1, .int p1), (2, .int p2)] dX10_until_66 rfl (by decide) rfl ?_
          refine x_goto (pc := 67) 35 dX10_until_67 (by decide) ?_
          refine x_lv [1, 2, 3, 0] [(0, .ref (ad 0)), (1, .int p1), (2, .int p2), (3, .int (p3 + 0))] rfl ?_
          exact ih p1 p2 (p3 + 0) _ _ _ h
def fm_until (p1 : Int32) (M : aw_M) : Option (Int32 × aw_M) :=
  aw_bi (fm_isCloth p1 M) fun r_2 M_3 => (
  if r_2 = 0 then (
    fm_errs (-1000000001) M_3
  ) else (
    aw_bi (fm_shows p1 M_3) fun r_6 M_7 => (
    aw_bv (fm_moveAll 1 3 M_7) fun M_9 => (
    fm_until_L35  2000 p1 r_6 0 M_9
    )
    )
  )
  )
set_option maxRecDepth 20000 in
theorem tm_until {l : Launch} {D : va_G} {cy : Nat → ClassId} {ad : Nat → Nat} {A : Nat → Prop} (d : Nat) (hd : 108 ≤ d) (p1 : Int32) (M : aw_M) (r : Int32) (M1 : aw_M) (h : fm_until p1 M = some (r, M1)) : AX l D cy ad A gm_G yX10_until cX10_until 4 (some .int) d [.ref (ad 0), .int p1] M (some (.int r)) M1 := by
  have hd1 : (d - 1) + 1 ≤ d := by omega
  have hm1 : 1 ≤ d := by omega
  have hh_0 : 0 ≤ d - 1 := by omega
  have hh_1 : 1 ≤ d - 1 := by omega
  have hh_106 : 106 ≤ d - 1 := by omega
  have hh_107 : 107 ≤ d - 1 := by omega
  refine AX.of (own := RX10) (by decide +kernel) rfl (Nat.le_of_ble_eq_true rfl) ?_
  unfold fm_until at h
  show AW l D cy ad A gm_G RX10 cX10_until 4 (some .int) d (some (.int r)) M1 0 [(0, .ref (ad 0)), (1, .int p1)] [] M
  refine x_aload_n (pc := 0) 0 dX10_until_0 rfl rfl ?_
  refine x_iload_n (pc := 1) 1 dX10_until_1 rfl rfl ?_
  obtain ⟨r_2, M_3, e_1, h⟩ := aw_bi_e h
  refine x_callV (pc := 2) (As := [.int p1]) (rest := []) (st' := [.int r_2]) (w := (some (.int r_2))) dX10_until_2 cw_X10_62 hd1 gm_0 rfl rfl rfl (Nat.le_of_ble_eq_true rfl) (tm_isCloth (d - 1) hh_1 p1 _ _ _ e_1) rfl ?_
  refine x_if_ne (pc := 5) 15 dX10_until_5 (by decide) (fun c_4 => ?_) (fun c_4 => ?_)
  · have h := aw_neg h c_4
    refine x_aload_n (pc := 15) 0 dX10_until_15 rfl rfl ?_
    refine x_iload_n (pc := 16) 1 dX10_until_16 rfl rfl ?_
    obtain ⟨r_6, M_7, e_5, h⟩ := aw_bi_e h
    refine x_callV (pc := 17) (As := [.int p1]) (rest := []) (st' := [.int r_6]) (w := (some (.int r_6))) dX10_until_17 cw_X10_75 hd1 gm_0 rfl rfl rfl (Nat.le_of_ble_eq_true rfl) (tm_shows (d - 1) hh_106 p1 _ _ _ e_5) rfl ?_
    refine x_istore_n (pc := 20) 2 [(2, .int r_6), (0, .ref (ad 0)), (1, .int p1)] dX10_until_20 rfl (by decide) rfl ?_
    refine x_aload_n (pc := 21) 0 dX10_until_21 rfl rfl ?_
    refine x_aload_n (pc := 22) 0 dX10_until_22 rfl rfl ?_
    refine x_get (pc := 23) dX10_until_23 lk_X10_7 gm_0 rfl rfl ?_
    refine x_aload_n (pc := 26) 0 dX10_until_26 rfl rfl ?_
    refine x_get (pc := 27) dX10_until_27 lk_X10_16 gm_0 rfl rfl ?_
    obtain ⟨M_9, e_8, h⟩ := aw_bv_e h
    refine x_callV (pc := 30) (As := [.ref (ad 1), .ref (ad 3)]) (rest := []) (st' := []) (w := none) dX10_until_30 cw_X10_158 hd1 gm_0 rfl rfl rfl (Nat.le_of_ble_eq_true rfl) (tm_moveAll (d - 1) hh_0 1 gm_1 3 gm_3 _  _ e_8) rfl ?_
    refine x_iconst (pc := 33) (w := 0) dX10_until_33 ic_0 ?_
    refine x_istore_n (pc := 34) 3 [(3, .int 0), (2, .int r_6), (0, .ref (ad 0)), (1, .int p1)] dX10_until_34 rfl (by decide) rfl ?_
    refine x_lv [2, 3, 1, 0] [(0, .ref (ad 0)), (1, .int p1), (2, .int r_6), (3, .int 0)] rfl ?_
    exact tm_until_L35 d hd  2000 p1 r_6 0 _ _ _ h
  · have h := aw_pos h c_4
    refine x_aload_n (pc := 8) 0 dX10_until_8 rfl rfl ?_
    refine x_ldc (pc := 9) dX10_until_9 wk_X10_48 ?_
    refine x_callV (pc := 11) (As := [.int (-1000000001)]) (rest := []) (st' := [.int r]) (w := (some (.int r))) dX10_until_11 cw_X10_49 hd1 gm_0 rfl rfl rfl (Nat.le_of_ble_eq_true rfl) (tm_errs (d - 1) hh_0 (-1000000001) _ _ _ h) rfl ?_
    exact x_iret (pc := 14) dX10_until_14
def fm_apart (p0 : Int32) (p1 : Int32) (M : aw_M) : Option (Int32 × aw_M) :=
  if p1 ≤ p0 then (
    some ((p0 - p1), M)
  ) else (
    some ((p1 - p0), M)
  )
set_option maxRecDepth 20000 in
theorem tm_apart {l : Launch} {D : va_G} {cy : Nat → ClassId} {ad : Nat → Nat} {A : Nat → Prop} (d : Nat) (hd : 0 ≤ d) (p0 : Int32) (p1 : Int32) (M : aw_M) (r : Int32) (M1 : aw_M) (h : fm_apart p0 p1 M = some (r, M1)) : AX l D cy ad A gm_G yX10_apart cX10_apart 2 (some .int) d [.int p0, .int p1] M (some (.int r)) M1 := by
  refine AX.of (own := RX10) (by decide +kernel) rfl (Nat.le_of_ble_eq_true rfl) ?_
  unfold fm_apart at h
  show AW l D cy ad A gm_G RX10 cX10_apart 2 (some .int) d (some (.int r)) M1 0 [(0, .int p0), (1, .int p1)] [] M
  refine x_iload_n (pc := 0) 0 dX10_apart_0 rfl rfl ?_
  refine x_iload_n (pc := 1) 1 dX10_apart_1 rfl rfl ?_
  refine x_icmp_ge (pc := 2) 11 dX10_apart_2 (by decide) (fun c_1 => ?_) (fun c_1 => ?_)
  · have h := aw_pos h c_1
    refine x_iload_n (pc := 11) 0 dX10_apart_11 rfl rfl ?_
    refine x_iload_n (pc := 12) 1 dX10_apart_12 rfl rfl ?_
    refine x_isub (pc := 13) dX10_apart_13 ?_
    obtain ⟨rfl, rfl⟩ := aw_so h
    exact x_iret (pc := 14) dX10_apart_14
  · have h := aw_neg h c_1
    refine x_iload_n (pc := 5) 1 dX10_apart_5 rfl rfl ?_
    refine x_iload_n (pc := 6) 0 dX10_apart_6 rfl rfl ?_
    refine x_isub (pc := 7) dX10_apart_7 ?_
    refine x_goto (pc := 8) 14 dX10_apart_8 (by decide) ?_
    obtain ⟨rfl, rfl⟩ := aw_so h
    exact x_iret (pc := 14) dX10_apart_14
def fm_cure_J181 (K44 : Int32 → Int32 → Int32 → Int32 → Int32 → aw_M → Option (Int32 × aw_M)) (p1 : Int32) (p2 : Int32) (p3 : Int32) (p4 : Int32) (p5 : Int32) (p6 : Int32) (p7 : Int32) (p100 : Int32) (M : aw_M) : Option (Int32 × aw_M) :=
    aw_bv (fm_moveAll 3 1 M) fun M_32 => (
    if p100 = 0 then (
      K44 p1 p2 p3 p4 (p5 + 1) M_32
    ) else (
      if p3 < 0 then (
        K44 p1 p2 ((1000 * p6) + (aw_rem p5 100)) p7 (p5 + 1) M_32
      ) else (
        if p4 ≤ p7 then (
          K44 p1 p2 p3 p4 (p5 + 1) M_32
        ) else (
          K44 p1 p2 ((1000 * p6) + (aw_rem p5 100)) p7 (p5 + 1) M_32
        )
      )
    )
    )
set_option maxRecDepth 20000 in
theorem tm_cure_J181 {l : Launch} {D : va_G} {cy : Nat → ClassId} {ad : Nat → Nat} {A : Nat → Prop} (d : Nat) (hd : 107 ≤ d) (K44 : Int32 → Int32 → Int32 → Int32 → Int32 → aw_M → Option (Int32 × aw_M)) (hK44 : ∀ (p1 : Int32) (p2 : Int32) (p3 : Int32) (p4 : Int32) (p5 : Int32) (M : aw_M) (r : Int32) (M1 : aw_M), K44  p1 p2 p3 p4 p5 M = some (r, M1) → AW l D cy ad A gm_G RX10 cX10_cure 9 (some .int) d (some (.int r)) M1 44 [(0, .ref (ad 0)), (1, .int p1), (2, .int p2), (3, .int p3), (4, .int p4), (5, .int p5)] [] M) (p1 : Int32) (p2 : Int32) (p3 : Int32) (p4 : Int32) (p5 : Int32) (p6 : Int32) (p7 : Int32) (p100 : Int32) (M : aw_M) (r : Int32) (M1 : aw_M) (h : fm_cure_J181 K44 p1 p2 p3 p4 p5 p6 p7 p100 M = some (r, M1)) : AW l D cy ad A gm_G RX10 cX10_cure 9 (some .int) d (some (.int r)) M1 181 [(0, .ref (ad 0)), (1, .int p1), (2, .int p2), (3, .int p3), (4, .int p4), (5, .int p5), (6, .int p6), (7, .int p7)] [.int p100] M := by
  have hd1 : (d - 1) + 1 ≤ d := by omega
  have hm1 : 1 ≤ d := by omega
  have hh_0 : 0 ≤ d - 1 := by omega
  have hh_1 : 1 ≤ d - 1 := by omega
  have hh_106 : 106 ≤ d - 1 := by omega
  unfold fm_cure_J181 at h
  refine x_istore (pc := 181) 8 [(8, .int p100), (0, .ref (ad 0)), (1, .int p1), (2, .int p2), (3, .int p3), (4, .int p4), (5, .int p5), (6, .int p6), (7, .int p7)] dX10_cure_181 (by decide) rfl ?_
  refine x_aload_n (pc := 183) 0 dX10_cure_183 rfl rfl ?_
  refine x_aload_n (pc := 184) 0 dX10_cure_184 rfl rfl ?_
  refine x_get (pc := 185) dX10_cure_185 lk_X10_16 gm_0 rfl rfl ?_
  refine x_aload_n (pc := 188) 0 dX10_cure_188 rfl rfl ?_
  refine x_get (pc := 189) dX10_cure_189 lk_X10_7 gm_0 rfl rfl ?_
  obtain ⟨M_32, e_31, h⟩ := aw_bv_e h
  refine x_callV (pc := 192) (As := [.ref (ad 3), .ref (ad 1)]) (rest := []) (st' := []) (w := none) dX10_cure_192 cw_X10_158 hd1 gm_0 rfl rfl rfl (Nat.le_of_ble_eq_true rfl) (tm_moveAll (d - 1) hh_0 3 gm_3 1 gm_1 _  _ e_31) rfl ?_
  refine x_iload (pc := 195) dX10_cure_195 rfl ?_
  refine x_if_eq (pc := 197) 228 dX10_cure_197 (by decide) (fun c_33 => ?_) (fun c_33 => ?_)
  · have h := aw_pos h c_33
    refine x_iinc (pc := 228) (p5 + 1) [(5, .int (p5 + 1)), (8, .int p100), (0, .ref (ad 0)), (1, .int p1), (2, .int p2), (3, .int p3), (4, .int p4), (6, .int p6), (7, .int p7)] dX10_cure_228 rfl (congrArg (fun z => p5 + z) ic_1) (by decide) rfl ?_
    refine x_goto (pc := 231) 44 dX10_cure_231 (by decide) ?_
    refine x_lv [2, 3, 4, 5, 6, 0] [(0, .ref (ad 0)), (1, .int p1), (2, .int p2), (3, .int p3), (4, .int p4), (5, .int (p5 + 1))] rfl ?_
    exact hK44 p1 p2 p3 p4 (p5 + 1) _ _ _ h
  · have h := aw_neg h c_33
    refine x_iload_n (pc := 200) 3 dX10_cure_200 rfl rfl ?_
    refine x_if_lt (pc := 201) 211 dX10_cure_201 (by decide) (fun c_34 => ?_) (fun c_34 => ?_)
    · have h := aw_pos h c_34
      refine x_sipush (pc := 211) (w := 1000) dX10_cure_211 si_1000 ?_
      refine x_iload (pc := 214) dX10_cure_214 rfl ?_
      refine x_imul (pc := 216) dX10_cure_216 ?_
      refine x_iload (pc := 217) dX10_cure_217 rfl ?_
      refine x_bipush (pc := 219) (w := 100) dX10_cure_219 bi_100 ?_
      refine x_irem (pc := 221) dX10_cure_221 (by decide) ?_
      refine x_iadd (pc := 222) dX10_cure_222 ?_
      refine x_istore_n (pc := 223) 3 [(3, .int ((1000 * p6) + (aw_rem p5 100))), (8, .int p100), (0, .ref (ad 0)), (1, .int p1), (2, .int p2), (4, .int p4), (5, .int p5), (6, .int p6), (7, .int p7)] dX10_cure_223 rfl (by decide) rfl ?_
      refine x_iload (pc := 224) dX10_cure_224 rfl ?_
      refine x_istore (pc := 226) 4 [(4, .int p7), (3, .int ((1000 * p6) + (aw_rem p5 100))), (8, .int p100), (0, .ref (ad 0)), (1, .int p1), (2, .int p2), (5, .int p5), (6, .int p6), (7, .int p7)] dX10_cure_226 (by decide) rfl ?_
      refine x_iinc (pc := 228) (p5 + 1) [(5, .int (p5 + 1)), (4, .int p7), (3, .int ((1000 * p6) + (aw_rem p5 100))), (8, .int p100), (0, .ref (ad 0)), (1, .int p1), (2, .int p2), (6, .int p6), (7, .int p7)] dX10_cure_228 rfl (congrArg (fun z => p5 + z) ic_1) (by decide) rfl ?_
      refine x_goto (pc := 231) 44 dX10_cure_231 (by decide) ?_
      refine x_lv [4, 5, 6, 2, 1, 0] [(0, .ref (ad 0)), (1, .int p1), (2, .int p2), (3, .int ((1000 * p6) + (aw_rem p5 100))), (4, .int p7), (5, .int (p5 + 1))] rfl ?_
      exact hK44 p1 p2 ((1000 * p6) + (aw_rem p5 100)) p7 (p5 + 1) _ _ _ h
    · have h := aw_neg h c_34
      refine x_iload (pc := 204) dX10_cure_204 rfl ?_
      refine x_iload (pc := 206) dX10_cure_206 rfl ?_
      refine x_icmp_ge (pc := 208) 228 dX10_cure_208 (by decide) (fun c_35 => ?_) (fun c_35 => ?_)
      · have h := aw_pos h c_35
        refine x_iinc (pc := 228) (p5 + 1) [(5, .int (p5 + 1)), (8, .int p100), (0, .ref (ad 0)), (1, .int p1), (2, .int p2), (3, .int p3), (4, .int p4), (6, .int p6), (7, .int p7)] dX10_cure_228 rfl (congrArg (fun z => p5 + z) ic_1) (by decide) rfl ?_
        refine x_goto (pc := 231) 44 dX10_cure_231 (by decide) ?_
        refine x_lv [2, 3, 4, 5, 6, 0] [(0, .ref (ad 0)), (1, .int p1), (2, .int p2), (3, .int p3), (4, .int p4), (5, .int (p5 + 1))] rfl ?_
        exact hK44 p1 p2 p3 p4 (p5 + 1) _ _ _ h
      · have h := aw_neg h c_35
        refine x_sipush (pc := 211) (w := 1000) dX10_cure_211 si_1000 ?_
        refine x_iload (pc := 214) dX10_cure_214 rfl ?_
        refine x_imul (pc := 216) dX10_cure_216 ?_
        refine x_iload (pc := 217) dX10_cure_217 rfl ?_
        refine x_bipush (pc := 219) (w := 100) dX10_cure_219 bi_100 ?_
        refine x_irem (pc := 221) dX10_cure_221 (by decide) ?_
        refine x_iadd (pc := 222) dX10_cure_222 ?_
        refine x_istore_n (pc := 223) 3 [(3, .int ((1000 * p6) + (aw_rem p5 100))), (8, .int p100), (0, .ref (ad 0)), (1, .int p1), (2, .int p2), (4, .int p4), (5, .int p5), (6, .int p6), (7, .int p7)] dX10_cure_223 rfl (by decide) rfl ?_
        refine x_iload (pc := 224) dX10_cure_224 rfl ?_
        refine x_istore (pc := 226) 4 [(4, .int p7), (3, .int ((1000 * p6) + (aw_rem p5 100))), (8, .int p100), (0, .ref (ad 0)), (1, .int p1), (2, .int p2), (5, .int p5), (6, .int p6), (7, .int p7)] dX10_cure_226 (by decide) rfl ?_
        refine x_iinc (pc := 228) (p5 + 1) [(5, .int (p5 + 1)), (4, .int p7), (3, .int ((1000 * p6) + (aw_rem p5 100))), (8, .int p100), (0, .ref (ad 0)), (1, .int p1), (2, .int p2), (6, .int p6), (7, .int p7)] dX10_cure_228 rfl (congrArg (fun z => p5 + z) ic_1) (by decide) rfl ?_
        refine x_goto (pc := 231) 44 dX10_cure_231 (by decide) ?_
        refine x_lv [4, 5, 6, 2, 1, 0] [(0, .ref (ad 0)), (1, .int p1), (2, .int p2), (3, .int ((1000 * p6) + (aw_rem p5 100))), (4, .int p7), (5, .int (p5 + 1))] rfl ?_
        exact hK44 p1 p2 ((1000 * p6) + (aw_rem p5 100)) p7 (p5 + 1) _ _ _ h
def fm_cure_L102 (K44 : Int32 → Int32 → Int32 → Int32 → Int32 → aw_M → Option (Int32 × aw_M)) : Nat → Int32 → Int32 → Int32 → Int32 → Int32 → Int32 → Int32 → Int32 → aw_M → Option (Int32 × aw_M)
  | 0, _, _, _, _, _, _, _, _, _ => none
  | n + 1, p1, p2, p3, p4, p5, p6, p7, p8, M =>
    if (3 : Int32) ≤ p8 then (
      aw_bi (fm_shows p1 (aw_u (aw_u M 1 8 (aw_rem (p5 / 10) 10)) 1 9 (aw_rem p5 10))) fun r_22 M_23 => (
      if r_22 = 0 then (
        fm_cure_J181 K44 p1 p2 p3 p4 p5 p6 p7 1 M_23
      ) else (
        fm_cure_J181 K44 p1 p2 p3 p4 p5 p6 p7 0 M_23
      )
      )
    ) else (
      if ((p6 >>> (p8 &&& 31)) &&& 1) = 1 then (
        aw_bv (fm_does p8 M) fun M_27 => (
        aw_bi (fm_lasts p8 M_27) fun r_29 M_30 => (
        fm_cure_L102 K44 n p1 p2 p3 p4 p5 p6 (p7 + r_29) (p8 + 1) M_30
        )
        )
      ) else (
        fm_cure_L102 K44 n p1 p2 p3 p4 p5 p6 p7 (p8 + 1) M
      )
    )
theorem fm_cure_L102_s (K44 : Int32 → Int32 → Int32 → Int32 → Int32 → aw_M → Option (Int32 × aw_M)) (n : Nat) (p1 : Int32) (p2 : Int32) (p3 : Int32) (p4 : Int32) (p5 : Int32) (p6 : Int32) (p7 : Int32) (p8 : Int32) (M : aw_M) : fm_cure_L102 K44 (n + 1) p1 p2 p3 p4 p5 p6 p7 p8 M = (
    if (3 : Int32) ≤ p8 then (
      aw_bi (fm_shows p1 (aw_u (aw_u M 1 8 (aw_rem (p5 / 10) 10)) 1 9 (aw_rem p5 10))) fun r_22 M_23 => (
      if r_22 = 0 then (
        fm_cure_J181 K44 p1 p2 p3 p4 p5 p6 p7 1 M_23
      ) else (
        fm_cure_J181 K44 p1 p2 p3 p4 p5 p6 p7 0 M_23
      )
      )
    ) else (
      if ((p6 >>> (p8 &&& 31)) &&& 1) = 1 then (
        aw_bv (fm_does p8 M) fun M_27 => (
        aw_bi (fm_lasts p8 M_27) fun r_29 M_30 => (
        fm_cure_L102 K44 n p1 p2 p3 p4 p5 p6 (p7 + r_29) (p8 + 1) M_30
        )
        )
      ) else (
        fm_cure_L102 K44 n p1 p2 p3 p4 p5 p6 p7 (p8 + 1) M
      )
    )
    ) := rfl
set_option maxRecDepth 20000 in
theorem tm_cure_L102 {l : Launch} {D : va_G} {cy : Nat → ClassId} {ad : Nat → Nat} {A : Nat → Prop} (d : Nat) (hd : 107 ≤ d) (K44 : Int32 → Int32 → Int32 → Int32 → Int32 → aw_M → Option (Int32 × aw_M)) (hK44 : ∀ (p1 : Int32) (p2 : Int32) (p3 : Int32) (p4 : Int32) (p5 : Int32) (M : aw_M) (r : Int32) (M1 : aw_M), K44  p1 p2 p3 p4 p5 M = some (r, M1) → AW l D cy ad A gm_G RX10 cX10_cure 9 (some .int) d (some (.int r)) M1 44 [(0, .ref (ad 0)), (1, .int p1), (2, .int p2), (3, .int p3), (4, .int p4), (5, .int p5)] [] M) : ∀ (n : Nat) (p1 : Int32) (p2 : Int32) (p3 : Int32) (p4 : Int32) (p5 : Int32) (p6 : Int32) (p7 : Int32) (p8 : Int32) (M : aw_M) (r : Int32) (M1 : aw_M), fm_cure_L102 K44 n p1 p2 p3 p4 p5 p6 p7 p8 M = some (r, M1) → AW l D cy ad A gm_G RX10 cX10_cure 9 (some .int) d (some (.int r)) M1 102 [(0, .ref (ad 0)), (1, .int p1), (2, .int p2), (3, .int p3), (4, .int p4), (5, .int p5), (6, .int p6), (7, .int p7), (8, .int p8)] [] M := by
  have hd1 : (d - 1) + 1 ≤ d := by omega
  have hm1 : 1 ≤ d := by omega
  have hh_0 : 0 ≤ d - 1 := by omega
  have hh_1 : 1 ≤ d - 1 := by omega
  have hh_106 : 106 ≤ d - 1 := by omega
  intro n
  induction n with
  | zero => intro p1 p2 p3 p4 p5 p6 p7 p8 M r M1 h; cases h
  | succ n ih =>
    intro p1 p2 p3 p4 p5 p6 p7 p8 M r M1 h
    rw [fm_cure_L102_s] at h
    refine x_iload (pc := 102) dX10_cure_102 rfl ?_
    refine x_iconst (pc := 104) (w := 3) dX10_cure_104 ic_3 ?_
    refine x_icmp_ge (pc := 105) 141 dX10_cure_105 (by decide) (fun c_20 => ?_) (fun c_20 => ?_)
    · have h := aw_pos h c_20
      refine x_aload_n (pc := 141) 0 dX10_cure_141 rfl rfl ?_
      refine x_get (pc := 142) dX10_cure_142 lk_X10_7 gm_0 rfl rfl ?_
      refine x_bipush (pc := 145) (w := 8) dX10_cure_145 bi_8 ?_
      refine x_iload (pc := 147) dX10_cure_147 rfl ?_
      refine x_bipush (pc := 149) (w := 10) dX10_cure_149 bi_10 ?_
      refine x_idiv (pc := 151) dX10_cure_151 (by decide) ?_
      refine x_bipush (pc := 152) (w := 10) dX10_cure_152 bi_10 ?_
      refine x_irem (pc := 154) dX10_cure_154 (by decide) ?_
      refine x_iastJ (pc := 155) 8 dX10_cure_155 gm_1 (by decide) tn_8 ?_
      refine x_aload_n (pc := 156) 0 dX10_cure_156 rfl rfl ?_
      refine x_get (pc := 157) dX10_cure_157 lk_X10_7 gm_0 rfl rfl ?_
      refine x_bipush (pc := 160) (w := 9) dX10_cure_160 bi_9 ?_
      refine x_iload (pc := 162) dX10_cure_162 rfl ?_
      refine x_bipush (pc := 164) (w := 10) dX10_cure_164 bi_10 ?_
      refine x_irem (pc := 166) dX10_cure_166 (by decide) ?_
      refine x_iastJ (pc := 167) 9 dX10_cure_167 gm_1 (by decide) tn_9 ?_
      refine x_aload_n (pc := 168) 0 dX10_cure_168 rfl rfl ?_
      refine x_iload_n (pc := 169) 1 dX10_cure_169 rfl rfl ?_
      obtain ⟨r_22, M_23, e_21, h⟩ := aw_bi_e h
      refine x_callV (pc := 170) (As := [.int p1]) (rest := []) (st' := [.int r_22]) (w := (some (.int r_22))) dX10_cure_170 cw_X10_75 hd1 gm_0 rfl rfl rfl (Nat.le_of_ble_eq_true rfl) (tm_shows (d - 1) hh_106 p1 _ _ _ e_21) rfl ?_
      refine x_if_ne (pc := 173) 180 dX10_cure_173 (by decide) (fun c_24 => ?_) (fun c_24 => ?_)
      · have h := aw_neg h c_24
        refine x_iconst (pc := 180) (w := 0) dX10_cure_180 ic_0 ?_
        refine x_lv [0, 1, 2, 3, 4, 5, 6, 7] [(0, .ref (ad 0)), (1, .int p1), (2, .int p2), (3, .int p3), (4, .int p4), (5, .int p5), (6, .int p6), (7, .int p7)] rfl ?_
        exact tm_cure_J181 d hd K44 hK44 p1 p2 p3 p4 p5 p6 p7 0 _ _ _ h
      · have h := aw_pos h c_24
        refine x_iconst (pc := 176) (w := 1) dX10_cure_176 ic_1 ?_
        refine x_goto (pc := 177) 181 dX10_cure_177 (by decide) ?_
        refine x_lv [0, 1, 2, 3, 4, 5, 6, 7] [(0, .ref (ad 0)), (1, .int p1), (2, .int p2), (3, .int p3), (4, .int p4), (5, .int p5), (6, .int p6), (7, .int p7)] rfl ?_
        exact tm_cure_J181 d hd K44 hK44 p1 p2 p3 p4 p5 p6 p7 1 _ _ _ h
    · have h := aw_neg h c_20
      refine x_iload (pc := 108) dX10_cure_108 rfl ?_
      refine x_iload (pc := 110) dX10_cure_110 rfl ?_
      refine x_ishr (pc := 112) dX10_cure_112 ?_
      refine x_iconst (pc := 113) (w := 1) dX10_cure_113 ic_1 ?_
      refine x_iand (pc := 114) dX10_cure_114 ?_
      refine x_iconst (pc := 115) (w := 1) dX10_cure_115 ic_1 ?_
      refine x_icmp_ne (pc := 116) 135 dX10_cure_116 (by decide) (fun c_25 => ?_) (fun c_25 => ?_)
      · have h := aw_neg h c_25
        refine x_iinc (pc := 135) (p8 + 1) [(8, .int (p8 + 1)), (0, .ref (ad 0)), (1, .int p1), (2, .int p2), (3, .int p3), (4, .int p4), (5, .int p5), (6, .int p6), (7, .int p7)] dX10_cure_135 rfl (congrArg (fun z => p8 + z) ic_1) (by decide) rfl ?_
        refine x_goto (pc := 138) 102 dX10_cure_138 (by decide) ?_
        refine x_lv [1, 2, 3, 4, 5, 6, 7, 8, 0] [(0, .ref (ad 0)), (1, .int p1), (2, .int p2), (3, .int p3), (4, .int p4), (5, .int p5), (6, .int p6), (7, .int p7), (8, .int (p8 + 1))] rfl ?_
        exact ih p1 p2 p3 p4 p5 p6 p7 (p8 + 1) _ _ _ h
      · have h := aw_pos h c_25
        refine x_aload_n (pc := 119) 0 dX10_cure_119 rfl rfl ?_
        refine x_iload (pc := 120) dX10_cure_120 rfl ?_
        obtain ⟨M_27, e_26, h⟩ := aw_bv_e h
        refine x_callV (pc := 122) (As := [.int p8]) (rest := []) (st' := []) (w := none) dX10_cure_122 cw_X10_179 hd1 gm_0 rfl rfl rfl (Nat.le_of_ble_eq_true rfl) (tm_does (d - 1) hh_1 p8 _  _ e_26) rfl ?_
        refine x_iload (pc := 125) dX10_cure_125 rfl ?_
        refine x_iload (pc := 127) dX10_cure_127 rfl ?_
        obtain ⟨r_29, M_30, e_28, h⟩ := aw_bi_e h
        refine x_callS (pc := 129) (As := [.int p8]) (rest := [.int p7]) (st' := [.int r_29, .int p7]) (w := (some (.int r_29))) dX10_cure_129 cw_X10_173 hd1 rfl rfl (Nat.le_of_ble_eq_true rfl) (tm_lasts (d - 1) hh_0 p8 _ _ _ e_28) rfl ?_
        refine x_iadd (pc := 132) dX10_cure_132 ?_
        refine x_istore (pc := 133) 7 [(7, .int (p7 + r_29)), (0, .ref (ad 0)), (1, .int p1), (2, .int p2), (3, .int p3), (4, .int p4), (5, .int p5), (6, .int p6), (8, .int p8)] dX10_cure_133 (by decide) rfl ?_
        refine x_iinc (pc := 135) (p8 + 1) [(8, .int (p8 + 1)), (7, .int (p7 + r_29)), (0, .ref (ad 0)), (1, .int p1), (2, .int p2), (3, .int p3), (4, .int p4), (5, .int p5), (6, .int p6)] dX10_cure_135 rfl (congrArg (fun z => p8 + z) ic_1) (by decide) rfl ?_
        refine x_goto (pc := 138) 102 dX10_cure_138 (by decide) ?_
        refine x_lv [2, 3, 4, 5, 6, 7, 8, 1, 0] [(0, .ref (ad 0)), (1, .int p1), (2, .int p2), (3, .int p3), (4, .int p4), (5, .int p5), (6, .int p6), (7, .int (p7 + r_29)), (8, .int (p8 + 1))] rfl ?_
        exact ih p1 p2 p3 p4 p5 p6 (p7 + r_29) (p8 + 1) _ _ _ h
def fm_cure_L44 : Nat → Int32 → Int32 → Int32 → Int32 → Int32 → aw_M → Option (Int32 × aw_M)
  | 0, _, _, _, _, _, _ => none
  | n + 1, p1, p2, p3, p4, p5, M =>
    if (800 : Int32) ≤ p5 then (
      if (0 : Int32) ≤ p3 then (
        if p2 = 0 then (
          some (p4, M)
        ) else (
          some (p3, M)
        )
      ) else (
        fm_errs (-1000000002) M
      )
    ) else (
      aw_bi (fm_apart (M 1 8) (aw_rem (p5 / 10) 10) M) fun r_15 M_16 => (
      aw_bi (fm_apart (M_16 1 9) (aw_rem p5 10) M_16) fun r_18 M_19 => (
      fm_cure_L102 (fm_cure_L44 n) 2000 p1 p2 p3 p4 p5 (p5 / 100) ((2 * r_15) + (5 * r_18)) 0 M_19
      )
      )
    )
theorem fm_cure_L44_s (n : Nat) (p1 : Int32) (p2 : Int32) (p3 : Int32) (p4 : Int32) (p5 : Int32) (M : aw_M) : fm_cure_L44 (n + 1) p1 p2 p3 p4 p5 M = (
    if (800 : Int32) ≤ p5 then (
      if (0 : Int32) ≤ p3 then (
        if p2 = 0 then (
          some (p4, M)
        ) else (
          some (p3, M)
        )
      ) else (
        fm_errs (-1000000002) M
      )
    ) else (
      aw_bi (fm_apart (M 1 8) (aw_rem (p5 / 10) 10) M) fun r_15 M_16 => (
      aw_bi (fm_apart (M_16 1 9) (aw_rem p5 10) M_16) fun r_18 M_19 => (
      fm_cure_L102 (fm_cure_L44 n) 2000 p1 p2 p3 p4 p5 (p5 / 100) ((2 * r_15) + (5 * r_18)) 0 M_19
      )
      )
    )
    ) := rfl
set_option maxRecDepth 20000 in
theorem tm_cure_L44 {l : Launch} {D : va_G} {cy : Nat → ClassId} {ad : Nat → Nat} {A : Nat → Prop} (d : Nat) (hd : 107 ≤ d) : ∀ (n : Nat) (p1 : Int32) (p2 : Int32) (p3 : Int32) (p4 : Int32) (p5 : Int32) (M : aw_M) (r : Int32) (M1 : aw_M), fm_cure_L44 n p1 p2 p3 p4 p5 M = some (r, M1) → AW l D cy ad A gm_G RX10 cX10_cure 9 (some .int) d (some (.int r)) M1 44 [(0, .ref (ad 0)), (1, .int p1), (2, .int p2), (3, .int p3), (4, .int p4), (5, .int p5)] [] M := by
  have hd1 : (d - 1) + 1 ≤ d := by omega
  have hm1 : 1 ≤ d := by omega
  have hh_0 : 0 ≤ d - 1 := by omega
  have hh_1 : 1 ≤ d - 1 := by omega
  have hh_106 : 106 ≤ d - 1 := by omega
  intro n
  induction n with
  | zero => intro p1 p2 p3 p4 p5 M r M1 h; cases h
  | succ n ih =>
    intro p1 p2 p3 p4 p5 M r M1 h
    rw [fm_cure_L44_s] at h
    refine x_iload (pc := 44) dX10_cure_44 rfl ?_
    refine x_sipush (pc := 46) (w := 800) dX10_cure_46 si_800 ?_
    refine x_icmp_ge (pc := 49) 234 dX10_cure_49 (by decide) (fun c_11 => ?_) (fun c_11 => ?_)
    · have h := aw_pos h c_11
      refine x_iload_n (pc := 234) 3 dX10_cure_234 rfl rfl ?_
      refine x_if_ge (pc := 235) 245 dX10_cure_235 (by decide) (fun c_12 => ?_) (fun c_12 => ?_)
      · have h := aw_pos h c_12
        refine x_iload_n (pc := 245) 2 dX10_cure_245 rfl rfl ?_
        refine x_if_ne (pc := 246) 254 dX10_cure_246 (by decide) (fun c_13 => ?_) (fun c_13 => ?_)
        · have h := aw_neg h c_13
          refine x_iload_n (pc := 254) 3 dX10_cure_254 rfl rfl ?_
          obtain ⟨rfl, rfl⟩ := aw_so h
          exact x_iret (pc := 255) dX10_cure_255
        · have h := aw_pos h c_13
          refine x_iload (pc := 249) dX10_cure_249 rfl ?_
          refine x_goto (pc := 251) 255 dX10_cure_251 (by decide) ?_
          obtain ⟨rfl, rfl⟩ := aw_so h
          exact x_iret (pc := 255) dX10_cure_255
      · have h := aw_neg h c_12
        refine x_aload_n (pc := 238) 0 dX10_cure_238 rfl rfl ?_
        refine x_ldc (pc := 239) dX10_cure_239 wk_X10_187 ?_
        refine x_callV (pc := 241) (As := [.int (-1000000002)]) (rest := []) (st' := [.int r]) (w := (some (.int r))) dX10_cure_241 cw_X10_49 hd1 gm_0 rfl rfl rfl (Nat.le_of_ble_eq_true rfl) (tm_errs (d - 1) hh_0 (-1000000002) _ _ _ h) rfl ?_
        exact x_iret (pc := 244) dX10_cure_244
    · have h := aw_neg h c_11
      refine x_iload (pc := 52) dX10_cure_52 rfl ?_
      refine x_bipush (pc := 54) (w := 100) dX10_cure_54 bi_100 ?_
      refine x_idiv (pc := 56) dX10_cure_56 (by decide) ?_
      refine x_istore (pc := 57) 6 [(6, .int (p5 / 100)), (0, .ref (ad 0)), (1, .int p1), (2, .int p2), (3, .int p3), (4, .int p4), (5, .int p5)] dX10_cure_57 (by decide) rfl ?_
      refine x_iconst (pc := 59) (w := 2) dX10_cure_59 ic_2 ?_
      refine x_aload_n (pc := 60) 0 dX10_cure_60 rfl rfl ?_
      refine x_get (pc := 61) dX10_cure_61 lk_X10_7 gm_0 rfl rfl ?_
      refine x_bipush (pc := 64) (w := 8) dX10_cure_64 bi_8 ?_
      refine x_ialdJ (pc := 66) 8 dX10_cure_66 gm_1 (by decide) tn_8 ?_
      refine x_iload (pc := 67) dX10_cure_67 rfl ?_
      refine x_bipush (pc := 69) (w := 10) dX10_cure_69 bi_10 ?_
      refine x_idiv (pc := 71) dX10_cure_71 (by decide) ?_
      refine x_bipush (pc := 72) (w := 10) dX10_cure_72 bi_10 ?_
      refine x_irem (pc := 74) dX10_cure_74 (by decide) ?_
      obtain ⟨r_15, M_16, e_14, h⟩ := aw_bi_e h
      refine x_callS (pc := 75) (As := [.int (M 1 8), .int (aw_rem (p5 / 10) 10)]) (rest := [.int 2]) (st' := [.int r_15, .int 2]) (w := (some (.int r_15))) dX10_cure_75 cw_X10_188 hd1 rfl rfl (Nat.le_of_ble_eq_true rfl) (tm_apart (d - 1) hh_0 (M 1 8) (aw_rem (p5 / 10) 10) _ _ _ e_14) rfl ?_
      refine x_imul (pc := 78) dX10_cure_78 ?_
      refine x_iconst (pc := 79) (w := 5) dX10_cure_79 ic_5 ?_
      refine x_aload_n (pc := 80) 0 dX10_cure_80 rfl rfl ?_
      refine x_get (pc := 81) dX10_cure_81 lk_X10_7 gm_0 rfl rfl ?_
      refine x_bipush (pc := 84) (w := 9) dX10_cure_84 bi_9 ?_
      refine x_ialdJ (pc := 86) 9 dX10_cure_86 gm_1 (by decide) tn_9 ?_
      refine x_iload (pc := 87) dX10_cure_87 rfl ?_
      refine x_bipush (pc := 89) (w := 10) dX10_cure_89 bi_10 ?_
      refine x_irem (pc := 91) dX10_cure_91 (by decide) ?_
      obtain ⟨r_18, M_19, e_17, h⟩ := aw_bi_e h
      refine x_callS (pc := 92) (As := [.int (M_16 1 9), .int (aw_rem p5 10)]) (rest := [.int 5, .int (2 * r_15)]) (st' := [.int r_18, .int 5, .int (2 * r_15)]) (w := (some (.int r_18))) dX10_cure_92 cw_X10_188 hd1 rfl rfl (Nat.le_of_ble_eq_true rfl) (tm_apart (d - 1) hh_0 (M_16 1 9) (aw_rem p5 10) _ _ _ e_17) rfl ?_
      refine x_imul (pc := 95) dX10_cure_95 ?_
      refine x_iadd (pc := 96) dX10_cure_96 ?_
      refine x_istore (pc := 97) 7 [(7, .int ((2 * r_15) + (5 * r_18))), (6, .int (p5 / 100)), (0, .ref (ad 0)), (1, .int p1), (2, .int p2), (3, .int p3), (4, .int p4), (5, .int p5)] dX10_cure_97 (by decide) rfl ?_
      refine x_iconst (pc := 99) (w := 0) dX10_cure_99 ic_0 ?_
      refine x_istore (pc := 100) 8 [(8, .int 0), (7, .int ((2 * r_15) + (5 * r_18))), (6, .int (p5 / 100)), (0, .ref (ad 0)), (1, .int p1), (2, .int p2), (3, .int p3), (4, .int p4), (5, .int p5)] dX10_cure_100 (by decide) rfl ?_
      refine x_lv [3, 4, 5, 6, 7, 8, 2, 1, 0] [(0, .ref (ad 0)), (1, .int p1), (2, .int p2), (3, .int p3), (4, .int p4), (5, .int p5), (6, .int (p5 / 100)), (7, .int ((2 * r_15) + (5 * r_18))), (8, .int 0)] rfl ?_
      exact tm_cure_L102 d hd _ ih 2000 p1 p2 p3 p4 p5 (p5 / 100) ((2 * r_15) + (5 * r_18)) 0 _ _ _ h
def fm_cure (p1 : Int32) (p2 : Int32) (M : aw_M) : Option (Int32 × aw_M) :=
  aw_bi (fm_isCloth p1 M) fun r_2 M_3 => (
  if r_2 = 0 then (
    fm_errs (-1000000001) M_3
  ) else (
    aw_bi (fm_in p2 0 1 M_3) fun r_6 M_7 => (
    if r_6 = 0 then (
      fm_errs (-1000000001) M_7
    ) else (
      aw_bv (fm_moveAll 1 3 M_7) fun M_10 => (
      fm_cure_L44  2000 p1 p2 (-1) 0 0 M_10
      )
    )
    )
  )
  )
set_option maxRecDepth 20000 in
theorem tm_cure {l : Launch} {D : va_G} {cy : Nat → ClassId} {ad : Nat → Nat} {A : Nat → Prop} (d : Nat) (hd : 107 ≤ d) (p1 : Int32) (p2 : Int32) (M : aw_M) (r : Int32) (M1 : aw_M) (h : fm_cure p1 p2 M = some (r, M1)) : AX l D cy ad A gm_G yX10_cure cX10_cure 9 (some .int) d [.ref (ad 0), .int p1, .int p2] M (some (.int r)) M1 := by
  have hd1 : (d - 1) + 1 ≤ d := by omega
  have hm1 : 1 ≤ d := by omega
  have hh_0 : 0 ≤ d - 1 := by omega
  have hh_1 : 1 ≤ d - 1 := by omega
  have hh_106 : 106 ≤ d - 1 := by omega
  refine AX.of (own := RX10) (by decide +kernel) rfl (Nat.le_of_ble_eq_true rfl) ?_
  unfold fm_cure at h
  show AW l D cy ad A gm_G RX10 cX10_cure 9 (some .int) d (some (.int r)) M1 0 [(0, .ref (ad 0)), (1, .int p1), (2, .int p2)] [] M
  refine x_aload_n (pc := 0) 0 dX10_cure_0 rfl rfl ?_
  refine x_iload_n (pc := 1) 1 dX10_cure_1 rfl rfl ?_
  obtain ⟨r_2, M_3, e_1, h⟩ := aw_bi_e h
  refine x_callV (pc := 2) (As := [.int p1]) (rest := []) (st' := [.int r_2]) (w := (some (.int r_2))) dX10_cure_2 cw_X10_62 hd1 gm_0 rfl rfl rfl (Nat.le_of_ble_eq_true rfl) (tm_isCloth (d - 1) hh_1 p1 _ _ _ e_1) rfl ?_
  refine x_if_eq (pc := 5) 17 dX10_cure_5 (by decide) (fun c_4 => ?_) (fun c_4 => ?_)
  · have h := aw_pos h c_4
    refine x_aload_n (pc := 17) 0 dX10_cure_17 rfl rfl ?_
    refine x_ldc (pc := 18) dX10_cure_18 wk_X10_48 ?_
    refine x_callV (pc := 20) (As := [.int (-1000000001)]) (rest := []) (st' := [.int r]) (w := (some (.int r))) dX10_cure_20 cw_X10_49 hd1 gm_0 rfl rfl rfl (Nat.le_of_ble_eq_true rfl) (tm_errs (d - 1) hh_0 (-1000000001) _ _ _ h) rfl ?_
    exact x_iret (pc := 23) dX10_cure_23
  · have h := aw_neg h c_4
    refine x_iload_n (pc := 8) 2 dX10_cure_8 rfl rfl ?_
    refine x_iconst (pc := 9) (w := 0) dX10_cure_9 ic_0 ?_
    refine x_iconst (pc := 10) (w := 1) dX10_cure_10 ic_1 ?_
    obtain ⟨r_6, M_7, e_5, h⟩ := aw_bi_e h
    refine x_callS (pc := 11) (As := [.int p2, .int 0, .int 1]) (rest := []) (st' := [.int r_6]) (w := (some (.int r_6))) dX10_cure_11 cw_X10_44 hd1 rfl rfl (Nat.le_of_ble_eq_true rfl) (tm_in (d - 1) hh_0 p2 0 1 _ _ _ e_5) rfl ?_
    refine x_if_ne (pc := 14) 24 dX10_cure_14 (by decide) (fun c_8 => ?_) (fun c_8 => ?_)
    · have h := aw_neg h c_8
      refine x_iconst (pc := 24) (w := (-1)) dX10_cure_24 ic_m1 ?_
      refine x_istore_n (pc := 25) 3 [(3, .int (-1)), (0, .ref (ad 0)), (1, .int p1), (2, .int p2)] dX10_cure_25 rfl (by decide) rfl ?_
      refine x_iconst (pc := 26) (w := 0) dX10_cure_26 ic_0 ?_
      refine x_istore (pc := 27) 4 [(4, .int 0), (3, .int (-1)), (0, .ref (ad 0)), (1, .int p1), (2, .int p2)] dX10_cure_27 (by decide) rfl ?_
      refine x_aload_n (pc := 29) 0 dX10_cure_29 rfl rfl ?_
      refine x_aload_n (pc := 30) 0 dX10_cure_30 rfl rfl ?_
      refine x_get (pc := 31) dX10_cure_31 lk_X10_7 gm_0 rfl rfl ?_
      refine x_aload_n (pc := 34) 0 dX10_cure_34 rfl rfl ?_
      refine x_get (pc := 35) dX10_cure_35 lk_X10_16 gm_0 rfl rfl ?_
      obtain ⟨M_10, e_9, h⟩ := aw_bv_e h
      refine x_callV (pc := 38) (As := [.ref (ad 1), .ref (ad 3)]) (rest := []) (st' := []) (w := none) dX10_cure_38 cw_X10_158 hd1 gm_0 rfl rfl rfl (Nat.le_of_ble_eq_true rfl) (tm_moveAll (d - 1) hh_0 1 gm_1 3 gm_3 _  _ e_9) rfl ?_
      refine x_iconst (pc := 41) (w := 0) dX10_cure_41 ic_0 ?_
      refine x_istore (pc := 42) 5 [(5, .int 0), (4, .int 0), (3, .int (-1)), (0, .ref (ad 0)), (1, .int p1), (2, .int p2)] dX10_cure_42 (by decide) rfl ?_
      refine x_lv [3, 4, 5, 2, 1, 0] [(0, .ref (ad 0)), (1, .int p1), (2, .int p2), (3, .int (-1)), (4, .int 0), (5, .int 0)] rfl ?_
      exact tm_cure_L44 d hd  2000 p1 p2 (-1) 0 0 _ _ _ h
    · have h := aw_pos h c_8
      refine x_aload_n (pc := 17) 0 dX10_cure_17 rfl rfl ?_
      refine x_ldc (pc := 18) dX10_cure_18 wk_X10_48 ?_
      refine x_callV (pc := 20) (As := [.int (-1000000001)]) (rest := []) (st' := [.int r]) (w := (some (.int r))) dX10_cure_20 cw_X10_49 hd1 gm_0 rfl rfl rfl (Nat.le_of_ble_eq_true rfl) (tm_errs (d - 1) hh_0 (-1000000001) _ _ _ h) rfl ?_
      exact x_iret (pc := 23) dX10_cure_23
def fm_alone_L31 : Nat → Int32 → Int32 → Int32 → aw_M → Option (Int32 × aw_M)
  | 0, _, _, _, _ => none
  | n + 1, p1, p2, p3, M =>
    if (7 : Int32) ≤ p3 then (
      some (p2, M)
    ) else (
      aw_bi (fm_canDo p3 M) fun r_9 M_10 => (
      if r_9 = 0 then (
        fm_alone_L31 n p1 p2 (p3 + 1) M_10
      ) else (
        aw_bv (fm_does p3 M_10) fun M_13 => (
        aw_bi (fm_shows p1 M_13) fun r_15 M_16 => (
        if r_15 = 0 then (
          aw_bv (fm_moveAll 3 1 M_16) fun M_21 => (
          fm_alone_L31 n p1 (p2 ||| (1 <<< (p3 &&& 31))) (p3 + 1) M_21
          )
        ) else (
          aw_bv (fm_moveAll 3 1 M_16) fun M_19 => (
          fm_alone_L31 n p1 (p2 ||| 0) (p3 + 1) M_19
          )
        )
        )
        )
      )
      )
    )
theorem fm_alone_L31_s (n : Nat) (p1 : Int32) (p2 : Int32) (p3 : Int32) (M : aw_M) : fm_alone_L31 (n + 1) p1 p2 p3 M = (
    if (7 : Int32) ≤ p3 then (
      some (p2, M)
    ) else (
      aw_bi (fm_canDo p3 M) fun r_9 M_10 => (
      if r_9 = 0 then (
        fm_alone_L31 n p1 p2 (p3 + 1) M_10
      ) else (
        aw_bv (fm_does p3 M_10) fun M_13 => (
        aw_bi (fm_shows p1 M_13) fun r_15 M_16 => (
        if r_15 = 0 then (
          aw_bv (fm_moveAll 3 1 M_16) fun M_21 => (
          fm_alone_L31 n p1 (p2 ||| (1 <<< (p3 &&& 31))) (p3 + 1) M_21
          )
        ) else (
          aw_bv (fm_moveAll 3 1 M_16) fun M_19 => (
          fm_alone_L31 n p1 (p2 ||| 0) (p3 + 1) M_19
          )
        )
        )
        )
      )
      )
    )
    ) := rfl
set_option maxRecDepth 20000 in
theorem tm_alone_L31 {l : Launch} {D : va_G} {cy : Nat → ClassId} {ad : Nat → Nat} {A : Nat → Prop} (d : Nat) (hd : 107 ≤ d) : ∀ (n : Nat) (p1 : Int32) (p2 : Int32) (p3 : Int32) (M : aw_M) (r : Int32) (M1 : aw_M), fm_alone_L31 n p1 p2 p3 M = some (r, M1) → AW l D cy ad A gm_G RX10 cX10_alone 4 (some .int) d (some (.int r)) M1 31 [(0, .ref (ad 0)), (1, .int p1), (2, .int p2), (3, .int p3)] [] M := by
  have hd1 : (d - 1) + 1 ≤ d := by omega
  have hm1 : 1 ≤ d := by omega
  have hh_0 : 0 ≤ d - 1 := by omega
  have hh_1 : 1 ≤ d - 1 := by omega
  have hh_106 : 106 ≤ d - 1 := by omega
  intro n
  induction n with
  | zero => intro p1 p2 p3 M r M1 h; cases h
  | succ n ih =>
    intro p1 p2 p3 M r M1 h
    rw [fm_alone_L31_s] at h
    refine x_iload_n (pc := 31) 3 dX10_alone_31 rfl rfl ?_
    refine x_bipush (pc := 32) (w := 7) dX10_alone_32 bi_7 ?_
    refine x_icmp_ge (pc := 34) 86 dX10_alone_34 (by decide) (fun c_7 => ?_) (fun c_7 => ?_)
    · have h := aw_pos h c_7
      refine x_iload_n (pc := 86) 2 dX10_alone_86 rfl rfl ?_
      obtain ⟨rfl, rfl⟩ := aw_so h
      exact x_iret (pc := 87) dX10_alone_87
    · have h := aw_neg h c_7
      refine x_aload_n (pc := 37) 0 dX10_alone_37 rfl rfl ?_
      refine x_iload_n (pc := 38) 3 dX10_alone_38 rfl rfl ?_
      obtain ⟨r_9, M_10, e_8, h⟩ := aw_bi_e h
      refine x_callV (pc := 39) (As := [.int p3]) (rest := []) (st' := [.int r_9]) (w := (some (.int r_9))) dX10_alone_39 cw_X10_176 hd1 gm_0 rfl rfl rfl (Nat.le_of_ble_eq_true rfl) (tm_canDo (d - 1) hh_0 p3 _ _ _ e_8) rfl ?_
      refine x_if_eq (pc := 42) 80 dX10_alone_42 (by decide) (fun c_11 => ?_) (fun c_11 => ?_)
      · have h := aw_pos h c_11
        refine x_iinc (pc := 80) (p3 + 1) [(3, .int (p3 + 1)), (0, .ref (ad 0)), (1, .int p1), (2, .int p2)] dX10_alone_80 rfl (congrArg (fun z => p3 + z) ic_1) (by decide) rfl ?_
        refine x_goto (pc := 83) 31 dX10_alone_83 (by decide) ?_
        refine x_lv [1, 2, 3, 0] [(0, .ref (ad 0)), (1, .int p1), (2, .int p2), (3, .int (p3 + 1))] rfl ?_
        exact ih p1 p2 (p3 + 1) _ _ _ h
      · have h := aw_neg h c_11
        refine x_aload_n (pc := 45) 0 dX10_alone_45 rfl rfl ?_
        refine x_iload_n (pc := 46) 3 dX10_alone_46 rfl rfl ?_
        obtain ⟨M_13, e_12, h⟩ := aw_bv_e h
        refine x_callV (pc := 47) (As := [.int p3]) (rest := []) (st' := []) (w := none) dX10_alone_47 cw_X10_179 hd1 gm_0 rfl rfl rfl (Nat.le_of_ble_eq_true rfl) (tm_does (d - 1) hh_1 p3 _  _ e_12) rfl ?_
        refine x_iload_n (pc := 50) 2 dX10_alone_50 rfl rfl ?_
        refine x_aload_n (pc := 51) 0 dX10_alone_51 rfl rfl ?_
        refine x_iload_n (pc := 52) 1 dX10_alone_52 rfl rfl ?_
        obtain ⟨r_15, M_16, e_14, h⟩ := aw_bi_e h
        refine x_callV (pc := 53) (As := [.int p1]) (rest := [.int p2]) (st' := [.int r_15, .int p2]) (w := (some (.int r_15))) dX10_alone_53 cw_X10_75 hd1 gm_0 rfl rfl rfl (Nat.le_of_ble_eq_true rfl) (tm_shows (d - 1) hh_106 p1 _ _ _ e_14) rfl ?_
        refine x_if_ne (pc := 56) 65 dX10_alone_56 (by decide) (fun c_17 => ?_) (fun c_17 => ?_)
        · have h := aw_neg h c_17
          refine x_iconst (pc := 65) (w := 0) dX10_alone_65 ic_0 ?_
          refine x_ior (pc := 66) dX10_alone_66 ?_
          refine x_istore_n (pc := 67) 2 [(2, .int (p2 ||| 0)), (0, .ref (ad 0)), (1, .int p1), (3, .int p3)] dX10_alone_67 rfl (by decide) rfl ?_
          refine x_aload_n (pc := 68) 0 dX10_alone_68 rfl rfl ?_
          refine x_aload_n (pc := 69) 0 dX10_alone_69 rfl rfl ?_
          refine x_get (pc := 70) dX10_alone_70 lk_X10_16 gm_0 rfl rfl ?_
          refine x_aload_n (pc := 73) 0 dX10_alone_73 rfl rfl ?_
          refine x_get (pc := 74) dX10_alone_74 lk_X10_7 gm_0 rfl rfl ?_
          obtain ⟨M_19, e_18, h⟩ := aw_bv_e h
          refine x_callV (pc := 77) (As := [.ref (ad 3), .ref (ad 1)]) (rest := []) (st' := []) (w := none) dX10_alone_77 cw_X10_158 hd1 gm_0 rfl rfl rfl (Nat.le_of_ble_eq_true rfl) (tm_moveAll (d - 1) hh_0 3 gm_3 1 gm_1 _  _ e_18) rfl ?_
          refine x_iinc (pc := 80) (p3 + 1) [(3, .int (p3 + 1)), (2, .int (p2 ||| 0)), (0, .ref (ad 0)), (1, .int p1)] dX10_alone_80 rfl (congrArg (fun z => p3 + z) ic_1) (by decide) rfl ?_
          refine x_goto (pc := 83) 31 dX10_alone_83 (by decide) ?_
          refine x_lv [2, 3, 1, 0] [(0, .ref (ad 0)), (1, .int p1), (2, .int (p2 ||| 0)), (3, .int (p3 + 1))] rfl ?_
          exact ih p1 (p2 ||| 0) (p3 + 1) _ _ _ h
        · have h := aw_pos h c_17
          refine x_iconst (pc := 59) (w := 1) dX10_alone_59 ic_1 ?_
          refine x_iload_n (pc := 60) 3 dX10_alone_60 rfl rfl ?_
          refine x_ishl (pc := 61) dX10_alone_61 ?_
          refine x_goto (pc := 62) 66 dX10_alone_62 (by decide) ?_
          refine x_ior (pc := 66) dX10_alone_66 ?_
          refine x_istore_n (pc := 67) 2 [(2, .int (p2 ||| (1 <<< (p3 &&& 31)))), (0, .ref (ad 0)), (1, .int p1), (3, .int p3)] dX10_alone_67 rfl (by decide) rfl ?_
          refine x_aload_n (pc := 68) 0 dX10_alone_68 rfl rfl ?_
          refine x_aload_n (pc := 69) 0 dX10_alone_69 rfl rfl ?_
          refine x_get (pc := 70) dX10_alone_70 lk_X10_16 gm_0 rfl rfl ?_
          refine x_aload_n (pc := 73) 0 dX10_alone_73 rfl rfl ?_
          refine x_get (pc := 74) dX10_alone_74 lk_X10_7 gm_0 rfl rfl ?_
          obtain ⟨M_21, e_20, h⟩ := aw_bv_e h
          refine x_callV (pc := 77) (As := [.ref (ad 3), .ref (ad 1)]) (rest := []) (st' := []) (w := none) dX10_alone_77 cw_X10_158 hd1 gm_0 rfl rfl rfl (Nat.le_of_ble_eq_true rfl) (tm_moveAll (d - 1) hh_0 3 gm_3 1 gm_1 _  _ e_20) rfl ?_
          refine x_iinc (pc := 80) (p3 + 1) [(3, .int (p3 + 1)), (2, .int (p2 ||| (1 <<< (p3 &&& 31)))), (0, .ref (ad 0)), (1, .int p1)] dX10_alone_80 rfl (congrArg (fun z => p3 + z) ic_1) (by decide) rfl ?_
          refine x_goto (pc := 83) 31 dX10_alone_83 (by decide) ?_
          refine x_lv [2, 3, 1, 0] [(0, .ref (ad 0)), (1, .int p1), (2, .int (p2 ||| (1 <<< (p3 &&& 31)))), (3, .int (p3 + 1))] rfl ?_
          exact ih p1 (p2 ||| (1 <<< (p3 &&& 31))) (p3 + 1) _ _ _ h
def fm_alone (p1 : Int32) (M : aw_M) : Option (Int32 × aw_M) :=
  aw_bi (fm_isCloth p1 M) fun r_2 M_3 => (
  if r_2 = 0 then (
    fm_errs (-1000000001) M_3
  ) else (
    aw_bv (fm_moveAll 1 3 M_3) fun M_6 => (
    fm_alone_L31  2000 p1 0 0 M_6
    )
  )
  )
set_option maxRecDepth 20000 in
theorem tm_alone {l : Launch} {D : va_G} {cy : Nat → ClassId} {ad : Nat → Nat} {A : Nat → Prop} (d : Nat) (hd : 107 ≤ d) (p1 : Int32) (M : aw_M) (r : Int32) (M1 : aw_M) (h : fm_alone p1 M = some (r, M1)) : AX l D cy ad A gm_G yX10_alone cX10_alone 4 (some .int) d [.ref (ad 0), .int p1] M (some (.int r)) M1 := by
  have hd1 : (d - 1) + 1 ≤ d := by omega
  have hm1 : 1 ≤ d := by omega
  have hh_0 : 0 ≤ d - 1 := by omega
  have hh_1 : 1 ≤ d - 1 := by omega
  have hh_106 : 106 ≤ d - 1 := by omega
  refine AX.of (own := RX10) (by decide +kernel) rfl (Nat.le_of_ble_eq_true rfl) ?_
  unfold fm_alone at h
  show AW l D cy ad A gm_G RX10 cX10_alone 4 (some .int) d (some (.int r)) M1 0 [(0, .ref (ad 0)), (1, .int p1)] [] M
  refine x_aload_n (pc := 0) 0 dX10_alone_0 rfl rfl ?_
  refine x_iload_n (pc := 1) 1 dX10_alone_1 rfl rfl ?_
  obtain ⟨r_2, M_3, e_1, h⟩ := aw_bi_e h
  refine x_callV (pc := 2) (As := [.int p1]) (rest := []) (st' := [.int r_2]) (w := (some (.int r_2))) dX10_alone_2 cw_X10_62 hd1 gm_0 rfl rfl rfl (Nat.le_of_ble_eq_true rfl) (tm_isCloth (d - 1) hh_1 p1 _ _ _ e_1) rfl ?_
  refine x_if_ne (pc := 5) 15 dX10_alone_5 (by decide) (fun c_4 => ?_) (fun c_4 => ?_)
  · have h := aw_neg h c_4
    refine x_iconst (pc := 15) (w := 0) dX10_alone_15 ic_0 ?_
    refine x_istore_n (pc := 16) 2 [(2, .int 0), (0, .ref (ad 0)), (1, .int p1)] dX10_alone_16 rfl (by decide) rfl ?_
    refine x_aload_n (pc := 17) 0 dX10_alone_17 rfl rfl ?_
    refine x_aload_n (pc := 18) 0 dX10_alone_18 rfl rfl ?_
    refine x_get (pc := 19) dX10_alone_19 lk_X10_7 gm_0 rfl rfl ?_
    refine x_aload_n (pc := 22) 0 dX10_alone_22 rfl rfl ?_
    refine x_get (pc := 23) dX10_alone_23 lk_X10_16 gm_0 rfl rfl ?_
    obtain ⟨M_6, e_5, h⟩ := aw_bv_e h
    refine x_callV (pc := 26) (As := [.ref (ad 1), .ref (ad 3)]) (rest := []) (st' := []) (w := none) dX10_alone_26 cw_X10_158 hd1 gm_0 rfl rfl rfl (Nat.le_of_ble_eq_true rfl) (tm_moveAll (d - 1) hh_0 1 gm_1 3 gm_3 _  _ e_5) rfl ?_
    refine x_iconst (pc := 29) (w := 0) dX10_alone_29 ic_0 ?_
    refine x_istore_n (pc := 30) 3 [(3, .int 0), (2, .int 0), (0, .ref (ad 0)), (1, .int p1)] dX10_alone_30 rfl (by decide) rfl ?_
    refine x_lv [2, 3, 1, 0] [(0, .ref (ad 0)), (1, .int p1), (2, .int 0), (3, .int 0)] rfl ?_
    exact tm_alone_L31 d hd  2000 p1 0 0 _ _ _ h
  · have h := aw_pos h c_4
    refine x_aload_n (pc := 8) 0 dX10_alone_8 rfl rfl ?_
    refine x_ldc (pc := 9) dX10_alone_9 wk_X10_48 ?_
    refine x_callV (pc := 11) (As := [.int (-1000000001)]) (rest := []) (st' := [.int r]) (w := (some (.int r))) dX10_alone_11 cw_X10_49 hd1 gm_0 rfl rfl rfl (Nat.le_of_ble_eq_true rfl) (tm_errs (d - 1) hh_0 (-1000000001) _ _ _ h) rfl ?_
    exact x_iret (pc := 14) dX10_alone_14
def fm_turnsTo (p1 : Int32) (M : aw_M) : Option aw_M :=
  some (aw_u (aw_u (aw_u (aw_u M 1 7 (p1 / 300)) 1 10 (aw_rem (p1 / 100) 3)) 1 8 (aw_rem (p1 / 10) 10)) 1 9 (aw_rem p1 10))
set_option maxRecDepth 20000 in
theorem tm_turnsTo {l : Launch} {D : va_G} {cy : Nat → ClassId} {ad : Nat → Nat} {A : Nat → Prop} (d : Nat) (hd : 0 ≤ d) (p1 : Int32) (M : aw_M) (M1 : aw_M) (h : fm_turnsTo p1 M = some M1) : AX l D cy ad A gm_G yX10_turnsTo cX10_turnsTo 2 none d [.ref (ad 0), .int p1] M none M1 := by
  refine AX.of (own := RX10) (by decide +kernel) rfl (Nat.le_of_ble_eq_true rfl) ?_
  unfold fm_turnsTo at h
  show AW l D cy ad A gm_G RX10 cX10_turnsTo 2 none d none M1 0 [(0, .ref (ad 0)), (1, .int p1)] [] M
  refine x_aload_n (pc := 0) 0 dX10_turnsTo_0 rfl rfl ?_
  refine x_get (pc := 1) dX10_turnsTo_1 lk_X10_7 gm_0 rfl rfl ?_
  refine x_bipush (pc := 4) (w := 7) dX10_turnsTo_4 bi_7 ?_
  refine x_iload_n (pc := 6) 1 dX10_turnsTo_6 rfl rfl ?_
  refine x_sipush (pc := 7) (w := 300) dX10_turnsTo_7 si_300 ?_
  refine x_idiv (pc := 10) dX10_turnsTo_10 (by decide) ?_
  refine x_iastJ (pc := 11) 7 dX10_turnsTo_11 gm_1 (by decide) tn_7 ?_
  refine x_aload_n (pc := 12) 0 dX10_turnsTo_12 rfl rfl ?_
  refine x_get (pc := 13) dX10_turnsTo_13 lk_X10_7 gm_0 rfl rfl ?_
  refine x_bipush (pc := 16) (w := 10) dX10_turnsTo_16 bi_10 ?_
  refine x_iload_n (pc := 18) 1 dX10_turnsTo_18 rfl rfl ?_
  refine x_bipush (pc := 19) (w := 100) dX10_turnsTo_19 bi_100 ?_
  refine x_idiv (pc := 21) dX10_turnsTo_21 (by decide) ?_
  refine x_iconst (pc := 22) (w := 3) dX10_turnsTo_22 ic_3 ?_
  refine x_irem (pc := 23) dX10_turnsTo_23 (by decide) ?_
  refine x_iastJ (pc := 24) 10 dX10_turnsTo_24 gm_1 (by decide) tn_10 ?_
  refine x_aload_n (pc := 25) 0 dX10_turnsTo_25 rfl rfl ?_
  refine x_get (pc := 26) dX10_turnsTo_26 lk_X10_7 gm_0 rfl rfl ?_
  refine x_bipush (pc := 29) (w := 8) dX10_turnsTo_29 bi_8 ?_
  refine x_iload_n (pc := 31) 1 dX10_turnsTo_31 rfl rfl ?_
  refine x_bipush (pc := 32) (w := 10) dX10_turnsTo_32 bi_10 ?_
  refine x_idiv (pc := 34) dX10_turnsTo_34 (by decide) ?_
  refine x_bipush (pc := 35) (w := 10) dX10_turnsTo_35 bi_10 ?_
  refine x_irem (pc := 37) dX10_turnsTo_37 (by decide) ?_
  refine x_iastJ (pc := 38) 8 dX10_turnsTo_38 gm_1 (by decide) tn_8 ?_
  refine x_aload_n (pc := 39) 0 dX10_turnsTo_39 rfl rfl ?_
  refine x_get (pc := 40) dX10_turnsTo_40 lk_X10_7 gm_0 rfl rfl ?_
  refine x_bipush (pc := 43) (w := 9) dX10_turnsTo_43 bi_9 ?_
  refine x_iload_n (pc := 45) 1 dX10_turnsTo_45 rfl rfl ?_
  refine x_bipush (pc := 46) (w := 10) dX10_turnsTo_46 bi_10 ?_
  refine x_irem (pc := 48) dX10_turnsTo_48 (by decide) ?_
  refine x_iastJ (pc := 49) 9 dX10_turnsTo_49 gm_1 (by decide) tn_9 ?_
  obtain rfl := aw_sv h
  exact x_vret (pc := 50) dX10_turnsTo_50
def fm_isSheet (p0 : Int32) (M : aw_M) : Option (Int32 × aw_M) :=
  aw_bi (fm_in p0 0 3 M) fun r_2 M_3 => (
  if ¬ (r_2 = 0 ∨ r_2 = 1) then none else (
  some (r_2, M_3)
  )
  )
set_option maxRecDepth 20000 in
theorem tm_isSheet {l : Launch} {D : va_G} {cy : Nat → ClassId} {ad : Nat → Nat} {A : Nat → Prop} (d : Nat) (hd : 1 ≤ d) (p0 : Int32) (M : aw_M) (r : Int32) (M1 : aw_M) (h : fm_isSheet p0 M = some (r, M1)) : AX l D cy ad A gm_G yX10_isSheet cX10_isSheet 1 (some .boolean) d [.int p0] M (some (.int r)) M1 := by
  have hd1 : (d - 1) + 1 ≤ d := by omega
  have hm1 : 1 ≤ d := by omega
  have hh_0 : 0 ≤ d - 1 := by omega
  refine AX.of (own := RX10) (by decide +kernel) rfl (Nat.le_of_ble_eq_true rfl) ?_
  unfold fm_isSheet at h
  show AW l D cy ad A gm_G RX10 cX10_isSheet 1 (some .boolean) d (some (.int r)) M1 0 [(0, .int p0)] [] M
  refine x_iload_n (pc := 0) 0 dX10_isSheet_0 rfl rfl ?_
  refine x_iconst (pc := 1) (w := 0) dX10_isSheet_1 ic_0 ?_
  refine x_iconst (pc := 2) (w := 3) dX10_isSheet_2 ic_3 ?_
  obtain ⟨r_2, M_3, e_1, h⟩ := aw_bi_e h
  refine x_callS (pc := 3) (As := [.int p0, .int 0, .int 3]) (rest := []) (st' := [.int r_2]) (w := (some (.int r_2))) dX10_isSheet_3 cw_X10_44 hd1 rfl rfl (Nat.le_of_ble_eq_true rfl) (tm_in (d - 1) hh_0 p0 0 3 _ _ _ e_1) rfl ?_
  obtain ⟨c_4, h⟩ := aw_ck h
  obtain ⟨rfl, rfl⟩ := aw_so h
  exact x_zret (pc := 6) (aw_bo c_4) dX10_isSheet_6
def fm_isShown_L4 : Nat → Int32 → Int32 → Int32 → aw_M → Option (Int32 × aw_M)
  | 0, _, _, _, _ => none
  | n + 1, p1, p2, p3, M =>
    if (M 1 2) ≤ p3 then (
      if ¬ (p2 = 0 ∨ p2 = 1) then none else (
      some (p2, M)
      )
    ) else (
      if p2 = 0 then (
        if ¬ (p2 = 0 ∨ p2 = 1) then none else (
        some (p2, M)
        )
      ) else (
        if aw_in ((40 * p1) + p3) 160 then none else (
        if (M 8 ((40 * p1) + p3).toNatClampNeg) < 0 then (
          fm_isShown_L4 n p1 1 (p3 + 1) M
        ) else (
          aw_bi (fm_shows p3 M) fun r_8 M_9 => (
          if (M 8 ((40 * p1) + p3).toNatClampNeg) = r_8 then (
            fm_isShown_L4 n p1 1 (p3 + 1) M_9
          ) else (
            fm_isShown_L4 n p1 0 (p3 + 1) M_9
          )
          )
        )
        )
      )
    )
theorem fm_isShown_L4_s (n : Nat) (p1 : Int32) (p2 : Int32) (p3 : Int32) (M : aw_M) : fm_isShown_L4 (n + 1) p1 p2 p3 M = (
    if (M 1 2) ≤ p3 then (
      if ¬ (p2 = 0 ∨ p2 = 1) then none else (
      some (p2, M)
      )
    ) else (
      if p2 = 0 then (
        if ¬ (p2 = 0 ∨ p2 = 1) then none else (
        some (p2, M)
        )
      ) else (
        if aw_in ((40 * p1) + p3) 160 then none else (
        if (M 8 ((40 * p1) + p3).toNatClampNeg) < 0 then (
          fm_isShown_L4 n p1 1 (p3 + 1) M
        ) else (
          aw_bi (fm_shows p3 M) fun r_8 M_9 => (
          if (M 8 ((40 * p1) + p3).toNatClampNeg) = r_8 then (
            fm_isShown_L4 n p1 1 (p3 + 1) M_9
          ) else (
            fm_isShown_L4 n p1 0 (p3 + 1) M_9
          )
          )
        )
        )
      )
    )
    ) := rfl
set_option maxRecDepth 20000 in
theorem tm_isShown_L4 {l : Launch} {D : va_G} {cy : Nat → ClassId} {ad : Nat → Nat} {A : Nat → Prop} (d : Nat) (hd : 107 ≤ d) : ∀ (n : Nat) (p1 : Int32) (p2 : Int32) (p3 : Int32) (M : aw_M) (r : Int32) (M1 : aw_M), fm_isShown_L4 n p1 p2 p3 M = some (r, M1) → AW l D cy ad A gm_G RX10 cX10_isShown 5 (some .boolean) d (some (.int r)) M1 4 [(0, .ref (ad 0)), (1, .int p1), (2, .int p2), (3, .int p3)] [] M := by
  have hd1 : (d - 1) + 1 ≤ d := by omega
  have hm1 : 1 ≤ d := by omega
  have hh_106 : 106 ≤ d - 1 := by omega
  intro n
  induction n with
  | zero => intro p1 p2 p3 M r M1 h; cases h
  | succ n ih =>
    intro p1 p2 p3 M r M1 h
    rw [fm_isShown_L4_s] at h
    refine x_iload_n (pc := 4) 3 dX10_isShown_4 rfl rfl ?_
    refine x_aload_n (pc := 5) 0 dX10_isShown_5 rfl rfl ?_
    refine x_get (pc := 6) dX10_isShown_6 lk_X10_7 gm_0 rfl rfl ?_
    refine x_iconst (pc := 9) (w := 2) dX10_isShown_9 ic_2 ?_
    refine x_ialdJ (pc := 10) 2 dX10_isShown_10 gm_1 (by decide) tn_2 ?_
    refine x_icmp_ge (pc := 11) 58 dX10_isShown_11 (by decide) (fun c_1 => ?_) (fun c_1 => ?_)
    · have h := aw_pos h c_1
      refine x_iload_n (pc := 58) 2 dX10_isShown_58 rfl rfl ?_
      obtain ⟨c_2, h⟩ := aw_ck h
      obtain ⟨rfl, rfl⟩ := aw_so h
      exact x_zret (pc := 59) (aw_bo c_2) dX10_isShown_59
    · have h := aw_neg h c_1
      refine x_iload_n (pc := 14) 2 dX10_isShown_14 rfl rfl ?_
      refine x_if_eq (pc := 15) 58 dX10_isShown_15 (by decide) (fun c_3 => ?_) (fun c_3 => ?_)
      · have h := aw_pos h c_3
        refine x_iload_n (pc := 58) 2 dX10_isShown_58 rfl rfl ?_
        obtain ⟨c_4, h⟩ := aw_ck h
        obtain ⟨rfl, rfl⟩ := aw_so h
        exact x_zret (pc := 59) (aw_bo c_4) dX10_isShown_59
      · have h := aw_neg h c_3
        refine x_aload_n (pc := 18) 0 dX10_isShown_18 rfl rfl ?_
        refine x_get (pc := 19) dX10_isShown_19 lk_X10_31 gm_0 rfl rfl ?_
        refine x_bipush (pc := 22) (w := 40) dX10_isShown_22 bi_40 ?_
        refine x_iload_n (pc := 24) 1 dX10_isShown_24 rfl rfl ?_
        refine x_imul (pc := 25) dX10_isShown_25 ?_
        refine x_iload_n (pc := 26) 3 dX10_isShown_26 rfl rfl ?_
        refine x_iadd (pc := 27) dX10_isShown_27 ?_
        obtain ⟨c_5, h⟩ := aw_ck h
        refine x_iald (pc := 28) dX10_isShown_28 gm_8 c_5 ?_
        refine x_istore (pc := 29) 4 [(4, .int (M 8 ((40 * p1) + p3).toNatClampNeg)), (0, .ref (ad 0)), (1, .int p1), (2, .int p2), (3, .int p3)] dX10_isShown_29 (by decide) rfl ?_
        refine x_iload (pc := 31) dX10_isShown_31 rfl ?_
        refine x_if_lt (pc := 33) 46 dX10_isShown_33 (by decide) (fun c_6 => ?_) (fun c_6 => ?_)
        · have h := aw_pos h c_6
          refine x_iconst (pc := 46) (w := 1) dX10_isShown_46 ic_1 ?_
          refine x_goto (pc := 47) 51 dX10_isShown_47 (by decide) ?_
          refine x_istore_n (pc := 51) 2 [(2, .int 1), (4, .int (M 8 ((40 * p1) + p3).toNatClampNeg)), (0, .ref (ad 0)), (1, .int p1), (3, .int p3)] dX10_isShown_51 rfl (by decide) rfl ?_
          refine x_iinc (pc := 52) (p3 + 1) [(3, .int (p3 + 1)), (2, .int 1), (4, .int (M 8 ((40 * p1) + p3).toNatClampNeg)), (0, .ref (ad 0)), (1, .int p1)] dX10_isShown_52 rfl (congrArg (fun z => p3 + z) ic_1) (by decide) rfl ?_
          refine x_goto (pc := 55) 4 dX10_isShown_55 (by decide) ?_
          refine x_lv [3, 4, 1, 0] [(0, .ref (ad 0)), (1, .int p1), (2, .int 1), (3, .int (p3 + 1))] rfl ?_
          exact ih p1 1 (p3 + 1) _ _ _ h
        · have h := aw_neg h c_6
          refine x_iload (pc := 36) dX10_isShown_36 rfl ?_
          refine x_aload_n (pc := 38) 0 dX10_isShown_38 rfl rfl ?_
          refine x_iload_n (pc := 39) 3 dX10_isShown_39 rfl rfl ?_
          obtain ⟨r_8, M_9, e_7, h⟩ := aw_bi_e h
          refine x_callV (pc := 40) (As := [.int p3]) (rest := [.int (M 8 ((40 * p1) + p3).toNatClampNeg)]) (st' := [.int r_8, .int (M 8 ((40 * p1) + p3).toNatClampNeg)]) (w := (some (.int r_8))) dX10_isShown_40 cw_X10_75 hd1 gm_0 rfl rfl rfl (Nat.le_of_ble_eq_true rfl) (tm_shows (d - 1) hh_106 p3 _ _ _ e_7) rfl ?_
          refine x_icmp_ne (pc := 43) 50 dX10_isShown_43 (by decide) (fun c_10 => ?_) (fun c_10 => ?_)
          · have h := aw_neg h c_10
            refine x_iconst (pc := 50) (w := 0) dX10_isShown_50 ic_0 ?_
            refine x_istore_n (pc := 51) 2 [(2, .int 0), (4, .int (M 8 ((40 * p1) + p3).toNatClampNeg)), (0, .ref (ad 0)), (1, .int p1), (3, .int p3)] dX10_isShown_51 rfl (by decide) rfl ?_
            refine x_iinc (pc := 52) (p3 + 1) [(3, .int (p3 + 1)), (2, .int 0), (4, .int (M 8 ((40 * p1) + p3).toNatClampNeg)), (0, .ref (ad 0)), (1, .int p1)] dX10_isShown_52 rfl (congrArg (fun z => p3 + z) ic_1) (by decide) rfl ?_
            refine x_goto (pc := 55) 4 dX10_isShown_55 (by decide) ?_
            refine x_lv [3, 4, 1, 0] [(0, .ref (ad 0)), (1, .int p1), (2, .int 0), (3, .int (p3 + 1))] rfl ?_
            exact ih p1 0 (p3 + 1) _ _ _ h
          · have h := aw_pos h c_10
            refine x_iconst (pc := 46) (w := 1) dX10_isShown_46 ic_1 ?_
            refine x_goto (pc := 47) 51 dX10_isShown_47 (by decide) ?_
            refine x_istore_n (pc := 51) 2 [(2, .int 1), (4, .int (M 8 ((40 * p1) + p3).toNatClampNeg)), (0, .ref (ad 0)), (1, .int p1), (3, .int p3)] dX10_isShown_51 rfl (by decide) rfl ?_
            refine x_iinc (pc := 52) (p3 + 1) [(3, .int (p3 + 1)), (2, .int 1), (4, .int (M 8 ((40 * p1) + p3).toNatClampNeg)), (0, .ref (ad 0)), (1, .int p1)] dX10_isShown_52 rfl (congrArg (fun z => p3 + z) ic_1) (by decide) rfl ?_
            refine x_goto (pc := 55) 4 dX10_isShown_55 (by decide) ?_
            refine x_lv [3, 4, 1, 0] [(0, .ref (ad 0)), (1, .int p1), (2, .int 1), (3, .int (p3 + 1))] rfl ?_
            exact ih p1 1 (p3 + 1) _ _ _ h
def fm_isShown (p1 : Int32) (M : aw_M) : Option (Int32 × aw_M) :=
  fm_isShown_L4  2000 p1 1 0 M
set_option maxRecDepth 20000 in
theorem tm_isShown {l : Launch} {D : va_G} {cy : Nat → ClassId} {ad : Nat → Nat} {A : Nat → Prop} (d : Nat) (hd : 107 ≤ d) (p1 : Int32) (M : aw_M) (r : Int32) (M1 : aw_M) (h : fm_isShown p1 M = some (r, M1)) : AX l D cy ad A gm_G yX10_isShown cX10_isShown 5 (some .boolean) d [.ref (ad 0), .int p1] M (some (.int r)) M1 := by
  have hd1 : (d - 1) + 1 ≤ d := by omega
  have hm1 : 1 ≤ d := by omega
  have hh_106 : 106 ≤ d - 1 := by omega
  refine AX.of (own := RX10) (by decide +kernel) rfl (Nat.le_of_ble_eq_true rfl) ?_
  unfold fm_isShown at h
  show AW l D cy ad A gm_G RX10 cX10_isShown 5 (some .boolean) d (some (.int r)) M1 0 [(0, .ref (ad 0)), (1, .int p1)] [] M
  refine x_iconst (pc := 0) (w := 1) dX10_isShown_0 ic_1 ?_
  refine x_istore_n (pc := 1) 2 [(2, .int 1), (0, .ref (ad 0)), (1, .int p1)] dX10_isShown_1 rfl (by decide) rfl ?_
  refine x_iconst (pc := 2) (w := 0) dX10_isShown_2 ic_0 ?_
  refine x_istore_n (pc := 3) 3 [(3, .int 0), (2, .int 1), (0, .ref (ad 0)), (1, .int p1)] dX10_isShown_3 rfl (by decide) rfl ?_
  refine x_lv [2, 3, 1, 0] [(0, .ref (ad 0)), (1, .int p1), (2, .int 1), (3, .int 0)] rfl ?_
  exact tm_isShown_L4 d hd  2000 p1 1 0 _ _ _ h
def fm_canBe_L76 : Nat → Int32 → Int32 → Int32 → Int32 → Int32 → aw_M → Option (Int32 × aw_M)
  | 0, _, _, _, _, _, _ => none
  | n + 1, p1, p2, p3, p4, p5, M =>
    if p5 < 0 then (
      aw_bv (fm_moveAll 3 1 M) fun M_17 => (
      if p2 = 1 then (
        if p3 = 0 then (
          fm_errs (-1000000002) M_17
        ) else (
          if p2 = 0 then (
            some (p3, M_17)
          ) else (
            some (p4, M_17)
          )
        )
      ) else (
        if p2 = 0 then (
          some (p3, M_17)
        ) else (
          some (p4, M_17)
        )
      )
      )
    ) else (
      aw_bv (fm_turnsTo p5 M) fun M_23 => (
      aw_bi (fm_isShown p1 M_23) fun r_25 M_26 => (
      if r_25 = 0 then (
        fm_canBe_L76 n p1 p2 p3 p4 (p5 + (-1)) M_26
      ) else (
        fm_canBe_L76 n p1 p2 (p3 + 1) ((((1000 * (M_26 1 7)) + (100 * (M_26 1 10))) + (10 * (M_26 1 8))) + (M_26 1 9)) (p5 + (-1)) M_26
      )
      )
      )
    )
theorem fm_canBe_L76_s (n : Nat) (p1 : Int32) (p2 : Int32) (p3 : Int32) (p4 : Int32) (p5 : Int32) (M : aw_M) : fm_canBe_L76 (n + 1) p1 p2 p3 p4 p5 M = (
    if p5 < 0 then (
      aw_bv (fm_moveAll 3 1 M) fun M_17 => (
      if p2 = 1 then (
        if p3 = 0 then (
          fm_errs (-1000000002) M_17
        ) else (
          if p2 = 0 then (
            some (p3, M_17)
          ) else (
            some (p4, M_17)
          )
        )
      ) else (
        if p2 = 0 then (
          some (p3, M_17)
        ) else (
          some (p4, M_17)
        )
      )
      )
    ) else (
      aw_bv (fm_turnsTo p5 M) fun M_23 => (
      aw_bi (fm_isShown p1 M_23) fun r_25 M_26 => (
      if r_25 = 0 then (
        fm_canBe_L76 n p1 p2 p3 p4 (p5 + (-1)) M_26
      ) else (
        fm_canBe_L76 n p1 p2 (p3 + 1) ((((1000 * (M_26 1 7)) + (100 * (M_26 1 10))) + (10 * (M_26 1 8))) + (M_26 1 9)) (p5 + (-1)) M_26
      )
      )
      )
    )
    ) := rfl
set_option maxRecDepth 20000 in
theorem tm_canBe_L76 {l : Launch} {D : va_G} {cy : Nat → ClassId} {ad : Nat → Nat} {A : Nat → Prop} (d : Nat) (hd : 108 ≤ d) : ∀ (n : Nat) (p1 : Int32) (p2 : Int32) (p3 : Int32) (p4 : Int32) (p5 : Int32) (M : aw_M) (r : Int32) (M1 : aw_M), fm_canBe_L76 n p1 p2 p3 p4 p5 M = some (r, M1) → AW l D cy ad A gm_G RX10 cX10_canBe 6 (some .int) d (some (.int r)) M1 76 [(0, .ref (ad 0)), (1, .int p1), (2, .int p2), (3, .int p3), (4, .int p4), (5, .int p5)] [] M := by
  have hd1 : (d - 1) + 1 ≤ d := by omega
  have hm1 : 1 ≤ d := by omega
  have hh_0 : 0 ≤ d - 1 := by omega
  have hh_1 : 1 ≤ d - 1 := by omega
  have hh_107 : 107 ≤ d - 1 := by omega
  intro n
  induction n with
  | zero => intro p1 p2 p3 p4 p5 M r M1 h; cases h
  | succ n ih =>
    intro p1 p2 p3 p4 p5 M r M1 h
    rw [fm_canBe_L76_s] at h
    refine x_iload (pc := 76) dX10_canBe_76 rfl ?_
    refine x_if_lt (pc := 78) 147 dX10_canBe_78 (by decide) (fun c_15 => ?_) (fun c_15 => ?_)
    · have h := aw_pos h c_15
      refine x_aload_n (pc := 147) 0 dX10_canBe_147 rfl rfl ?_
      refine x_aload_n (pc := 148) 0 dX10_canBe_148 rfl rfl ?_
      refine x_get (pc := 149) dX10_canBe_149 lk_X10_16 gm_0 rfl rfl ?_
      refine x_aload_n (pc := 152) 0 dX10_canBe_152 rfl rfl ?_
      refine x_get (pc := 153) dX10_canBe_153 lk_X10_7 gm_0 rfl rfl ?_
      obtain ⟨M_17, e_16, h⟩ := aw_bv_e h
      refine x_callV (pc := 156) (As := [.ref (ad 3), .ref (ad 1)]) (rest := []) (st' := []) (w := none) dX10_canBe_156 cw_X10_158 hd1 gm_0 rfl rfl rfl (Nat.le_of_ble_eq_true rfl) (tm_moveAll (d - 1) hh_0 3 gm_3 1 gm_1 _  _ e_16) rfl ?_
      refine x_iload_n (pc := 159) 2 dX10_canBe_159 rfl rfl ?_
      refine x_iconst (pc := 160) (w := 1) dX10_canBe_160 ic_1 ?_
      refine x_icmp_ne (pc := 161) 175 dX10_canBe_161 (by decide) (fun c_18 => ?_) (fun c_18 => ?_)
      · have h := aw_neg h c_18
        refine x_iload_n (pc := 175) 2 dX10_canBe_175 rfl rfl ?_
        refine x_if_ne (pc := 176) 183 dX10_canBe_176 (by decide) (fun c_19 => ?_) (fun c_19 => ?_)
        · have h := aw_neg h c_19
          refine x_iload (pc := 183) dX10_canBe_183 rfl ?_
          obtain ⟨rfl, rfl⟩ := aw_so h
          exact x_iret (pc := 185) dX10_canBe_185
        · have h := aw_pos h c_19
          refine x_iload_n (pc := 179) 3 dX10_canBe_179 rfl rfl ?_
          refine x_goto (pc := 180) 185 dX10_canBe_180 (by decide) ?_
          obtain ⟨rfl, rfl⟩ := aw_so h
          exact x_iret (pc := 185) dX10_canBe_185
      · have h := aw_pos h c_18
        refine x_iload_n (pc := 164) 3 dX10_canBe_164 rfl rfl ?_
        refine x_if_ne (pc := 165) 175 dX10_canBe_165 (by decide) (fun c_20 => ?_) (fun c_20 => ?_)
        · have h := aw_neg h c_20
          refine x_iload_n (pc := 175) 2 dX10_canBe_175 rfl rfl ?_
          refine x_if_ne (pc := 176) 183 dX10_canBe_176 (by decide) (fun c_21 => ?_) (fun c_21 => ?_)
          · have h := aw_neg h c_21
            refine x_iload (pc := 183) dX10_canBe_183 rfl ?_
            obtain ⟨rfl, rfl⟩ := aw_so h
            exact x_iret (pc := 185) dX10_canBe_185
          · have h := aw_pos h c_21
            refine x_iload_n (pc := 179) 3 dX10_canBe_179 rfl rfl ?_
            refine x_goto (pc := 180) 185 dX10_canBe_180 (by decide) ?_
            obtain ⟨rfl, rfl⟩ := aw_so h
            exact x_iret (pc := 185) dX10_canBe_185
        · have h := aw_pos h c_20
          refine x_aload_n (pc := 168) 0 dX10_canBe_168 rfl rfl ?_
          refine x_ldc (pc := 169) dX10_canBe_169 wk_X10_187 ?_
          refine x_callV (pc := 171) (As := [.int (-1000000002)]) (rest := []) (st' := [.int r]) (w := (some (.int r))) dX10_canBe_171 cw_X10_49 hd1 gm_0 rfl rfl rfl (Nat.le_of_ble_eq_true rfl) (tm_errs (d - 1) hh_0 (-1000000002) _ _ _ h) rfl ?_
          exact x_iret (pc := 174) dX10_canBe_174
    · have h := aw_neg h c_15
      refine x_aload_n (pc := 81) 0 dX10_canBe_81 rfl rfl ?_
      refine x_iload (pc := 82) dX10_canBe_82 rfl ?_
      obtain ⟨M_23, e_22, h⟩ := aw_bv_e h
      refine x_callV (pc := 84) (As := [.int p5]) (rest := []) (st' := []) (w := none) dX10_canBe_84 cw_X10_194 hd1 gm_0 rfl rfl rfl (Nat.le_of_ble_eq_true rfl) (tm_turnsTo (d - 1) hh_0 p5 _  _ e_22) rfl ?_
      refine x_aload_n (pc := 87) 0 dX10_canBe_87 rfl rfl ?_
      refine x_iload_n (pc := 88) 1 dX10_canBe_88 rfl rfl ?_
      obtain ⟨r_25, M_26, e_24, h⟩ := aw_bi_e h
      refine x_callV (pc := 89) (As := [.int p1]) (rest := []) (st' := [.int r_25]) (w := (some (.int r_25))) dX10_canBe_89 cw_X10_197 hd1 gm_0 rfl rfl rfl (Nat.le_of_ble_eq_true rfl) (tm_isShown (d - 1) hh_107 p1 _ _ _ e_24) rfl ?_
      refine x_if_eq (pc := 92) 141 dX10_canBe_92 (by decide) (fun c_27 => ?_) (fun c_27 => ?_)
      · have h := aw_pos h c_27
        refine x_iinc (pc := 141) (p5 + (-1)) [(5, .int (p5 + (-1))), (0, .ref (ad 0)), (1, .int p1), (2, .int p2), (3, .int p3), (4, .int p4)] dX10_canBe_141 rfl (congrArg (fun z => p5 + z) ic_m1) (by decide) rfl ?_
        refine x_goto (pc := 144) 76 dX10_canBe_144 (by decide) ?_
        refine x_lv [1, 2, 3, 4, 5, 0] [(0, .ref (ad 0)), (1, .int p1), (2, .int p2), (3, .int p3), (4, .int p4), (5, .int (p5 + (-1)))] rfl ?_
        exact ih p1 p2 p3 p4 (p5 + (-1)) _ _ _ h
      · have h := aw_neg h c_27
        refine x_iinc (pc := 95) (p3 + 1) [(3, .int (p3 + 1)), (0, .ref (ad 0)), (1, .int p1), (2, .int p2), (4, .int p4), (5, .int p5)] dX10_canBe_95 rfl (congrArg (fun z => p3 + z) ic_1) (by decide) rfl ?_
        refine x_sipush (pc := 98) (w := 1000) dX10_canBe_98 si_1000 ?_
        refine x_aload_n (pc := 101) 0 dX10_canBe_101 rfl rfl ?_
        refine x_get (pc := 102) dX10_canBe_102 lk_X10_7 gm_0 rfl rfl ?_
        refine x_bipush (pc := 105) (w := 7) dX10_canBe_105 bi_7 ?_
        refine x_ialdJ (pc := 107) 7 dX10_canBe_107 gm_1 (by decide) tn_7 ?_
        refine x_imul (pc := 108) dX10_canBe_108 ?_
        refine x_bipush (pc := 109) (w := 100) dX10_canBe_109 bi_100 ?_
        refine x_aload_n (pc := 111) 0 dX10_canBe_111 rfl rfl ?_
        refine x_get (pc := 112) dX10_canBe_112 lk_X10_7 gm_0 rfl rfl ?_
        refine x_bipush (pc := 115) (w := 10) dX10_canBe_115 bi_10 ?_
        refine x_ialdJ (pc := 117) 10 dX10_canBe_117 gm_1 (by decide) tn_10 ?_
        refine x_imul (pc := 118) dX10_canBe_118 ?_
        refine x_iadd (pc := 119) dX10_canBe_119 ?_
        refine x_bipush (pc := 120) (w := 10) dX10_canBe_120 bi_10 ?_
        refine x_aload_n (pc := 122) 0 dX10_canBe_122 rfl rfl ?_
        refine x_get (pc := 123) dX10_canBe_123 lk_X10_7 gm_0 rfl rfl ?_
        refine x_bipush (pc := 126) (w := 8) dX10_canBe_126 bi_8 ?_
        refine x_ialdJ (pc := 128) 8 dX10_canBe_128 gm_1 (by decide) tn_8 ?_
        refine x_imul (pc := 129) dX10_canBe_129 ?_
        refine x_iadd (pc := 130) dX10_canBe_130 ?_
        refine x_aload_n (pc := 131) 0 dX10_canBe_131 rfl rfl ?_
        refine x_get (pc := 132) dX10_canBe_132 lk_X10_7 gm_0 rfl rfl ?_
        refine x_bipush (pc := 135) (w := 9) dX10_canBe_135 bi_9 ?_
        refine x_ialdJ (pc := 137) 9 dX10_canBe_137 gm_1 (by decide) tn_9 ?_
        refine x_iadd (pc := 138) dX10_canBe_138 ?_
        refine x_istore (pc := 139) 4 [(4, .int ((((1000 * (M_26 1 7)) + (100 * (M_26 1 10))) + (10 * (M_26 1 8))) + (M_26 1 9))), (3, .int (p3 + 1)), (0, .ref (ad 0)), (1, .int p1), (2, .int p2), (5, .int p5)] dX10_canBe_139 (by decide) rfl ?_
        refine x_iinc (pc := 141) (p5 + (-1)) [(5, .int (p5 + (-1))), (4, .int ((((1000 * (M_26 1 7)) + (100 * (M_26 1 10))) + (10 * (M_26 1 8))) + (M_26 1 9))), (3, .int (p3 + 1)), (0, .ref (ad 0)), (1, .int p1), (2, .int p2)] dX10_canBe_141 rfl (congrArg (fun z => p5 + z) ic_m1) (by decide) rfl ?_
        refine x_goto (pc := 144) 76 dX10_canBe_144 (by decide) ?_
        refine x_lv [3, 4, 5, 2, 1, 0] [(0, .ref (ad 0)), (1, .int p1), (2, .int p2), (3, .int (p3 + 1)), (4, .int ((((1000 * (M_26 1 7)) + (100 * (M_26 1 10))) + (10 * (M_26 1 8))) + (M_26 1 9))), (5, .int (p5 + (-1)))] rfl ?_
        exact ih p1 p2 (p3 + 1) ((((1000 * (M_26 1 7)) + (100 * (M_26 1 10))) + (10 * (M_26 1 8))) + (M_26 1 9)) (p5 + (-1)) _ _ _ h
def fm_canBe (p1 : Int32) (p2 : Int32) (M : aw_M) : Option (Int32 × aw_M) :=
  aw_bi (fm_isSheet p1 M) fun r_2 M_3 => (
  if r_2 = 0 then (
    fm_errs (-1000000001) M_3
  ) else (
    aw_bi (fm_in p2 0 1 M_3) fun r_6 M_7 => (
    if r_6 = 0 then (
      fm_errs (-1000000001) M_7
    ) else (
      if aw_in p1 4 then none else (
      if (M_7 6 p1.toNatClampNeg) = 0 then (
        fm_errs (-1000000002) M_7
      ) else (
        if aw_in p1 4 then none else (
        if (M_7 7 p1.toNatClampNeg) = (M_7 1 2) then (
          aw_bv (fm_moveAll 1 3 M_7) fun M_14 => (
          fm_canBe_L76  2000 p1 p2 0 0 599 M_14
          )
        ) else (
          fm_errs (-1000000002) M_7
        )
        )
      )
      )
    )
    )
  )
  )
set_option maxRecDepth 20000 in
theorem tm_canBe {l : Launch} {D : va_G} {cy : Nat → ClassId} {ad : Nat → Nat} {A : Nat → Prop} (d : Nat) (hd : 108 ≤ d) (p1 : Int32) (p2 : Int32) (M : aw_M) (r : Int32) (M1 : aw_M) (h : fm_canBe p1 p2 M = some (r, M1)) : AX l D cy ad A gm_G yX10_canBe cX10_canBe 6 (some .int) d [.ref (ad 0), .int p1, .int p2] M (some (.int r)) M1 := by
  have hd1 : (d - 1) + 1 ≤ d := by omega
  have hm1 : 1 ≤ d := by omega
  have hh_0 : 0 ≤ d - 1 := by omega
  have hh_1 : 1 ≤ d - 1 := by omega
  have hh_107 : 107 ≤ d - 1 := by omega
  refine AX.of (own := RX10) (by decide +kernel) rfl (Nat.le_of_ble_eq_true rfl) ?_
  unfold fm_canBe at h
  show AW l D cy ad A gm_G RX10 cX10_canBe 6 (some .int) d (some (.int r)) M1 0 [(0, .ref (ad 0)), (1, .int p1), (2, .int p2)] [] M
  refine x_iload_n (pc := 0) 1 dX10_canBe_0 rfl rfl ?_
  obtain ⟨r_2, M_3, e_1, h⟩ := aw_bi_e h
  refine x_callS (pc := 1) (As := [.int p1]) (rest := []) (st' := [.int r_2]) (w := (some (.int r_2))) dX10_canBe_1 cw_X10_191 hd1 rfl rfl (Nat.le_of_ble_eq_true rfl) (tm_isSheet (d - 1) hh_1 p1 _ _ _ e_1) rfl ?_
  refine x_if_eq (pc := 4) 16 dX10_canBe_4 (by decide) (fun c_4 => ?_) (fun c_4 => ?_)
  · have h := aw_pos h c_4
    refine x_aload_n (pc := 16) 0 dX10_canBe_16 rfl rfl ?_
    refine x_ldc (pc := 17) dX10_canBe_17 wk_X10_48 ?_
    refine x_callV (pc := 19) (As := [.int (-1000000001)]) (rest := []) (st' := [.int r]) (w := (some (.int r))) dX10_canBe_19 cw_X10_49 hd1 gm_0 rfl rfl rfl (Nat.le_of_ble_eq_true rfl) (tm_errs (d - 1) hh_0 (-1000000001) _ _ _ h) rfl ?_
    exact x_iret (pc := 22) dX10_canBe_22
  · have h := aw_neg h c_4
    refine x_iload_n (pc := 7) 2 dX10_canBe_7 rfl rfl ?_
    refine x_iconst (pc := 8) (w := 0) dX10_canBe_8 ic_0 ?_
    refine x_iconst (pc := 9) (w := 1) dX10_canBe_9 ic_1 ?_
    obtain ⟨r_6, M_7, e_5, h⟩ := aw_bi_e h
    refine x_callS (pc := 10) (As := [.int p2, .int 0, .int 1]) (rest := []) (st' := [.int r_6]) (w := (some (.int r_6))) dX10_canBe_10 cw_X10_44 hd1 rfl rfl (Nat.le_of_ble_eq_true rfl) (tm_in (d - 1) hh_0 p2 0 1 _ _ _ e_5) rfl ?_
    refine x_if_ne (pc := 13) 23 dX10_canBe_13 (by decide) (fun c_8 => ?_) (fun c_8 => ?_)
    · have h := aw_neg h c_8
      refine x_aload_n (pc := 23) 0 dX10_canBe_23 rfl rfl ?_
      refine x_get (pc := 24) dX10_canBe_24 lk_X10_25 gm_0 rfl rfl ?_
      refine x_iload_n (pc := 27) 1 dX10_canBe_27 rfl rfl ?_
      obtain ⟨c_9, h⟩ := aw_ck h
      refine x_iald (pc := 28) dX10_canBe_28 gm_6 c_9 ?_
      refine x_if_eq (pc := 29) 47 dX10_canBe_29 (by decide) (fun c_10 => ?_) (fun c_10 => ?_)
      · have h := aw_pos h c_10
        refine x_aload_n (pc := 47) 0 dX10_canBe_47 rfl rfl ?_
        refine x_ldc (pc := 48) dX10_canBe_48 wk_X10_187 ?_
        refine x_callV (pc := 50) (As := [.int (-1000000002)]) (rest := []) (st' := [.int r]) (w := (some (.int r))) dX10_canBe_50 cw_X10_49 hd1 gm_0 rfl rfl rfl (Nat.le_of_ble_eq_true rfl) (tm_errs (d - 1) hh_0 (-1000000002) _ _ _ h) rfl ?_
        exact x_iret (pc := 53) dX10_canBe_53
      · have h := aw_neg h c_10
        refine x_aload_n (pc := 32) 0 dX10_canBe_32 rfl rfl ?_
        refine x_get (pc := 33) dX10_canBe_33 lk_X10_28 gm_0 rfl rfl ?_
        refine x_iload_n (pc := 36) 1 dX10_canBe_36 rfl rfl ?_
        obtain ⟨c_11, h⟩ := aw_ck h
        refine x_iald (pc := 37) dX10_canBe_37 gm_7 c_11 ?_
        refine x_aload_n (pc := 38) 0 dX10_canBe_38 rfl rfl ?_
        refine x_get (pc := 39) dX10_canBe_39 lk_X10_7 gm_0 rfl rfl ?_
        refine x_iconst (pc := 42) (w := 2) dX10_canBe_42 ic_2 ?_
        refine x_ialdJ (pc := 43) 2 dX10_canBe_43 gm_1 (by decide) tn_2 ?_
        refine x_icmp_eq (pc := 44) 54 dX10_canBe_44 (by decide) (fun c_12 => ?_) (fun c_12 => ?_)
        · have h := aw_pos h c_12
          refine x_iconst (pc := 54) (w := 0) dX10_canBe_54 ic_0 ?_
          refine x_istore_n (pc := 55) 3 [(3, .int 0), (0, .ref (ad 0)), (1, .int p1), (2, .int p2)] dX10_canBe_55 rfl (by decide) rfl ?_
          refine x_iconst (pc := 56) (w := 0) dX10_canBe_56 ic_0 ?_
          refine x_istore (pc := 57) 4 [(4, .int 0), (3, .int 0), (0, .ref (ad 0)), (1, .int p1), (2, .int p2)] dX10_canBe_57 (by decide) rfl ?_
          refine x_aload_n (pc := 59) 0 dX10_canBe_59 rfl rfl ?_
          refine x_aload_n (pc := 60) 0 dX10_canBe_60 rfl rfl ?_
          refine x_get (pc := 61) dX10_canBe_61 lk_X10_7 gm_0 rfl rfl ?_
          refine x_aload_n (pc := 64) 0 dX10_canBe_64 rfl rfl ?_
          refine x_get (pc := 65) dX10_canBe_65 lk_X10_16 gm_0 rfl rfl ?_
          obtain ⟨M_14, e_13, h⟩ := aw_bv_e h
          refine x_callV (pc := 68) (As := [.ref (ad 1), .ref (ad 3)]) (rest := []) (st' := []) (w := none) dX10_canBe_68 cw_X10_158 hd1 gm_0 rfl rfl rfl (Nat.le_of_ble_eq_true rfl) (tm_moveAll (d - 1) hh_0 1 gm_1 3 gm_3 _  _ e_13) rfl ?_
          refine x_sipush (pc := 71) (w := 599) dX10_canBe_71 si_599 ?_
          refine x_istore (pc := 74) 5 [(5, .int 599), (4, .int 0), (3, .int 0), (0, .ref (ad 0)), (1, .int p1), (2, .int p2)] dX10_canBe_74 (by decide) rfl ?_
          refine x_lv [3, 4, 5, 2, 1, 0] [(0, .ref (ad 0)), (1, .int p1), (2, .int p2), (3, .int 0), (4, .int 0), (5, .int 599)] rfl ?_
          exact tm_canBe_L76 d hd  2000 p1 p2 0 0 599 _ _ _ h
        · have h := aw_neg h c_12
          refine x_aload_n (pc := 47) 0 dX10_canBe_47 rfl rfl ?_
          refine x_ldc (pc := 48) dX10_canBe_48 wk_X10_187 ?_
          refine x_callV (pc := 50) (As := [.int (-1000000002)]) (rest := []) (st' := [.int r]) (w := (some (.int r))) dX10_canBe_50 cw_X10_49 hd1 gm_0 rfl rfl rfl (Nat.le_of_ble_eq_true rfl) (tm_errs (d - 1) hh_0 (-1000000002) _ _ _ h) rfl ?_
          exact x_iret (pc := 53) dX10_canBe_53
    · have h := aw_pos h c_8
      refine x_aload_n (pc := 16) 0 dX10_canBe_16 rfl rfl ?_
      refine x_ldc (pc := 17) dX10_canBe_17 wk_X10_48 ?_
      refine x_callV (pc := 19) (As := [.int (-1000000001)]) (rest := []) (st' := [.int r]) (w := (some (.int r))) dX10_canBe_19 cw_X10_49 hd1 gm_0 rfl rfl rfl (Nat.le_of_ble_eq_true rfl) (tm_errs (d - 1) hh_0 (-1000000001) _ _ _ h) rfl ?_
      exact x_iret (pc := 22) dX10_canBe_22
