def fm_sum_J38 (g_tm_factor : aw_M → Option (Int32 × aw_M)) (K5 : Int32 → aw_M → Option (Int32 × aw_M)) (p1 : Int32) (M : aw_M) : Option (Int32 × aw_M) :=
    aw_bi (fm_byteAt (M 0 8) M) fun r_14 M_15 => (
    aw_bi (fm_product g_tm_factor  (aw_u M_15 0 8 ((M_15 0 8) + 1))) fun r_17 M_18 => (
    if r_14 = 43 then (
      K5 (p1 + r_17) M_18
    ) else (
      K5 (p1 - r_17) M_18
    )
    )
    )
set_option maxRecDepth 20000 in
theorem tm_sum_J38 {l : Launch} {D : va_G} {cy : Nat → ClassId} {ad : Nat → Nat} {A : Nat → Prop} (d0 : Nat) (g_tm_factor : aw_M → Option (Int32 × aw_M)) (hg_tm_factor : ∀ (d : Nat), d0 + 0 ≤ d → ∀  (M : aw_M) (r : Int32) (M1 : aw_M), g_tm_factor  M = some (r, M1) → AX l D cy ad A gm_G yX10_factor cX10_factor 3 (some .int) d [.ref (ad 0)] M (some (.int r)) M1) (d : Nat) (hd : d0 + 2 ≤ d) (K5 : Int32 → aw_M → Option (Int32 × aw_M)) (hK5 : ∀ (p1 : Int32) (M : aw_M) (r : Int32) (M1 : aw_M), K5  p1 M = some (r, M1) → AW l D cy ad A gm_G RX10 cX10_sum 4 (some .int) d (some (.int r)) M1 5 [(0, .ref (ad 0)), (1, .int p1)] [] M) (p1 : Int32) (M : aw_M) (r : Int32) (M1 : aw_M) (h : fm_sum_J38 g_tm_factor K5 p1 M = some (r, M1)) : AW l D cy ad A gm_G RX10 cX10_sum 4 (some .int) d (some (.int r)) M1 38 [(0, .ref (ad 0)), (1, .int p1)] [] M := by
  have hd1 : (d - 1) + 1 ≤ d := by omega
  have hm1 : 1 ≤ d := by omega
  have hh_0 : 0 ≤ d - 1 := by omega
  have ho_1 : d0 + 1 ≤ d - 1 := by omega
  unfold fm_sum_J38 at h
  refine x_aload_n (pc := 38) 0 dX10_sum_38 rfl rfl ?_
  refine x_aload_n (pc := 39) 0 dX10_sum_39 rfl rfl ?_
  refine x_get (pc := 40) dX10_sum_40 lk_X10_96 gm_0 rfl rfl ?_
  obtain ⟨r_14, M_15, e_13, h⟩ := aw_bi_e h
  refine x_callV (pc := 43) (As := [.int (M 0 8)]) (rest := []) (st' := [.int r_14]) (w := (some (.int r_14))) dX10_sum_43 cw_X10_99 hd1 gm_0 rfl rfl rfl (Nat.le_of_ble_eq_true rfl) (tm_byteAt (d - 1) hh_0 (M 0 8) _ _ _ e_13) rfl ?_
  refine x_istore_n (pc := 46) 2 [(2, .int r_14), (0, .ref (ad 0)), (1, .int p1)] dX10_sum_46 rfl (by decide) rfl ?_
  refine x_aload_n (pc := 47) 0 dX10_sum_47 rfl rfl ?_
  refine x_dup (pc := 48) dX10_sum_48 rfl ?_
  refine x_get (pc := 49) dX10_sum_49 lk_X10_96 gm_0 rfl rfl ?_
  refine x_iconst (pc := 52) (w := 1) dX10_sum_52 ic_1 ?_
  refine x_iadd (pc := 53) dX10_sum_53 ?_
  refine x_put (pc := 54) (x := ((M_15 0 8) + 1)) dX10_sum_54 lk_X10_96 lp_X10_8 gm_0 rfl rfl rfl rfl ?_
  refine x_aload_n (pc := 57) 0 dX10_sum_57 rfl rfl ?_
  obtain ⟨r_17, M_18, e_16, h⟩ := aw_bi_e h
  refine x_callV (pc := 58) (As := []) (rest := []) (st' := [.int r_17]) (w := (some (.int r_17))) dX10_sum_58 cw_X10_133 hd1 gm_0 rfl rfl rfl (Nat.le_of_ble_eq_true rfl) (tm_product d0 g_tm_factor hg_tm_factor (d - 1) ho_1  _ _ _ e_16) rfl ?_
  refine x_istore_n (pc := 61) 3 [(3, .int r_17), (2, .int r_14), (0, .ref (ad 0)), (1, .int p1)] dX10_sum_61 rfl (by decide) rfl ?_
  refine x_iload_n (pc := 62) 2 dX10_sum_62 rfl rfl ?_
  refine x_bipush (pc := 63) (w := 43) dX10_sum_63 bi_43 ?_
  refine x_icmp_ne (pc := 65) 74 dX10_sum_65 (by decide) (fun c_19 => ?_) (fun c_19 => ?_)
  · have h := aw_neg h c_19
    refine x_iload_n (pc := 74) 1 dX10_sum_74 rfl rfl ?_
    refine x_iload_n (pc := 75) 3 dX10_sum_75 rfl rfl ?_
    refine x_isub (pc := 76) dX10_sum_76 ?_
    refine x_istore_n (pc := 77) 1 [(1, .int (p1 - r_17)), (3, .int r_17), (2, .int r_14), (0, .ref (ad 0))] dX10_sum_77 rfl (by decide) rfl ?_
    refine x_goto (pc := 78) 5 dX10_sum_78 (by decide) ?_
    refine x_lv [3, 0] [(0, .ref (ad 0)), (1, .int (p1 - r_17))] rfl ?_
    exact hK5 (p1 - r_17) _ _ _ h
  · have h := aw_pos h c_19
    refine x_iload_n (pc := 68) 1 dX10_sum_68 rfl rfl ?_
    refine x_iload_n (pc := 69) 3 dX10_sum_69 rfl rfl ?_
    refine x_iadd (pc := 70) dX10_sum_70 ?_
    refine x_goto (pc := 71) 77 dX10_sum_71 (by decide) ?_
    refine x_istore_n (pc := 77) 1 [(1, .int (p1 + r_17)), (3, .int r_17), (2, .int r_14), (0, .ref (ad 0))] dX10_sum_77 rfl (by decide) rfl ?_
    refine x_goto (pc := 78) 5 dX10_sum_78 (by decide) ?_
    refine x_lv [3, 0] [(0, .ref (ad 0)), (1, .int (p1 + r_17))] rfl ?_
    exact hK5 (p1 + r_17) _ _ _ h
def fm_sum_L5 (g_tm_factor : aw_M → Option (Int32 × aw_M)) : Nat → Int32 → aw_M → Option (Int32 × aw_M)
  | 0, _, _ => none
  | n + 1, p1, M =>
    if (M 0 14) = 0 then (
      some (p1, M)
    ) else (
      aw_bi (fm_byteAt (M 0 8) M) fun r_6 M_7 => (
      if r_6 = 43 then (
        fm_sum_J38 g_tm_factor (fm_sum_L5 g_tm_factor n) p1 M_7
      ) else (
        aw_bi (fm_byteAt (M_7 0 8) M_7) fun r_10 M_11 => (
        if r_10 = 45 then (
          fm_sum_J38 g_tm_factor (fm_sum_L5 g_tm_factor n) p1 M_11
        ) else (
          some (p1, M_11)
        )
        )
      )
      )
    )
theorem fm_sum_L5_s (g_tm_factor : aw_M → Option (Int32 × aw_M)) (n : Nat) (p1 : Int32) (M : aw_M) : fm_sum_L5 g_tm_factor (n + 1) p1 M = (
    if (M 0 14) = 0 then (
      some (p1, M)
    ) else (
      aw_bi (fm_byteAt (M 0 8) M) fun r_6 M_7 => (
      if r_6 = 43 then (
        fm_sum_J38 g_tm_factor (fm_sum_L5 g_tm_factor n) p1 M_7
      ) else (
        aw_bi (fm_byteAt (M_7 0 8) M_7) fun r_10 M_11 => (
        if r_10 = 45 then (
          fm_sum_J38 g_tm_factor (fm_sum_L5 g_tm_factor n) p1 M_11
        ) else (
          some (p1, M_11)
        )
        )
      )
      )
    )
    ) := rfl
set_option maxRecDepth 20000 in
theorem tm_sum_L5 {l : Launch} {D : va_G} {cy : Nat → ClassId} {ad : Nat → Nat} {A : Nat → Prop} (d0 : Nat) (g_tm_factor : aw_M → Option (Int32 × aw_M)) (hg_tm_factor : ∀ (d : Nat), d0 + 0 ≤ d → ∀  (M : aw_M) (r : Int32) (M1 : aw_M), g_tm_factor  M = some (r, M1) → AX l D cy ad A gm_G yX10_factor cX10_factor 3 (some .int) d [.ref (ad 0)] M (some (.int r)) M1) (d : Nat) (hd : d0 + 2 ≤ d) : ∀ (n : Nat) (p1 : Int32) (M : aw_M) (r : Int32) (M1 : aw_M), fm_sum_L5 g_tm_factor n p1 M = some (r, M1) → AW l D cy ad A gm_G RX10 cX10_sum 4 (some .int) d (some (.int r)) M1 5 [(0, .ref (ad 0)), (1, .int p1)] [] M := by
  have hd1 : (d - 1) + 1 ≤ d := by omega
  have hm1 : 1 ≤ d := by omega
  have hh_0 : 0 ≤ d - 1 := by omega
  have ho_1 : d0 + 1 ≤ d - 1 := by omega
  intro n
  induction n with
  | zero => intro p1 M r M1 h; cases h
  | succ n ih =>
    intro p1 M r M1 h
    rw [fm_sum_L5_s] at h
    refine x_aload_n (pc := 5) 0 dX10_sum_5 rfl rfl ?_
    refine x_get (pc := 6) dX10_sum_6 lk_X10_92 gm_0 rfl rfl ?_
    refine x_if_eq (pc := 9) 81 dX10_sum_9 (by decide) (fun c_4 => ?_) (fun c_4 => ?_)
    · have h := aw_pos h c_4
      refine x_iload_n (pc := 81) 1 dX10_sum_81 rfl rfl ?_
      obtain ⟨rfl, rfl⟩ := aw_so h
      exact x_iret (pc := 82) dX10_sum_82
    · have h := aw_neg h c_4
      refine x_aload_n (pc := 12) 0 dX10_sum_12 rfl rfl ?_
      refine x_aload_n (pc := 13) 0 dX10_sum_13 rfl rfl ?_
      refine x_get (pc := 14) dX10_sum_14 lk_X10_96 gm_0 rfl rfl ?_
      obtain ⟨r_6, M_7, e_5, h⟩ := aw_bi_e h
      refine x_callV (pc := 17) (As := [.int (M 0 8)]) (rest := []) (st' := [.int r_6]) (w := (some (.int r_6))) dX10_sum_17 cw_X10_99 hd1 gm_0 rfl rfl rfl (Nat.le_of_ble_eq_true rfl) (tm_byteAt (d - 1) hh_0 (M 0 8) _ _ _ e_5) rfl ?_
      refine x_bipush (pc := 20) (w := 43) dX10_sum_20 bi_43 ?_
      refine x_icmp_eq (pc := 22) 38 dX10_sum_22 (by decide) (fun c_8 => ?_) (fun c_8 => ?_)
      · have h := aw_pos h c_8
        refine x_lv [0, 1] [(0, .ref (ad 0)), (1, .int p1)] rfl ?_
        exact tm_sum_J38 d0  g_tm_factor hg_tm_factor d hd _ ih p1 _ _ _ h
      · have h := aw_neg h c_8
        refine x_aload_n (pc := 25) 0 dX10_sum_25 rfl rfl ?_
        refine x_aload_n (pc := 26) 0 dX10_sum_26 rfl rfl ?_
        refine x_get (pc := 27) dX10_sum_27 lk_X10_96 gm_0 rfl rfl ?_
        obtain ⟨r_10, M_11, e_9, h⟩ := aw_bi_e h
        refine x_callV (pc := 30) (As := [.int (M_7 0 8)]) (rest := []) (st' := [.int r_10]) (w := (some (.int r_10))) dX10_sum_30 cw_X10_99 hd1 gm_0 rfl rfl rfl (Nat.le_of_ble_eq_true rfl) (tm_byteAt (d - 1) hh_0 (M_7 0 8) _ _ _ e_9) rfl ?_
        refine x_bipush (pc := 33) (w := 45) dX10_sum_33 bi_45 ?_
        refine x_icmp_ne (pc := 35) 81 dX10_sum_35 (by decide) (fun c_12 => ?_) (fun c_12 => ?_)
        · have h := aw_neg h c_12
          refine x_iload_n (pc := 81) 1 dX10_sum_81 rfl rfl ?_
          obtain ⟨rfl, rfl⟩ := aw_so h
          exact x_iret (pc := 82) dX10_sum_82
        · have h := aw_pos h c_12
          refine x_lv [0, 1] [(0, .ref (ad 0)), (1, .int p1)] rfl ?_
          exact tm_sum_J38 d0  g_tm_factor hg_tm_factor d hd _ ih p1 _ _ _ h
def fm_sum (g_tm_factor : aw_M → Option (Int32 × aw_M))  (M : aw_M) : Option (Int32 × aw_M) :=
  aw_bi (fm_product g_tm_factor  M) fun r_2 M_3 => (
  fm_sum_L5 g_tm_factor  2000 r_2 M_3
  )
set_option maxRecDepth 20000 in
theorem tm_sum {l : Launch} {D : va_G} {cy : Nat → ClassId} {ad : Nat → Nat} {A : Nat → Prop} (d0 : Nat) (g_tm_factor : aw_M → Option (Int32 × aw_M)) (hg_tm_factor : ∀ (d : Nat), d0 + 0 ≤ d → ∀  (M : aw_M) (r : Int32) (M1 : aw_M), g_tm_factor  M = some (r, M1) → AX l D cy ad A gm_G yX10_factor cX10_factor 3 (some .int) d [.ref (ad 0)] M (some (.int r)) M1) (d : Nat) (hd : d0 + 2 ≤ d)  (M : aw_M) (r : Int32) (M1 : aw_M) (h : fm_sum g_tm_factor  M = some (r, M1)) : AX l D cy ad A gm_G yX10_sum cX10_sum 4 (some .int) d [.ref (ad 0)] M (some (.int r)) M1 := by
  have hd1 : (d - 1) + 1 ≤ d := by omega
  have hm1 : 1 ≤ d := by omega
  have hh_0 : 0 ≤ d - 1 := by omega
  have ho_1 : d0 + 1 ≤ d - 1 := by omega
  refine AX.of (own := RX10) (by decide +kernel) rfl (Nat.le_of_ble_eq_true rfl) ?_
  unfold fm_sum at h
  show AW l D cy ad A gm_G RX10 cX10_sum 4 (some .int) d (some (.int r)) M1 0 [(0, .ref (ad 0))] [] M
  refine x_aload_n (pc := 0) 0 dX10_sum_0 rfl rfl ?_
  obtain ⟨r_2, M_3, e_1, h⟩ := aw_bi_e h
  refine x_callV (pc := 1) (As := []) (rest := []) (st' := [.int r_2]) (w := (some (.int r_2))) dX10_sum_1 cw_X10_133 hd1 gm_0 rfl rfl rfl (Nat.le_of_ble_eq_true rfl) (tm_product d0 g_tm_factor hg_tm_factor (d - 1) ho_1  _ _ _ e_1) rfl ?_
  refine x_istore_n (pc := 4) 1 [(1, .int r_2), (0, .ref (ad 0))] dX10_sum_4 rfl (by decide) rfl ?_
  refine x_lv [1, 0] [(0, .ref (ad 0)), (1, .int r_2)] rfl ?_
  exact tm_sum_L5 d0  g_tm_factor hg_tm_factor d hd  2000 r_2 _ _ _ h
def fm_compared_J108 (g_tm_factor : aw_M → Option (Int32 × aw_M)) (p100 : Int32) (M : aw_M) : Option (Int32 × aw_M) :=
    if p100 = 0 then (
      some (0, M)
    ) else (
      some (1, M)
    )
set_option maxRecDepth 20000 in
theorem tm_compared_J108 {l : Launch} {D : va_G} {cy : Nat → ClassId} {ad : Nat → Nat} {A : Nat → Prop} (d0 : Nat) (g_tm_factor : aw_M → Option (Int32 × aw_M)) (hg_tm_factor : ∀ (d : Nat), d0 + 0 ≤ d → ∀  (M : aw_M) (r : Int32) (M1 : aw_M), g_tm_factor  M = some (r, M1) → AX l D cy ad A gm_G yX10_factor cX10_factor 3 (some .int) d [.ref (ad 0)] M (some (.int r)) M1) (d : Nat) (hd : d0 + 3 ≤ d) (p100 : Int32) (M : aw_M) (r : Int32) (M1 : aw_M) (h : fm_compared_J108 g_tm_factor p100 M = some (r, M1)) : AW l D cy ad A gm_G RX10 cX10_compared 5 (some .int) d (some (.int r)) M1 108 [] [.int p100] M := by
  have hd1 : (d - 1) + 1 ≤ d := by omega
  have hm1 : 1 ≤ d := by omega
  have hh_0 : 0 ≤ d - 1 := by omega
  have ho_2 : d0 + 2 ≤ d - 1 := by omega
  unfold fm_compared_J108 at h
  refine x_istore (pc := 108) 4 [(4, .int p100)] dX10_compared_108 (by decide) rfl ?_
  refine x_iload (pc := 110) dX10_compared_110 rfl ?_
  refine x_if_eq (pc := 112) 119 dX10_compared_112 (by decide) (fun c_22 => ?_) (fun c_22 => ?_)
  · have h := aw_pos h c_22
    refine x_iconst (pc := 119) (w := 0) dX10_compared_119 ic_0 ?_
    obtain ⟨rfl, rfl⟩ := aw_so h
    exact x_iret (pc := 120) dX10_compared_120
  · have h := aw_neg h c_22
    refine x_iconst (pc := 115) (w := 1) dX10_compared_115 ic_1 ?_
    refine x_goto (pc := 116) 120 dX10_compared_116 (by decide) ?_
    obtain ⟨rfl, rfl⟩ := aw_so h
    exact x_iret (pc := 120) dX10_compared_120
def fm_compared_J45 (g_tm_factor : aw_M → Option (Int32 × aw_M)) (p1 : Int32) (p2 : Int32) (M : aw_M) : Option (Int32 × aw_M) :=
    aw_bi (fm_sum g_tm_factor  (aw_u M 0 8 ((M 0 8) + 1))) fun r_15 M_16 => (
    if p2 = 60 then (
      if r_15 ≤ p1 then (
        fm_compared_J108 g_tm_factor  0 M_16
      ) else (
        fm_compared_J108 g_tm_factor  1 M_16
      )
    ) else (
      if p2 = 61 then (
        if p1 = r_15 then (
          fm_compared_J108 g_tm_factor  1 M_16
        ) else (
          fm_compared_J108 g_tm_factor  0 M_16
        )
      ) else (
        if p1 ≤ r_15 then (
          fm_compared_J108 g_tm_factor  0 M_16
        ) else (
          fm_compared_J108 g_tm_factor  1 M_16
        )
      )
    )
    )
set_option maxRecDepth 20000 in
theorem tm_compared_J45 {l : Launch} {D : va_G} {cy : Nat → ClassId} {ad : Nat → Nat} {A : Nat → Prop} (d0 : Nat) (g_tm_factor : aw_M → Option (Int32 × aw_M)) (hg_tm_factor : ∀ (d : Nat), d0 + 0 ≤ d → ∀  (M : aw_M) (r : Int32) (M1 : aw_M), g_tm_factor  M = some (r, M1) → AX l D cy ad A gm_G yX10_factor cX10_factor 3 (some .int) d [.ref (ad 0)] M (some (.int r)) M1) (d : Nat) (hd : d0 + 3 ≤ d) (p1 : Int32) (p2 : Int32) (M : aw_M) (r : Int32) (M1 : aw_M) (h : fm_compared_J45 g_tm_factor p1 p2 M = some (r, M1)) : AW l D cy ad A gm_G RX10 cX10_compared 5 (some .int) d (some (.int r)) M1 45 [(0, .ref (ad 0)), (1, .int p1), (2, .int p2)] [] M := by
  have hd1 : (d - 1) + 1 ≤ d := by omega
  have hm1 : 1 ≤ d := by omega
  have hh_0 : 0 ≤ d - 1 := by omega
  have ho_2 : d0 + 2 ≤ d - 1 := by omega
  unfold fm_compared_J45 at h
  refine x_aload_n (pc := 45) 0 dX10_compared_45 rfl rfl ?_
  refine x_dup (pc := 46) dX10_compared_46 rfl ?_
  refine x_get (pc := 47) dX10_compared_47 lk_X10_96 gm_0 rfl rfl ?_
  refine x_iconst (pc := 50) (w := 1) dX10_compared_50 ic_1 ?_
  refine x_iadd (pc := 51) dX10_compared_51 ?_
  refine x_put (pc := 52) (x := ((M 0 8) + 1)) dX10_compared_52 lk_X10_96 lp_X10_8 gm_0 rfl rfl rfl rfl ?_
  refine x_aload_n (pc := 55) 0 dX10_compared_55 rfl rfl ?_
  obtain ⟨r_15, M_16, e_14, h⟩ := aw_bi_e h
  refine x_callV (pc := 56) (As := []) (rest := []) (st' := [.int r_15]) (w := (some (.int r_15))) dX10_compared_56 cw_X10_136 hd1 gm_0 rfl rfl rfl (Nat.le_of_ble_eq_true rfl) (tm_sum d0 g_tm_factor hg_tm_factor (d - 1) ho_2  _ _ _ e_14) rfl ?_
  refine x_istore_n (pc := 59) 3 [(3, .int r_15), (0, .ref (ad 0)), (1, .int p1), (2, .int p2)] dX10_compared_59 rfl (by decide) rfl ?_
  refine x_iload_n (pc := 60) 2 dX10_compared_60 rfl rfl ?_
  refine x_bipush (pc := 61) (w := 60) dX10_compared_61 bi_60 ?_
  refine x_icmp_ne (pc := 63) 79 dX10_compared_63 (by decide) (fun c_17 => ?_) (fun c_17 => ?_)
  · have h := aw_neg h c_17
    refine x_iload_n (pc := 79) 2 dX10_compared_79 rfl rfl ?_
    refine x_bipush (pc := 80) (w := 61) dX10_compared_80 bi_61 ?_
    refine x_icmp_ne (pc := 82) 98 dX10_compared_82 (by decide) (fun c_18 => ?_) (fun c_18 => ?_)
    · have h := aw_neg h c_18
      refine x_iload_n (pc := 98) 1 dX10_compared_98 rfl rfl ?_
      refine x_iload_n (pc := 99) 3 dX10_compared_99 rfl rfl ?_
      refine x_icmp_le (pc := 100) 107 dX10_compared_100 (by decide) (fun c_19 => ?_) (fun c_19 => ?_)
      · have h := aw_pos h c_19
        refine x_iconst (pc := 107) (w := 0) dX10_compared_107 ic_0 ?_
        refine x_lv [] [] rfl ?_
        exact tm_compared_J108 d0  g_tm_factor hg_tm_factor d hd  0 _ _ _ h
      · have h := aw_neg h c_19
        refine x_iconst (pc := 103) (w := 1) dX10_compared_103 ic_1 ?_
        refine x_goto (pc := 104) 108 dX10_compared_104 (by decide) ?_
        refine x_lv [] [] rfl ?_
        exact tm_compared_J108 d0  g_tm_factor hg_tm_factor d hd  1 _ _ _ h
    · have h := aw_pos h c_18
      refine x_iload_n (pc := 85) 1 dX10_compared_85 rfl rfl ?_
      refine x_iload_n (pc := 86) 3 dX10_compared_86 rfl rfl ?_
      refine x_icmp_ne (pc := 87) 94 dX10_compared_87 (by decide) (fun c_20 => ?_) (fun c_20 => ?_)
      · have h := aw_neg h c_20
        refine x_iconst (pc := 94) (w := 0) dX10_compared_94 ic_0 ?_
        refine x_goto (pc := 95) 108 dX10_compared_95 (by decide) ?_
        refine x_lv [] [] rfl ?_
        exact tm_compared_J108 d0  g_tm_factor hg_tm_factor d hd  0 _ _ _ h
      · have h := aw_pos h c_20
        refine x_iconst (pc := 90) (w := 1) dX10_compared_90 ic_1 ?_
        refine x_goto (pc := 91) 108 dX10_compared_91 (by decide) ?_
        refine x_lv [] [] rfl ?_
        exact tm_compared_J108 d0  g_tm_factor hg_tm_factor d hd  1 _ _ _ h
  · have h := aw_pos h c_17
    refine x_iload_n (pc := 66) 1 dX10_compared_66 rfl rfl ?_
    refine x_iload_n (pc := 67) 3 dX10_compared_67 rfl rfl ?_
    refine x_icmp_ge (pc := 68) 75 dX10_compared_68 (by decide) (fun c_21 => ?_) (fun c_21 => ?_)
    · have h := aw_pos h c_21
      refine x_iconst (pc := 75) (w := 0) dX10_compared_75 ic_0 ?_
      refine x_goto (pc := 76) 108 dX10_compared_76 (by decide) ?_
      refine x_lv [] [] rfl ?_
      exact tm_compared_J108 d0  g_tm_factor hg_tm_factor d hd  0 _ _ _ h
    · have h := aw_neg h c_21
      refine x_iconst (pc := 71) (w := 1) dX10_compared_71 ic_1 ?_
      refine x_goto (pc := 72) 108 dX10_compared_72 (by decide) ?_
      refine x_lv [] [] rfl ?_
      exact tm_compared_J108 d0  g_tm_factor hg_tm_factor d hd  1 _ _ _ h
def fm_compared (g_tm_factor : aw_M → Option (Int32 × aw_M))  (M : aw_M) : Option (Int32 × aw_M) :=
  aw_bi (fm_sum g_tm_factor  M) fun r_2 M_3 => (
  if (M_3 0 14) = 0 then (
    if ((-1) : Int32) = 60 then (
      fm_compared_J45 g_tm_factor  r_2 (-1) M_3
    ) else (
      if ((-1) : Int32) = 61 then (
        fm_compared_J45 g_tm_factor  r_2 (-1) M_3
      ) else (
        if ((-1) : Int32) = 62 then (
          fm_compared_J45 g_tm_factor  r_2 (-1) M_3
        ) else (
          some (r_2, M_3)
        )
      )
    )
  ) else (
    aw_bi (fm_byteAt (M_3 0 8) M_3) fun r_9 M_10 => (
    if r_9 = 60 then (
      fm_compared_J45 g_tm_factor  r_2 r_9 M_10
    ) else (
      if r_9 = 61 then (
        fm_compared_J45 g_tm_factor  r_2 r_9 M_10
      ) else (
        if r_9 = 62 then (
          fm_compared_J45 g_tm_factor  r_2 r_9 M_10
        ) else (
          some (r_2, M_10)
        )
      )
    )
    )
  )
  )
set_option maxRecDepth 20000 in
theorem tm_compared {l : Launch} {D : va_G} {cy : Nat → ClassId} {ad : Nat → Nat} {A : Nat → Prop} (d0 : Nat) (g_tm_factor : aw_M → Option (Int32 × aw_M)) (hg_tm_factor : ∀ (d : Nat), d0 + 0 ≤ d → ∀  (M : aw_M) (r : Int32) (M1 : aw_M), g_tm_factor  M = some (r, M1) → AX l D cy ad A gm_G yX10_factor cX10_factor 3 (some .int) d [.ref (ad 0)] M (some (.int r)) M1) (d : Nat) (hd : d0 + 3 ≤ d)  (M : aw_M) (r : Int32) (M1 : aw_M) (h : fm_compared g_tm_factor  M = some (r, M1)) : AX l D cy ad A gm_G yX10_compared cX10_compared 5 (some .int) d [.ref (ad 0)] M (some (.int r)) M1 := by
  have hd1 : (d - 1) + 1 ≤ d := by omega
  have hm1 : 1 ≤ d := by omega
  have hh_0 : 0 ≤ d - 1 := by omega
  have ho_2 : d0 + 2 ≤ d - 1 := by omega
  refine AX.of (own := RX10) (by decide +kernel) rfl (Nat.le_of_ble_eq_true rfl) ?_
  unfold fm_compared at h
  show AW l D cy ad A gm_G RX10 cX10_compared 5 (some .int) d (some (.int r)) M1 0 [(0, .ref (ad 0))] [] M
  refine x_aload_n (pc := 0) 0 dX10_compared_0 rfl rfl ?_
  obtain ⟨r_2, M_3, e_1, h⟩ := aw_bi_e h
  refine x_callV (pc := 1) (As := []) (rest := []) (st' := [.int r_2]) (w := (some (.int r_2))) dX10_compared_1 cw_X10_136 hd1 gm_0 rfl rfl rfl (Nat.le_of_ble_eq_true rfl) (tm_sum d0 g_tm_factor hg_tm_factor (d - 1) ho_2  _ _ _ e_1) rfl ?_
  refine x_istore_n (pc := 4) 1 [(1, .int r_2), (0, .ref (ad 0))] dX10_compared_4 rfl (by decide) rfl ?_
  refine x_aload_n (pc := 5) 0 dX10_compared_5 rfl rfl ?_
  refine x_get (pc := 6) dX10_compared_6 lk_X10_92 gm_0 rfl rfl ?_
  refine x_if_eq (pc := 9) 23 dX10_compared_9 (by decide) (fun c_4 => ?_) (fun c_4 => ?_)
  · have h := aw_pos h c_4
    refine x_iconst (pc := 23) (w := (-1)) dX10_compared_23 ic_m1 ?_
    refine x_istore_n (pc := 24) 2 [(2, .int (-1)), (1, .int r_2), (0, .ref (ad 0))] dX10_compared_24 rfl (by decide) rfl ?_
    refine x_iload_n (pc := 25) 2 dX10_compared_25 rfl rfl ?_
    refine x_bipush (pc := 26) (w := 60) dX10_compared_26 bi_60 ?_
    refine x_icmp_eq (pc := 28) 45 dX10_compared_28 (by decide) (fun c_5 => ?_) (fun c_5 => ?_)
    · have h := aw_pos h c_5
      refine x_lv [2, 1, 0] [(0, .ref (ad 0)), (1, .int r_2), (2, .int (-1))] rfl ?_
      exact tm_compared_J45 d0  g_tm_factor hg_tm_factor d hd  r_2 (-1) _ _ _ h
    · have h := aw_neg h c_5
      refine x_iload_n (pc := 31) 2 dX10_compared_31 rfl rfl ?_
      refine x_bipush (pc := 32) (w := 61) dX10_compared_32 bi_61 ?_
      refine x_icmp_eq (pc := 34) 45 dX10_compared_34 (by decide) (fun c_6 => ?_) (fun c_6 => ?_)
      · have h := aw_pos h c_6
        refine x_lv [2, 1, 0] [(0, .ref (ad 0)), (1, .int r_2), (2, .int (-1))] rfl ?_
        exact tm_compared_J45 d0  g_tm_factor hg_tm_factor d hd  r_2 (-1) _ _ _ h
      · have h := aw_neg h c_6
        refine x_iload_n (pc := 37) 2 dX10_compared_37 rfl rfl ?_
        refine x_bipush (pc := 38) (w := 62) dX10_compared_38 bi_62 ?_
        refine x_icmp_eq (pc := 40) 45 dX10_compared_40 (by decide) (fun c_7 => ?_) (fun c_7 => ?_)
        · have h := aw_pos h c_7
          refine x_lv [2, 1, 0] [(0, .ref (ad 0)), (1, .int r_2), (2, .int (-1))] rfl ?_
          exact tm_compared_J45 d0  g_tm_factor hg_tm_factor d hd  r_2 (-1) _ _ _ h
        · have h := aw_neg h c_7
          refine x_iload_n (pc := 43) 1 dX10_compared_43 rfl rfl ?_
          obtain ⟨rfl, rfl⟩ := aw_so h
          exact x_iret (pc := 44) dX10_compared_44
  · have h := aw_neg h c_4
    refine x_aload_n (pc := 12) 0 dX10_compared_12 rfl rfl ?_
    refine x_aload_n (pc := 13) 0 dX10_compared_13 rfl rfl ?_
    refine x_get (pc := 14) dX10_compared_14 lk_X10_96 gm_0 rfl rfl ?_
    obtain ⟨r_9, M_10, e_8, h⟩ := aw_bi_e h
    refine x_callV (pc := 17) (As := [.int (M_3 0 8)]) (rest := []) (st' := [.int r_9]) (w := (some (.int r_9))) dX10_compared_17 cw_X10_99 hd1 gm_0 rfl rfl rfl (Nat.le_of_ble_eq_true rfl) (tm_byteAt (d - 1) hh_0 (M_3 0 8) _ _ _ e_8) rfl ?_
    refine x_goto (pc := 20) 24 dX10_compared_20 (by decide) ?_
    refine x_istore_n (pc := 24) 2 [(2, .int r_9), (1, .int r_2), (0, .ref (ad 0))] dX10_compared_24 rfl (by decide) rfl ?_
    refine x_iload_n (pc := 25) 2 dX10_compared_25 rfl rfl ?_
    refine x_bipush (pc := 26) (w := 60) dX10_compared_26 bi_60 ?_
    refine x_icmp_eq (pc := 28) 45 dX10_compared_28 (by decide) (fun c_11 => ?_) (fun c_11 => ?_)
    · have h := aw_pos h c_11
      refine x_lv [2, 1, 0] [(0, .ref (ad 0)), (1, .int r_2), (2, .int r_9)] rfl ?_
      exact tm_compared_J45 d0  g_tm_factor hg_tm_factor d hd  r_2 r_9 _ _ _ h
    · have h := aw_neg h c_11
      refine x_iload_n (pc := 31) 2 dX10_compared_31 rfl rfl ?_
      refine x_bipush (pc := 32) (w := 61) dX10_compared_32 bi_61 ?_
      refine x_icmp_eq (pc := 34) 45 dX10_compared_34 (by decide) (fun c_12 => ?_) (fun c_12 => ?_)
      · have h := aw_pos h c_12
        refine x_lv [2, 1, 0] [(0, .ref (ad 0)), (1, .int r_2), (2, .int r_9)] rfl ?_
        exact tm_compared_J45 d0  g_tm_factor hg_tm_factor d hd  r_2 r_9 _ _ _ h
      · have h := aw_neg h c_12
        refine x_iload_n (pc := 37) 2 dX10_compared_37 rfl rfl ?_
        refine x_bipush (pc := 38) (w := 62) dX10_compared_38 bi_62 ?_
        refine x_icmp_eq (pc := 40) 45 dX10_compared_40 (by decide) (fun c_13 => ?_) (fun c_13 => ?_)
        · have h := aw_pos h c_13
          refine x_lv [2, 1, 0] [(0, .ref (ad 0)), (1, .int r_2), (2, .int r_9)] rfl ?_
          exact tm_compared_J45 d0  g_tm_factor hg_tm_factor d hd  r_2 r_9 _ _ _ h
        · have h := aw_neg h c_13
          refine x_iload_n (pc := 43) 1 dX10_compared_43 rfl rfl ?_
          obtain ⟨rfl, rfl⟩ := aw_so h
          exact x_iret (pc := 44) dX10_compared_44
def fm_both_L5 (g_tm_factor : aw_M → Option (Int32 × aw_M)) : Nat → Int32 → aw_M → Option (Int32 × aw_M)
  | 0, _, _ => none
  | n + 1, p1, M =>
    if (M 0 14) = 0 then (
      some (p1, M)
    ) else (
      aw_bi (fm_byteAt (M 0 8) M) fun r_6 M_7 => (
      if r_6 = 38 then (
        aw_bi (fm_compared g_tm_factor  (aw_u M_7 0 8 ((M_7 0 8) + 1))) fun r_10 M_11 => (
        if p1 = 0 then (
          fm_both_L5 g_tm_factor n 0 M_11
        ) else (
          if r_10 = 0 then (
            fm_both_L5 g_tm_factor n 0 M_11
          ) else (
            fm_both_L5 g_tm_factor n 1 M_11
          )
        )
        )
      ) else (
        some (p1, M_7)
      )
      )
    )
theorem fm_both_L5_s (g_tm_factor : aw_M → Option (Int32 × aw_M)) (n : Nat) (p1 : Int32) (M : aw_M) : fm_both_L5 g_tm_factor (n + 1) p1 M = (
    if (M 0 14) = 0 then (
      some (p1, M)
    ) else (
      aw_bi (fm_byteAt (M 0 8) M) fun r_6 M_7 => (
      if r_6 = 38 then (
        aw_bi (fm_compared g_tm_factor  (aw_u M_7 0 8 ((M_7 0 8) + 1))) fun r_10 M_11 => (
        if p1 = 0 then (
          fm_both_L5 g_tm_factor n 0 M_11
        ) else (
          if r_10 = 0 then (
            fm_both_L5 g_tm_factor n 0 M_11
          ) else (
            fm_both_L5 g_tm_factor n 1 M_11
          )
        )
        )
      ) else (
        some (p1, M_7)
      )
      )
    )
    ) := rfl
set_option maxRecDepth 20000 in
theorem tm_both_L5 {l : Launch} {D : va_G} {cy : Nat → ClassId} {ad : Nat → Nat} {A : Nat → Prop} (d0 : Nat) (g_tm_factor : aw_M → Option (Int32 × aw_M)) (hg_tm_factor : ∀ (d : Nat), d0 + 0 ≤ d → ∀  (M : aw_M) (r : Int32) (M1 : aw_M), g_tm_factor  M = some (r, M1) → AX l D cy ad A gm_G yX10_factor cX10_factor 3 (some .int) d [.ref (ad 0)] M (some (.int r)) M1) (d : Nat) (hd : d0 + 4 ≤ d) : ∀ (n : Nat) (p1 : Int32) (M : aw_M) (r : Int32) (M1 : aw_M), fm_both_L5 g_tm_factor n p1 M = some (r, M1) → AW l D cy ad A gm_G RX10 cX10_both 3 (some .int) d (some (.int r)) M1 5 [(0, .ref (ad 0)), (1, .int p1)] [] M := by
  have hd1 : (d - 1) + 1 ≤ d := by omega
  have hm1 : 1 ≤ d := by omega
  have hh_0 : 0 ≤ d - 1 := by omega
  have ho_3 : d0 + 3 ≤ d - 1 := by omega
  intro n
  induction n with
  | zero => intro p1 M r M1 h; cases h
  | succ n ih =>
    intro p1 M r M1 h
    rw [fm_both_L5_s] at h
    refine x_aload_n (pc := 5) 0 dX10_both_5 rfl rfl ?_
    refine x_get (pc := 6) dX10_both_6 lk_X10_92 gm_0 rfl rfl ?_
    refine x_if_eq (pc := 9) 57 dX10_both_9 (by decide) (fun c_4 => ?_) (fun c_4 => ?_)
    · have h := aw_pos h c_4
      refine x_iload_n (pc := 57) 1 dX10_both_57 rfl rfl ?_
      obtain ⟨rfl, rfl⟩ := aw_so h
      exact x_iret (pc := 58) dX10_both_58
    · have h := aw_neg h c_4
      refine x_aload_n (pc := 12) 0 dX10_both_12 rfl rfl ?_
      refine x_aload_n (pc := 13) 0 dX10_both_13 rfl rfl ?_
      refine x_get (pc := 14) dX10_both_14 lk_X10_96 gm_0 rfl rfl ?_
      obtain ⟨r_6, M_7, e_5, h⟩ := aw_bi_e h
      refine x_callV (pc := 17) (As := [.int (M 0 8)]) (rest := []) (st' := [.int r_6]) (w := (some (.int r_6))) dX10_both_17 cw_X10_99 hd1 gm_0 rfl rfl rfl (Nat.le_of_ble_eq_true rfl) (tm_byteAt (d - 1) hh_0 (M 0 8) _ _ _ e_5) rfl ?_
      refine x_bipush (pc := 20) (w := 38) dX10_both_20 bi_38 ?_
      refine x_icmp_ne (pc := 22) 57 dX10_both_22 (by decide) (fun c_8 => ?_) (fun c_8 => ?_)
      · have h := aw_neg h c_8
        refine x_iload_n (pc := 57) 1 dX10_both_57 rfl rfl ?_
        obtain ⟨rfl, rfl⟩ := aw_so h
        exact x_iret (pc := 58) dX10_both_58
      · have h := aw_pos h c_8
        refine x_aload_n (pc := 25) 0 dX10_both_25 rfl rfl ?_
        refine x_dup (pc := 26) dX10_both_26 rfl ?_
        refine x_get (pc := 27) dX10_both_27 lk_X10_96 gm_0 rfl rfl ?_
        refine x_iconst (pc := 30) (w := 1) dX10_both_30 ic_1 ?_
        refine x_iadd (pc := 31) dX10_both_31 ?_
        refine x_put (pc := 32) (x := ((M_7 0 8) + 1)) dX10_both_32 lk_X10_96 lp_X10_8 gm_0 rfl rfl rfl rfl ?_
        refine x_aload_n (pc := 35) 0 dX10_both_35 rfl rfl ?_
        obtain ⟨r_10, M_11, e_9, h⟩ := aw_bi_e h
        refine x_callV (pc := 36) (As := []) (rest := []) (st' := [.int r_10]) (w := (some (.int r_10))) dX10_both_36 cw_X10_139 hd1 gm_0 rfl rfl rfl (Nat.le_of_ble_eq_true rfl) (tm_compared d0 g_tm_factor hg_tm_factor (d - 1) ho_3  _ _ _ e_9) rfl ?_
        refine x_istore_n (pc := 39) 2 [(2, .int r_10), (0, .ref (ad 0)), (1, .int p1)] dX10_both_39 rfl (by decide) rfl ?_
        refine x_iload_n (pc := 40) 1 dX10_both_40 rfl rfl ?_
        refine x_if_eq (pc := 41) 52 dX10_both_41 (by decide) (fun c_12 => ?_) (fun c_12 => ?_)
        · have h := aw_pos h c_12
          refine x_iconst (pc := 52) (w := 0) dX10_both_52 ic_0 ?_
          refine x_istore_n (pc := 53) 1 [(1, .int 0), (2, .int r_10), (0, .ref (ad 0))] dX10_both_53 rfl (by decide) rfl ?_
          refine x_goto (pc := 54) 5 dX10_both_54 (by decide) ?_
          refine x_lv [2, 0] [(0, .ref (ad 0)), (1, .int 0)] rfl ?_
          exact ih 0 _ _ _ h
        · have h := aw_neg h c_12
          refine x_iload_n (pc := 44) 2 dX10_both_44 rfl rfl ?_
          refine x_if_eq (pc := 45) 52 dX10_both_45 (by decide) (fun c_13 => ?_) (fun c_13 => ?_)
          · have h := aw_pos h c_13
            refine x_iconst (pc := 52) (w := 0) dX10_both_52 ic_0 ?_
            refine x_istore_n (pc := 53) 1 [(1, .int 0), (2, .int r_10), (0, .ref (ad 0))] dX10_both_53 rfl (by decide) rfl ?_
            refine x_goto (pc := 54) 5 dX10_both_54 (by decide) ?_
            refine x_lv [2, 0] [(0, .ref (ad 0)), (1, .int 0)] rfl ?_
            exact ih 0 _ _ _ h
          · have h := aw_neg h c_13
            refine x_iconst (pc := 48) (w := 1) dX10_both_48 ic_1 ?_
            refine x_goto (pc := 49) 53 dX10_both_49 (by decide) ?_
            refine x_istore_n (pc := 53) 1 [(1, .int 1), (2, .int r_10), (0, .ref (ad 0))] dX10_both_53 rfl (by decide) rfl ?_
            refine x_goto (pc := 54) 5 dX10_both_54 (by decide) ?_
            refine x_lv [2, 0] [(0, .ref (ad 0)), (1, .int 1)] rfl ?_
            exact ih 1 _ _ _ h
def fm_both (g_tm_factor : aw_M → Option (Int32 × aw_M))  (M : aw_M) : Option (Int32 × aw_M) :=
  aw_bi (fm_compared g_tm_factor  M) fun r_2 M_3 => (
  fm_both_L5 g_tm_factor  2000 r_2 M_3
  )
set_option maxRecDepth 20000 in
theorem tm_both {l : Launch} {D : va_G} {cy : Nat → ClassId} {ad : Nat → Nat} {A : Nat → Prop} (d0 : Nat) (g_tm_factor : aw_M → Option (Int32 × aw_M)) (hg_tm_factor : ∀ (d : Nat), d0 + 0 ≤ d → ∀  (M : aw_M) (r : Int32) (M1 : aw_M), g_tm_factor  M = some (r, M1) → AX l D cy ad A gm_G yX10_factor cX10_factor 3 (some .int) d [.ref (ad 0)] M (some (.int r)) M1) (d : Nat) (hd : d0 + 4 ≤ d)  (M : aw_M) (r : Int32) (M1 : aw_M) (h : fm_both g_tm_factor  M = some (r, M1)) : AX l D cy ad A gm_G yX10_both cX10_both 3 (some .int) d [.ref (ad 0)] M (some (.int r)) M1 := by
  have hd1 : (d - 1) + 1 ≤ d := by omega
  have hm1 : 1 ≤ d := by omega
  have hh_0 : 0 ≤ d - 1 := by omega
  have ho_3 : d0 + 3 ≤ d - 1 := by omega
  refine AX.of (own := RX10) (by decide +kernel) rfl (Nat.le_of_ble_eq_true rfl) ?_
  unfold fm_both at h
  show AW l D cy ad A gm_G RX10 cX10_both 3 (some .int) d (some (.int r)) M1 0 [(0, .ref (ad 0))] [] M
  refine x_aload_n (pc := 0) 0 dX10_both_0 rfl rfl ?_
  obtain ⟨r_2, M_3, e_1, h⟩ := aw_bi_e h
  refine x_callV (pc := 1) (As := []) (rest := []) (st' := [.int r_2]) (w := (some (.int r_2))) dX10_both_1 cw_X10_139 hd1 gm_0 rfl rfl rfl (Nat.le_of_ble_eq_true rfl) (tm_compared d0 g_tm_factor hg_tm_factor (d - 1) ho_3  _ _ _ e_1) rfl ?_
  refine x_istore_n (pc := 4) 1 [(1, .int r_2), (0, .ref (ad 0))] dX10_both_4 rfl (by decide) rfl ?_
  refine x_lv [1, 0] [(0, .ref (ad 0)), (1, .int r_2)] rfl ?_
  exact tm_both_L5 d0  g_tm_factor hg_tm_factor d hd  2000 r_2 _ _ _ h
def fm_whole_L5 (g_tm_factor : aw_M → Option (Int32 × aw_M)) : Nat → Int32 → aw_M → Option (Int32 × aw_M)
  | 0, _, _ => none
  | n + 1, p1, M =>
    if (M 0 14) = 0 then (
      some (p1, M)
    ) else (
      aw_bi (fm_byteAt (M 0 8) M) fun r_6 M_7 => (
      if r_6 = 124 then (
        aw_bi (fm_both g_tm_factor  (aw_u M_7 0 8 ((M_7 0 8) + 1))) fun r_10 M_11 => (
        if p1 = 0 then (
          if r_10 = 0 then (
            fm_whole_L5 g_tm_factor n 0 M_11
          ) else (
            fm_whole_L5 g_tm_factor n 1 M_11
          )
        ) else (
          fm_whole_L5 g_tm_factor n 1 M_11
        )
        )
      ) else (
        some (p1, M_7)
      )
      )
    )
theorem fm_whole_L5_s (g_tm_factor : aw_M → Option (Int32 × aw_M)) (n : Nat) (p1 : Int32) (M : aw_M) : fm_whole_L5 g_tm_factor (n + 1) p1 M = (
    if (M 0 14) = 0 then (
      some (p1, M)
    ) else (
      aw_bi (fm_byteAt (M 0 8) M) fun r_6 M_7 => (
      if r_6 = 124 then (
        aw_bi (fm_both g_tm_factor  (aw_u M_7 0 8 ((M_7 0 8) + 1))) fun r_10 M_11 => (
        if p1 = 0 then (
          if r_10 = 0 then (
            fm_whole_L5 g_tm_factor n 0 M_11
          ) else (
            fm_whole_L5 g_tm_factor n 1 M_11
          )
        ) else (
          fm_whole_L5 g_tm_factor n 1 M_11
        )
        )
      ) else (
        some (p1, M_7)
      )
      )
    )
    ) := rfl
set_option maxRecDepth 20000 in
theorem tm_whole_L5 {l : Launch} {D : va_G} {cy : Nat → ClassId} {ad : Nat → Nat} {A : Nat → Prop} (d0 : Nat) (g_tm_factor : aw_M → Option (Int32 × aw_M)) (hg_tm_factor : ∀ (d : Nat), d0 + 0 ≤ d → ∀  (M : aw_M) (r : Int32) (M1 : aw_M), g_tm_factor  M = some (r, M1) → AX l D cy ad A gm_G yX10_factor cX10_factor 3 (some .int) d [.ref (ad 0)] M (some (.int r)) M1) (d : Nat) (hd : d0 + 5 ≤ d) : ∀ (n : Nat) (p1 : Int32) (M : aw_M) (r : Int32) (M1 : aw_M), fm_whole_L5 g_tm_factor n p1 M = some (r, M1) → AW l D cy ad A gm_G RX10 cX10_whole 3 (some .int) d (some (.int r)) M1 5 [(0, .ref (ad 0)), (1, .int p1)] [] M := by
  have hd1 : (d - 1) + 1 ≤ d := by omega
  have hm1 : 1 ≤ d := by omega
  have hh_0 : 0 ≤ d - 1 := by omega
  have ho_4 : d0 + 4 ≤ d - 1 := by omega
  intro n
  induction n with
  | zero => intro p1 M r M1 h; cases h
  | succ n ih =>
    intro p1 M r M1 h
    rw [fm_whole_L5_s] at h
    refine x_aload_n (pc := 5) 0 dX10_whole_5 rfl rfl ?_
    refine x_get (pc := 6) dX10_whole_6 lk_X10_92 gm_0 rfl rfl ?_
    refine x_if_eq (pc := 9) 57 dX10_whole_9 (by decide) (fun c_4 => ?_) (fun c_4 => ?_)
    · have h := aw_pos h c_4
      refine x_iload_n (pc := 57) 1 dX10_whole_57 rfl rfl ?_
      obtain ⟨rfl, rfl⟩ := aw_so h
      exact x_iret (pc := 58) dX10_whole_58
    · have h := aw_neg h c_4
      refine x_aload_n (pc := 12) 0 dX10_whole_12 rfl rfl ?_
      refine x_aload_n (pc := 13) 0 dX10_whole_13 rfl rfl ?_
      refine x_get (pc := 14) dX10_whole_14 lk_X10_96 gm_0 rfl rfl ?_
      obtain ⟨r_6, M_7, e_5, h⟩ := aw_bi_e h
      refine x_callV (pc := 17) (As := [.int (M 0 8)]) (rest := []) (st' := [.int r_6]) (w := (some (.int r_6))) dX10_whole_17 cw_X10_99 hd1 gm_0 rfl rfl rfl (Nat.le_of_ble_eq_true rfl) (tm_byteAt (d - 1) hh_0 (M 0 8) _ _ _ e_5) rfl ?_
      refine x_bipush (pc := 20) (w := 124) dX10_whole_20 bi_124 ?_
      refine x_icmp_ne (pc := 22) 57 dX10_whole_22 (by decide) (fun c_8 => ?_) (fun c_8 => ?_)
      · have h := aw_neg h c_8
        refine x_iload_n (pc := 57) 1 dX10_whole_57 rfl rfl ?_
        obtain ⟨rfl, rfl⟩ := aw_so h
        exact x_iret (pc := 58) dX10_whole_58
      · have h := aw_pos h c_8
        refine x_aload_n (pc := 25) 0 dX10_whole_25 rfl rfl ?_
        refine x_dup (pc := 26) dX10_whole_26 rfl ?_
        refine x_get (pc := 27) dX10_whole_27 lk_X10_96 gm_0 rfl rfl ?_
        refine x_iconst (pc := 30) (w := 1) dX10_whole_30 ic_1 ?_
        refine x_iadd (pc := 31) dX10_whole_31 ?_
        refine x_put (pc := 32) (x := ((M_7 0 8) + 1)) dX10_whole_32 lk_X10_96 lp_X10_8 gm_0 rfl rfl rfl rfl ?_
        refine x_aload_n (pc := 35) 0 dX10_whole_35 rfl rfl ?_
        obtain ⟨r_10, M_11, e_9, h⟩ := aw_bi_e h
        refine x_callV (pc := 36) (As := []) (rest := []) (st' := [.int r_10]) (w := (some (.int r_10))) dX10_whole_36 cw_X10_142 hd1 gm_0 rfl rfl rfl (Nat.le_of_ble_eq_true rfl) (tm_both d0 g_tm_factor hg_tm_factor (d - 1) ho_4  _ _ _ e_9) rfl ?_
        refine x_istore_n (pc := 39) 2 [(2, .int r_10), (0, .ref (ad 0)), (1, .int p1)] dX10_whole_39 rfl (by decide) rfl ?_
        refine x_iload_n (pc := 40) 1 dX10_whole_40 rfl rfl ?_
        refine x_if_ne (pc := 41) 48 dX10_whole_41 (by decide) (fun c_12 => ?_) (fun c_12 => ?_)
        · have h := aw_neg h c_12
          refine x_iconst (pc := 48) (w := 1) dX10_whole_48 ic_1 ?_
          refine x_goto (pc := 49) 53 dX10_whole_49 (by decide) ?_
          refine x_istore_n (pc := 53) 1 [(1, .int 1), (2, .int r_10), (0, .ref (ad 0))] dX10_whole_53 rfl (by decide) rfl ?_
          refine x_goto (pc := 54) 5 dX10_whole_54 (by decide) ?_
          refine x_lv [2, 0] [(0, .ref (ad 0)), (1, .int 1)] rfl ?_
          exact ih 1 _ _ _ h
        · have h := aw_pos h c_12
          refine x_iload_n (pc := 44) 2 dX10_whole_44 rfl rfl ?_
          refine x_if_eq (pc := 45) 52 dX10_whole_45 (by decide) (fun c_13 => ?_) (fun c_13 => ?_)
          · have h := aw_pos h c_13
            refine x_iconst (pc := 52) (w := 0) dX10_whole_52 ic_0 ?_
            refine x_istore_n (pc := 53) 1 [(1, .int 0), (2, .int r_10), (0, .ref (ad 0))] dX10_whole_53 rfl (by decide) rfl ?_
            refine x_goto (pc := 54) 5 dX10_whole_54 (by decide) ?_
            refine x_lv [2, 0] [(0, .ref (ad 0)), (1, .int 0)] rfl ?_
            exact ih 0 _ _ _ h
          · have h := aw_neg h c_13
            refine x_iconst (pc := 48) (w := 1) dX10_whole_48 ic_1 ?_
            refine x_goto (pc := 49) 53 dX10_whole_49 (by decide) ?_
            refine x_istore_n (pc := 53) 1 [(1, .int 1), (2, .int r_10), (0, .ref (ad 0))] dX10_whole_53 rfl (by decide) rfl ?_
            refine x_goto (pc := 54) 5 dX10_whole_54 (by decide) ?_
            refine x_lv [2, 0] [(0, .ref (ad 0)), (1, .int 1)] rfl ?_
            exact ih 1 _ _ _ h
def fm_whole (g_tm_factor : aw_M → Option (Int32 × aw_M))  (M : aw_M) : Option (Int32 × aw_M) :=
  aw_bi (fm_both g_tm_factor  M) fun r_2 M_3 => (
  fm_whole_L5 g_tm_factor  2000 r_2 M_3
  )
set_option maxRecDepth 20000 in
theorem tm_whole {l : Launch} {D : va_G} {cy : Nat → ClassId} {ad : Nat → Nat} {A : Nat → Prop} (d0 : Nat) (g_tm_factor : aw_M → Option (Int32 × aw_M)) (hg_tm_factor : ∀ (d : Nat), d0 + 0 ≤ d → ∀  (M : aw_M) (r : Int32) (M1 : aw_M), g_tm_factor  M = some (r, M1) → AX l D cy ad A gm_G yX10_factor cX10_factor 3 (some .int) d [.ref (ad 0)] M (some (.int r)) M1) (d : Nat) (hd : d0 + 5 ≤ d)  (M : aw_M) (r : Int32) (M1 : aw_M) (h : fm_whole g_tm_factor  M = some (r, M1)) : AX l D cy ad A gm_G yX10_whole cX10_whole 3 (some .int) d [.ref (ad 0)] M (some (.int r)) M1 := by
  have hd1 : (d - 1) + 1 ≤ d := by omega
  have hm1 : 1 ≤ d := by omega
  have hh_0 : 0 ≤ d - 1 := by omega
  have ho_4 : d0 + 4 ≤ d - 1 := by omega
  refine AX.of (own := RX10) (by decide +kernel) rfl (Nat.le_of_ble_eq_true rfl) ?_
  unfold fm_whole at h
  show AW l D cy ad A gm_G RX10 cX10_whole 3 (some .int) d (some (.int r)) M1 0 [(0, .ref (ad 0))] [] M
  refine x_aload_n (pc := 0) 0 dX10_whole_0 rfl rfl ?_
  obtain ⟨r_2, M_3, e_1, h⟩ := aw_bi_e h
  refine x_callV (pc := 1) (As := []) (rest := []) (st' := [.int r_2]) (w := (some (.int r_2))) dX10_whole_1 cw_X10_142 hd1 gm_0 rfl rfl rfl (Nat.le_of_ble_eq_true rfl) (tm_both d0 g_tm_factor hg_tm_factor (d - 1) ho_4  _ _ _ e_1) rfl ?_
  refine x_istore_n (pc := 4) 1 [(1, .int r_2), (0, .ref (ad 0))] dX10_whole_4 rfl (by decide) rfl ?_
  refine x_lv [1, 0] [(0, .ref (ad 0)), (1, .int r_2)] rfl ?_
  exact tm_whole_L5 d0  g_tm_factor hg_tm_factor d hd  2000 r_2 _ _ _ h
def fm_factor_J89 (g_tm_factor : aw_M → Option (Int32 × aw_M)) (g_tm_whole : aw_M → Option (Int32 × aw_M)) (p1 : Int32) (p100 : Int32) (M : aw_M) : Option (Int32 × aw_M) :=
    if p1 = 33 then (
      if p100 = 0 then (
        some (1, (aw_u M 0 10 ((M 0 10) - 1)))
      ) else (
        some (0, (aw_u M 0 10 ((M 0 10) - 1)))
      )
    ) else (
      if ((aw_u M 0 10 ((M 0 10) - 1)) 0 14) = 0 then (
        fm_fails  (aw_u M 0 10 ((M 0 10) - 1))
      ) else (
        aw_bi (fm_byteAt ((aw_u M 0 10 ((M 0 10) - 1)) 0 8) (aw_u M 0 10 ((M 0 10) - 1))) fun r_21 M_22 => (
        if r_21 = 41 then (
          some (p100, (aw_u M_22 0 8 ((M_22 0 8) + 1)))
        ) else (
          fm_fails  M_22
        )
        )
      )
    )
set_option maxRecDepth 20000 in
theorem tm_factor_J89 {l : Launch} {D : va_G} {cy : Nat → ClassId} {ad : Nat → Nat} {A : Nat → Prop} (d0 : Nat) (g_tm_factor : aw_M → Option (Int32 × aw_M)) (g_tm_whole : aw_M → Option (Int32 × aw_M)) (hg_tm_factor : ∀ (d : Nat), d0 + 0 ≤ d → ∀  (M : aw_M) (r : Int32) (M1 : aw_M), g_tm_factor  M = some (r, M1) → AX l D cy ad A gm_G yX10_factor cX10_factor 3 (some .int) d [.ref (ad 0)] M (some (.int r)) M1) (hg_tm_whole : ∀ (d : Nat), d0 + 0 ≤ d → ∀  (M : aw_M) (r : Int32) (M1 : aw_M), g_tm_whole  M = some (r, M1) → AX l D cy ad A gm_G yX10_whole cX10_whole 3 (some .int) d [.ref (ad 0)] M (some (.int r)) M1) (d : Nat) (hd : d0 + 3 ≤ d) (p1 : Int32) (p100 : Int32) (M : aw_M) (r : Int32) (M1 : aw_M) (h : fm_factor_J89 g_tm_factor g_tm_whole p1 p100 M = some (r, M1)) : AW l D cy ad A gm_G RX10 cX10_factor 3 (some .int) d (some (.int r)) M1 89 [(0, .ref (ad 0)), (1, .int p1)] [.int p100] M := by
  have hd1 : (d - 1) + 1 ≤ d := by omega
  have hm1 : 1 ≤ d := by omega
  have hh_0 : 0 ≤ d - 1 := by omega
  have hh_1 : 1 ≤ d - 1 := by omega
  have hh_2 : 2 ≤ d - 1 := by omega
  have ho_0 : d0 + 0 ≤ d - 1 := by omega
  unfold fm_factor_J89 at h
  refine x_istore_n (pc := 89) 2 [(2, .int p100), (0, .ref (ad 0)), (1, .int p1)] dX10_factor_89 rfl (by decide) rfl ?_
  refine x_aload_n (pc := 90) 0 dX10_factor_90 rfl rfl ?_
  refine x_dup (pc := 91) dX10_factor_91 rfl ?_
  refine x_get (pc := 92) dX10_factor_92 lk_X10_124 gm_0 rfl rfl ?_
  refine x_iconst (pc := 95) (w := 1) dX10_factor_95 ic_1 ?_
  refine x_isub (pc := 96) dX10_factor_96 ?_
  refine x_put (pc := 97) (x := ((M 0 10) - 1)) dX10_factor_97 lk_X10_124 lp_X10_10 gm_0 rfl rfl rfl rfl ?_
  refine x_iload_n (pc := 100) 1 dX10_factor_100 rfl rfl ?_
  refine x_bipush (pc := 101) (w := 33) dX10_factor_101 bi_33 ?_
  refine x_icmp_ne (pc := 103) 116 dX10_factor_103 (by decide) (fun c_18 => ?_) (fun c_18 => ?_)
  · have h := aw_neg h c_18
    refine x_aload_n (pc := 116) 0 dX10_factor_116 rfl rfl ?_
    refine x_get (pc := 117) dX10_factor_117 lk_X10_92 gm_0 rfl rfl ?_
    refine x_if_eq (pc := 120) 148 dX10_factor_120 (by decide) (fun c_19 => ?_) (fun c_19 => ?_)
    · have h := aw_pos h c_19
      refine x_aload_n (pc := 148) 0 dX10_factor_148 rfl rfl ?_
      refine x_callV (pc := 149) (As := []) (rest := []) (st' := [.int r]) (w := (some (.int r))) dX10_factor_149 cw_X10_105 hd1 gm_0 rfl rfl rfl (Nat.le_of_ble_eq_true rfl) (tm_fails (d - 1) hh_0  _ _ _ h) rfl ?_
      exact x_iret (pc := 152) dX10_factor_152
    · have h := aw_neg h c_19
      refine x_aload_n (pc := 123) 0 dX10_factor_123 rfl rfl ?_
      refine x_aload_n (pc := 124) 0 dX10_factor_124 rfl rfl ?_
      refine x_get (pc := 125) dX10_factor_125 lk_X10_96 gm_0 rfl rfl ?_
      obtain ⟨r_21, M_22, e_20, h⟩ := aw_bi_e h
      refine x_callV (pc := 128) (As := [.int ((aw_u M 0 10 ((M 0 10) - 1)) 0 8)]) (rest := []) (st' := [.int r_21]) (w := (some (.int r_21))) dX10_factor_128 cw_X10_99 hd1 gm_0 rfl rfl rfl (Nat.le_of_ble_eq_true rfl) (tm_byteAt (d - 1) hh_0 ((aw_u M 0 10 ((M 0 10) - 1)) 0 8) _ _ _ e_20) rfl ?_
      refine x_bipush (pc := 131) (w := 41) dX10_factor_131 bi_41 ?_
      refine x_icmp_ne (pc := 133) 148 dX10_factor_133 (by decide) (fun c_23 => ?_) (fun c_23 => ?_)
      · have h := aw_neg h c_23
        refine x_aload_n (pc := 148) 0 dX10_factor_148 rfl rfl ?_
        refine x_callV (pc := 149) (As := []) (rest := []) (st' := [.int r]) (w := (some (.int r))) dX10_factor_149 cw_X10_105 hd1 gm_0 rfl rfl rfl (Nat.le_of_ble_eq_true rfl) (tm_fails (d - 1) hh_0  _ _ _ h) rfl ?_
        exact x_iret (pc := 152) dX10_factor_152
      · have h := aw_pos h c_23
        refine x_aload_n (pc := 136) 0 dX10_factor_136 rfl rfl ?_
        refine x_dup (pc := 137) dX10_factor_137 rfl ?_
        refine x_get (pc := 138) dX10_factor_138 lk_X10_96 gm_0 rfl rfl ?_
        refine x_iconst (pc := 141) (w := 1) dX10_factor_141 ic_1 ?_
        refine x_iadd (pc := 142) dX10_factor_142 ?_
        refine x_put (pc := 143) (x := ((M_22 0 8) + 1)) dX10_factor_143 lk_X10_96 lp_X10_8 gm_0 rfl rfl rfl rfl ?_
        refine x_iload_n (pc := 146) 2 dX10_factor_146 rfl rfl ?_
        obtain ⟨rfl, rfl⟩ := aw_so h
        exact x_iret (pc := 147) dX10_factor_147
  · have h := aw_pos h c_18
    refine x_iload_n (pc := 106) 2 dX10_factor_106 rfl rfl ?_
    refine x_if_ne (pc := 107) 114 dX10_factor_107 (by decide) (fun c_24 => ?_) (fun c_24 => ?_)
    · have h := aw_neg h c_24
      refine x_iconst (pc := 114) (w := 0) dX10_factor_114 ic_0 ?_
      obtain ⟨rfl, rfl⟩ := aw_so h
      exact x_iret (pc := 115) dX10_factor_115
    · have h := aw_pos h c_24
      refine x_iconst (pc := 110) (w := 1) dX10_factor_110 ic_1 ?_
      refine x_goto (pc := 111) 115 dX10_factor_111 (by decide) ?_
      obtain ⟨rfl, rfl⟩ := aw_so h
      exact x_iret (pc := 115) dX10_factor_115
def fm_factor_J39 (g_tm_factor : aw_M → Option (Int32 × aw_M)) (g_tm_whole : aw_M → Option (Int32 × aw_M)) (p1 : Int32) (M : aw_M) : Option (Int32 × aw_M) :=
    if (M 0 10) = 5 then (
      fm_fails  M
    ) else (
      if p1 = 33 then (
        aw_bi (g_tm_factor  (aw_u (aw_u M 0 10 ((M 0 10) + 1)) 0 8 (((aw_u M 0 10 ((M 0 10) + 1)) 0 8) + 1))) fun r_16 M_17 => (
        fm_factor_J89 g_tm_factor g_tm_whole  p1 r_16 M_17
        )
      ) else (
        aw_bi (g_tm_whole  (aw_u (aw_u M 0 10 ((M 0 10) + 1)) 0 8 (((aw_u M 0 10 ((M 0 10) + 1)) 0 8) + 1))) fun r_13 M_14 => (
        fm_factor_J89 g_tm_factor g_tm_whole  p1 r_13 M_14
        )
      )
    )
set_option maxRecDepth 20000 in
theorem tm_factor_J39 {l : Launch} {D : va_G} {cy : Nat → ClassId} {ad : Nat → Nat} {A : Nat → Prop} (d0 : Nat) (g_tm_factor : aw_M → Option (Int32 × aw_M)) (g_tm_whole : aw_M → Option (Int32 × aw_M)) (hg_tm_factor : ∀ (d : Nat), d0 + 0 ≤ d → ∀  (M : aw_M) (r : Int32) (M1 : aw_M), g_tm_factor  M = some (r, M1) → AX l D cy ad A gm_G yX10_factor cX10_factor 3 (some .int) d [.ref (ad 0)] M (some (.int r)) M1) (hg_tm_whole : ∀ (d : Nat), d0 + 0 ≤ d → ∀  (M : aw_M) (r : Int32) (M1 : aw_M), g_tm_whole  M = some (r, M1) → AX l D cy ad A gm_G yX10_whole cX10_whole 3 (some .int) d [.ref (ad 0)] M (some (.int r)) M1) (d : Nat) (hd : d0 + 3 ≤ d) (p1 : Int32) (M : aw_M) (r : Int32) (M1 : aw_M) (h : fm_factor_J39 g_tm_factor g_tm_whole p1 M = some (r, M1)) : AW l D cy ad A gm_G RX10 cX10_factor 3 (some .int) d (some (.int r)) M1 39 [(0, .ref (ad 0)), (1, .int p1)] [] M := by
  have hd1 : (d - 1) + 1 ≤ d := by omega
  have hm1 : 1 ≤ d := by omega
  have hh_0 : 0 ≤ d - 1 := by omega
  have hh_1 : 1 ≤ d - 1 := by omega
  have hh_2 : 2 ≤ d - 1 := by omega
  have ho_0 : d0 + 0 ≤ d - 1 := by omega
  unfold fm_factor_J39 at h
  refine x_aload_n (pc := 39) 0 dX10_factor_39 rfl rfl ?_
  refine x_get (pc := 40) dX10_factor_40 lk_X10_124 gm_0 rfl rfl ?_
  refine x_iconst (pc := 43) (w := 5) dX10_factor_43 ic_5 ?_
  refine x_icmp_ne (pc := 44) 52 dX10_factor_44 (by decide) (fun c_10 => ?_) (fun c_10 => ?_)
  · have h := aw_neg h c_10
    refine x_aload_n (pc := 52) 0 dX10_factor_52 rfl rfl ?_
    refine x_dup (pc := 53) dX10_factor_53 rfl ?_
    refine x_get (pc := 54) dX10_factor_54 lk_X10_124 gm_0 rfl rfl ?_
    refine x_iconst (pc := 57) (w := 1) dX10_factor_57 ic_1 ?_
    refine x_iadd (pc := 58) dX10_factor_58 ?_
    refine x_put (pc := 59) (x := ((M 0 10) + 1)) dX10_factor_59 lk_X10_124 lp_X10_10 gm_0 rfl rfl rfl rfl ?_
    refine x_aload_n (pc := 62) 0 dX10_factor_62 rfl rfl ?_
    refine x_dup (pc := 63) dX10_factor_63 rfl ?_
    refine x_get (pc := 64) dX10_factor_64 lk_X10_96 gm_0 rfl rfl ?_
    refine x_iconst (pc := 67) (w := 1) dX10_factor_67 ic_1 ?_
    refine x_iadd (pc := 68) dX10_factor_68 ?_
    refine x_put (pc := 69) (x := (((aw_u M 0 10 ((M 0 10) + 1)) 0 8) + 1)) dX10_factor_69 lk_X10_96 lp_X10_8 gm_0 rfl rfl rfl rfl ?_
    refine x_iload_n (pc := 72) 1 dX10_factor_72 rfl rfl ?_
    refine x_bipush (pc := 73) (w := 33) dX10_factor_73 bi_33 ?_
    refine x_icmp_ne (pc := 75) 85 dX10_factor_75 (by decide) (fun c_11 => ?_) (fun c_11 => ?_)
    · have h := aw_neg h c_11
      refine x_aload_n (pc := 85) 0 dX10_factor_85 rfl rfl ?_
      obtain ⟨r_13, M_14, e_12, h⟩ := aw_bi_e h
      refine x_callV (pc := 86) (As := []) (rest := []) (st' := [.int r_13]) (w := (some (.int r_13))) dX10_factor_86 cw_X10_130 hd1 gm_0 rfl rfl rfl (Nat.le_of_ble_eq_true rfl) (hg_tm_whole (d - 1) ho_0  _ _ _ e_12) rfl ?_
      refine x_lv [0, 1] [(0, .ref (ad 0)), (1, .int p1)] rfl ?_
      exact tm_factor_J89 d0  g_tm_factor g_tm_whole hg_tm_factor hg_tm_whole d hd  p1 r_13 _ _ _ h
    · have h := aw_pos h c_11
      refine x_aload_n (pc := 78) 0 dX10_factor_78 rfl rfl ?_
      obtain ⟨r_16, M_17, e_15, h⟩ := aw_bi_e h
      refine x_callV (pc := 79) (As := []) (rest := []) (st' := [.int r_16]) (w := (some (.int r_16))) dX10_factor_79 cw_X10_127 hd1 gm_0 rfl rfl rfl (Nat.le_of_ble_eq_true rfl) (hg_tm_factor (d - 1) ho_0  _ _ _ e_15) rfl ?_
      refine x_goto (pc := 82) 89 dX10_factor_82 (by decide) ?_
      refine x_lv [0, 1] [(0, .ref (ad 0)), (1, .int p1)] rfl ?_
      exact tm_factor_J89 d0  g_tm_factor g_tm_whole hg_tm_factor hg_tm_whole d hd  p1 r_16 _ _ _ h
  · have h := aw_pos h c_10
    refine x_aload_n (pc := 47) 0 dX10_factor_47 rfl rfl ?_
    refine x_callV (pc := 48) (As := []) (rest := []) (st' := [.int r]) (w := (some (.int r))) dX10_factor_48 cw_X10_105 hd1 gm_0 rfl rfl rfl (Nat.le_of_ble_eq_true rfl) (tm_fails (d - 1) hh_0  _ _ _ h) rfl ?_
    exact x_iret (pc := 51) dX10_factor_51
def fm_factor (g_tm_factor : aw_M → Option (Int32 × aw_M)) (g_tm_whole : aw_M → Option (Int32 × aw_M))  (M : aw_M) : Option (Int32 × aw_M) :=
  aw_bi (fm_byteAt (M 0 8) M) fun r_2 M_3 => (
  aw_bi (fm_isDigit r_2 M_3) fun r_5 M_6 => (
  if r_5 = 0 then (
    if r_2 = 33 then (
      fm_factor_J39 g_tm_factor g_tm_whole  r_2 M_6
    ) else (
      if r_2 = 40 then (
        fm_factor_J39 g_tm_factor g_tm_whole  r_2 M_6
      ) else (
        fm_named r_2 M_6
      )
    )
  ) else (
    fm_number  M_6
  )
  )
  )
set_option maxRecDepth 20000 in
theorem tm_factor {l : Launch} {D : va_G} {cy : Nat → ClassId} {ad : Nat → Nat} {A : Nat → Prop} (d0 : Nat) (g_tm_factor : aw_M → Option (Int32 × aw_M)) (g_tm_whole : aw_M → Option (Int32 × aw_M)) (hg_tm_factor : ∀ (d : Nat), d0 + 0 ≤ d → ∀  (M : aw_M) (r : Int32) (M1 : aw_M), g_tm_factor  M = some (r, M1) → AX l D cy ad A gm_G yX10_factor cX10_factor 3 (some .int) d [.ref (ad 0)] M (some (.int r)) M1) (hg_tm_whole : ∀ (d : Nat), d0 + 0 ≤ d → ∀  (M : aw_M) (r : Int32) (M1 : aw_M), g_tm_whole  M = some (r, M1) → AX l D cy ad A gm_G yX10_whole cX10_whole 3 (some .int) d [.ref (ad 0)] M (some (.int r)) M1) (d : Nat) (hd : d0 + 3 ≤ d)  (M : aw_M) (r : Int32) (M1 : aw_M) (h : fm_factor g_tm_factor g_tm_whole  M = some (r, M1)) : AX l D cy ad A gm_G yX10_factor cX10_factor 3 (some .int) d [.ref (ad 0)] M (some (.int r)) M1 := by
  have hd1 : (d - 1) + 1 ≤ d := by omega
  have hm1 : 1 ≤ d := by omega
  have hh_0 : 0 ≤ d - 1 := by omega
  have hh_1 : 1 ≤ d - 1 := by omega
  have hh_2 : 2 ≤ d - 1 := by omega
  have ho_0 : d0 + 0 ≤ d - 1 := by omega
  refine AX.of (own := RX10) (by decide +kernel) rfl (Nat.le_of_ble_eq_true rfl) ?_
  unfold fm_factor at h
  show AW l D cy ad A gm_G RX10 cX10_factor 3 (some .int) d (some (.int r)) M1 0 [(0, .ref (ad 0))] [] M
  refine x_aload_n (pc := 0) 0 dX10_factor_0 rfl rfl ?_
  refine x_aload_n (pc := 1) 0 dX10_factor_1 rfl rfl ?_
  refine x_get (pc := 2) dX10_factor_2 lk_X10_96 gm_0 rfl rfl ?_
  obtain ⟨r_2, M_3, e_1, h⟩ := aw_bi_e h
  refine x_callV (pc := 5) (As := [.int (M 0 8)]) (rest := []) (st' := [.int r_2]) (w := (some (.int r_2))) dX10_factor_5 cw_X10_99 hd1 gm_0 rfl rfl rfl (Nat.le_of_ble_eq_true rfl) (tm_byteAt (d - 1) hh_0 (M 0 8) _ _ _ e_1) rfl ?_
  refine x_istore_n (pc := 8) 1 [(1, .int r_2), (0, .ref (ad 0))] dX10_factor_8 rfl (by decide) rfl ?_
  refine x_iload_n (pc := 9) 1 dX10_factor_9 rfl rfl ?_
  obtain ⟨r_5, M_6, e_4, h⟩ := aw_bi_e h
  refine x_callS (pc := 10) (As := [.int r_2]) (rest := []) (st' := [.int r_5]) (w := (some (.int r_5))) dX10_factor_10 cw_X10_102 hd1 rfl rfl (Nat.le_of_ble_eq_true rfl) (tm_isDigit (d - 1) hh_1 r_2 _ _ _ e_4) rfl ?_
  refine x_if_eq (pc := 13) 21 dX10_factor_13 (by decide) (fun c_7 => ?_) (fun c_7 => ?_)
  · have h := aw_pos h c_7
    refine x_iload_n (pc := 21) 1 dX10_factor_21 rfl rfl ?_
    refine x_bipush (pc := 22) (w := 33) dX10_factor_22 bi_33 ?_
    refine x_icmp_eq (pc := 24) 39 dX10_factor_24 (by decide) (fun c_8 => ?_) (fun c_8 => ?_)
    · have h := aw_pos h c_8
      refine x_lv [1, 0] [(0, .ref (ad 0)), (1, .int r_2)] rfl ?_
      exact tm_factor_J39 d0  g_tm_factor g_tm_whole hg_tm_factor hg_tm_whole d hd  r_2 _ _ _ h
    · have h := aw_neg h c_8
      refine x_iload_n (pc := 27) 1 dX10_factor_27 rfl rfl ?_
      refine x_bipush (pc := 28) (w := 40) dX10_factor_28 bi_40 ?_
      refine x_icmp_eq (pc := 30) 39 dX10_factor_30 (by decide) (fun c_9 => ?_) (fun c_9 => ?_)
      · have h := aw_pos h c_9
        refine x_lv [1, 0] [(0, .ref (ad 0)), (1, .int r_2)] rfl ?_
        exact tm_factor_J39 d0  g_tm_factor g_tm_whole hg_tm_factor hg_tm_whole d hd  r_2 _ _ _ h
      · have h := aw_neg h c_9
        refine x_aload_n (pc := 33) 0 dX10_factor_33 rfl rfl ?_
        refine x_iload_n (pc := 34) 1 dX10_factor_34 rfl rfl ?_
        refine x_callV (pc := 35) (As := [.int r_2]) (rest := []) (st' := [.int r]) (w := (some (.int r))) dX10_factor_35 cw_X10_121 hd1 gm_0 rfl rfl rfl (Nat.le_of_ble_eq_true rfl) (tm_named (d - 1) hh_1 r_2 _ _ _ h) rfl ?_
        exact x_iret (pc := 38) dX10_factor_38
  · have h := aw_neg h c_7
    refine x_aload_n (pc := 16) 0 dX10_factor_16 rfl rfl ?_
    refine x_callV (pc := 17) (As := []) (rest := []) (st' := [.int r]) (w := (some (.int r))) dX10_factor_17 cw_X10_118 hd1 gm_0 rfl rfl rfl (Nat.le_of_ble_eq_true rfl) (tm_number (d - 1) hh_2  _ _ _ h) rfl ?_
    exact x_iret (pc := 20) dX10_factor_20
def FM_factor : Nat → aw_M → Option (Int32 × aw_M)
  | 0, _ => none
  | n + 1, M => fm_factor (FM_factor n) (fm_whole (FM_factor n)) M
theorem FT_factor {l : Launch} {D : va_G} {cy : Nat → ClassId} {ad : Nat → Nat} {A : Nat → Prop} : ∀ (n d : Nat), n * 12 ≤ d → ∀ (M : aw_M) (r : Int32) (M1 : aw_M), FM_factor n M = some (r, M1) → AX l D cy ad A gm_G yX10_factor cX10_factor 3 (some .int) d [.ref (ad 0)] M (some (.int r)) M1 := by
  intro n
  induction n with
  | zero => intro d _ _ _ _ h; cases h
  | succ n ih =>
    intro d hd M r M1 h
    exact tm_factor (n * 12 + 5) (FM_factor n) (fm_whole (FM_factor n)) (fun d hd => ih d (by omega)) (fun d hd => tm_whole (n * 12) (FM_factor n) (fun d hd => ih d (by omega)) d (by omega)) d (by omega) M r M1 h
def fm_walks (p1 : Int32) (p2 : Int32) (p3 : Int32) (p4 : Int32) (M : aw_M) : Option (Int32 × aw_M) :=
  if aw_in (5 + p1) 213 then none else (
  aw_bi (fm_whole (FM_factor 8)  (aw_u (aw_u (aw_u (aw_u (aw_u (aw_u (aw_u (aw_u M 0 7 p1) 0 8 0) 0 9 ((aw_u (aw_u M 0 7 p1) 0 8 0) 1 (5 + p1).toNatClampNeg)) 0 10 0) 0 14 1) 0 11 p2) 0 12 p3) 0 13 p4)) fun r_3 M_4 => (
  if (M_4 0 14) = 0 then (
    some (r_3, (aw_u M_4 0 14 0))
  ) else (
    if (M_4 0 8) = (M_4 0 9) then (
      some (r_3, (aw_u M_4 0 14 1))
    ) else (
      some (r_3, (aw_u M_4 0 14 0))
    )
  )
  )
  )
set_option maxRecDepth 20000 in
theorem tm_walks {l : Launch} {D : va_G} {cy : Nat → ClassId} {ad : Nat → Nat} {A : Nat → Prop} (d : Nat) (hd : 102 ≤ d) (p1 : Int32) (p2 : Int32) (p3 : Int32) (p4 : Int32) (M : aw_M) (r : Int32) (M1 : aw_M) (h : fm_walks p1 p2 p3 p4 M = some (r, M1)) : AX l D cy ad A gm_G yX10_walks cX10_walks 6 (some .int) d [.ref (ad 0), .int p1, .int p2, .int p3, .int p4] M (some (.int r)) M1 := by
  have hd1 : (d - 1) + 1 ≤ d := by omega
  have hm1 : 1 ≤ d := by omega
  have hh_101 : 101 ≤ d - 1 := by omega
  refine AX.of (own := RX10) (by decide +kernel) rfl (Nat.le_of_ble_eq_true rfl) ?_
  unfold fm_walks at h
  show AW l D cy ad A gm_G RX10 cX10_walks 6 (some .int) d (some (.int r)) M1 0 [(0, .ref (ad 0)), (1, .int p1), (2, .int p2), (3, .int p3), (4, .int p4)] [] M
  refine x_aload_n (pc := 0) 0 dX10_walks_0 rfl rfl ?_
  refine x_iload_n (pc := 1) 1 dX10_walks_1 rfl rfl ?_
  refine x_put (pc := 2) (x := p1) dX10_walks_2 lk_X10_89 lp_X10_7 gm_0 rfl rfl rfl rfl ?_
  refine x_aload_n (pc := 5) 0 dX10_walks_5 rfl rfl ?_
  refine x_iconst (pc := 6) (w := 0) dX10_walks_6 ic_0 ?_
  refine x_put (pc := 7) (x := 0) dX10_walks_7 lk_X10_96 lp_X10_8 gm_0 rfl rfl rfl rfl ?_
  refine x_aload_n (pc := 10) 0 dX10_walks_10 rfl rfl ?_
  refine x_aload_n (pc := 11) 0 dX10_walks_11 rfl rfl ?_
  refine x_get (pc := 12) dX10_walks_12 lk_X10_7 gm_0 rfl rfl ?_
  refine x_iconst (pc := 15) (w := 5) dX10_walks_15 ic_5 ?_
  refine x_iload_n (pc := 16) 1 dX10_walks_16 rfl rfl ?_
  refine x_iadd (pc := 17) dX10_walks_17 ?_
  obtain ⟨c_1, h⟩ := aw_ck h
  refine x_iald (pc := 18) dX10_walks_18 gm_1 c_1 ?_
  refine x_put (pc := 19) (x := ((aw_u (aw_u M 0 7 p1) 0 8 0) 1 (5 + p1).toNatClampNeg)) dX10_walks_19 lk_X10_85 lp_X10_9 gm_0 rfl rfl rfl rfl ?_
  refine x_aload_n (pc := 22) 0 dX10_walks_22 rfl rfl ?_
  refine x_iconst (pc := 23) (w := 0) dX10_walks_23 ic_0 ?_
  refine x_put (pc := 24) (x := 0) dX10_walks_24 lk_X10_124 lp_X10_10 gm_0 rfl rfl rfl rfl ?_
  refine x_aload_n (pc := 27) 0 dX10_walks_27 rfl rfl ?_
  refine x_iconst (pc := 28) (w := 1) dX10_walks_28 ic_1 ?_
  refine x_put (pc := 29) (x := 1) dX10_walks_29 lk_X10_92 lp_X10_14 gm_0 rfl rfl (by decide +kernel) (by decide +kernel) ?_
  refine x_aload_n (pc := 32) 0 dX10_walks_32 rfl rfl ?_
  refine x_iload_n (pc := 33) 2 dX10_walks_33 rfl rfl ?_
  refine x_put (pc := 34) (x := p2) dX10_walks_34 lk_X10_109 lp_X10_11 gm_0 rfl rfl rfl rfl ?_
  refine x_aload_n (pc := 37) 0 dX10_walks_37 rfl rfl ?_
  refine x_iload_n (pc := 38) 3 dX10_walks_38 rfl rfl ?_
  refine x_put (pc := 39) (x := p3) dX10_walks_39 lk_X10_112 lp_X10_12 gm_0 rfl rfl rfl rfl ?_
  refine x_aload_n (pc := 42) 0 dX10_walks_42 rfl rfl ?_
  refine x_iload (pc := 43) dX10_walks_43 rfl ?_
  refine x_put (pc := 45) (x := p4) dX10_walks_45 lk_X10_115 lp_X10_13 gm_0 rfl rfl rfl rfl ?_
  refine x_aload_n (pc := 48) 0 dX10_walks_48 rfl rfl ?_
  obtain ⟨r_3, M_4, e_2, h⟩ := aw_bi_e h
  refine x_callV (pc := 49) (As := []) (rest := []) (st' := [.int r_3]) (w := (some (.int r_3))) dX10_walks_49 cw_X10_130 hd1 gm_0 rfl rfl rfl (Nat.le_of_ble_eq_true rfl) ((fun d (hd : 101 ≤ d) => tm_whole 96 (FM_factor 8) (fun d hd => FT_factor 8 d (by omega)) d (by omega)) (d - 1) hh_101  _ _ _ e_2) rfl ?_
  refine x_istore (pc := 52) 5 [(5, .int r_3), (0, .ref (ad 0)), (1, .int p1), (2, .int p2), (3, .int p3), (4, .int p4)] dX10_walks_52 (by decide) rfl ?_
  refine x_aload_n (pc := 54) 0 dX10_walks_54 rfl rfl ?_
  refine x_aload_n (pc := 55) 0 dX10_walks_55 rfl rfl ?_
  refine x_get (pc := 56) dX10_walks_56 lk_X10_92 gm_0 rfl rfl ?_
  refine x_if_eq (pc := 59) 77 dX10_walks_59 (by decide) (fun c_5 => ?_) (fun c_5 => ?_)
  · have h := aw_pos h c_5
    refine x_iconst (pc := 77) (w := 0) dX10_walks_77 ic_0 ?_
    refine x_put (pc := 78) (x := 0) dX10_walks_78 lk_X10_92 lp_X10_14 gm_0 rfl rfl (by decide +kernel) (by decide +kernel) ?_
    refine x_iload (pc := 81) dX10_walks_81 rfl ?_
    obtain ⟨rfl, rfl⟩ := aw_so h
    exact x_iret (pc := 83) dX10_walks_83
  · have h := aw_neg h c_5
    refine x_aload_n (pc := 62) 0 dX10_walks_62 rfl rfl ?_
    refine x_get (pc := 63) dX10_walks_63 lk_X10_96 gm_0 rfl rfl ?_
    refine x_aload_n (pc := 66) 0 dX10_walks_66 rfl rfl ?_
    refine x_get (pc := 67) dX10_walks_67 lk_X10_85 gm_0 rfl rfl ?_
    refine x_icmp_ne (pc := 70) 77 dX10_walks_70 (by decide) (fun c_6 => ?_) (fun c_6 => ?_)
    · have h := aw_neg h c_6
      refine x_iconst (pc := 77) (w := 0) dX10_walks_77 ic_0 ?_
      refine x_put (pc := 78) (x := 0) dX10_walks_78 lk_X10_92 lp_X10_14 gm_0 rfl rfl (by decide +kernel) (by decide +kernel) ?_
      refine x_iload (pc := 81) dX10_walks_81 rfl ?_
      obtain ⟨rfl, rfl⟩ := aw_so h
      exact x_iret (pc := 83) dX10_walks_83
    · have h := aw_pos h c_6
      refine x_iconst (pc := 73) (w := 1) dX10_walks_73 ic_1 ?_
      refine x_goto (pc := 74) 78 dX10_walks_74 (by decide) ?_
      refine x_put (pc := 78) (x := 1) dX10_walks_78 lk_X10_92 lp_X10_14 gm_0 rfl rfl (by decide +kernel) (by decide +kernel) ?_
      refine x_iload (pc := 81) dX10_walks_81 rfl ?_
      obtain ⟨rfl, rfl⟩ := aw_so h
      exact x_iret (pc := 83) dX10_walks_83
def fm_lawOf_J23 (p1 : Int32) (p2 : Int32) (p3 : Int32) (p4 : Int32) (p5 : Int32) (p100 : Int32) (M : aw_M) : Option (Int32 × aw_M) :=
    if aw_in (5 + p1) 213 then none else (
    if (M 1 (5 + p1).toNatClampNeg) < 0 then (
      if p1 = 0 then (
        aw_bi (fm_held (2 + (p2 / 2)) p5 p100 M) fun r_8 M_9 => (
        some (r_8, M_9)
        )
      ) else (
        some (4, M)
      )
    ) else (
      aw_bi (fm_walks p1 p2 p3 p4 M) fun r_11 M_12 => (
      fm_held r_11 p5 p100 M_12
      )
    )
    )
set_option maxRecDepth 20000 in
theorem tm_lawOf_J23 {l : Launch} {D : va_G} {cy : Nat → ClassId} {ad : Nat → Nat} {A : Nat → Prop} (d : Nat) (hd : 103 ≤ d) (p1 : Int32) (p2 : Int32) (p3 : Int32) (p4 : Int32) (p5 : Int32) (p100 : Int32) (M : aw_M) (r : Int32) (M1 : aw_M) (h : fm_lawOf_J23 p1 p2 p3 p4 p5 p100 M = some (r, M1)) : AW l D cy ad A gm_G RX10 cX10_lawOf 7 (some .int) d (some (.int r)) M1 23 [(0, .ref (ad 0)), (1, .int p1), (2, .int p2), (3, .int p3), (4, .int p4), (5, .int p5)] [.int p100] M := by
  have hd1 : (d - 1) + 1 ≤ d := by omega
  have hm1 : 1 ≤ d := by omega
  have hh_0 : 0 ≤ d - 1 := by omega
  have hh_102 : 102 ≤ d - 1 := by omega
  unfold fm_lawOf_J23 at h
  refine x_istore (pc := 23) 6 [(6, .int p100), (0, .ref (ad 0)), (1, .int p1), (2, .int p2), (3, .int p3), (4, .int p4), (5, .int p5)] dX10_lawOf_23 (by decide) rfl ?_
  refine x_aload_n (pc := 25) 0 dX10_lawOf_25 rfl rfl ?_
  refine x_get (pc := 26) dX10_lawOf_26 lk_X10_7 gm_0 rfl rfl ?_
  refine x_iconst (pc := 29) (w := 5) dX10_lawOf_29 ic_5 ?_
  refine x_iload_n (pc := 30) 1 dX10_lawOf_30 rfl rfl ?_
  refine x_iadd (pc := 31) dX10_lawOf_31 ?_
  obtain ⟨c_4, h⟩ := aw_ck h
  refine x_iald (pc := 32) dX10_lawOf_32 gm_1 c_4 ?_
  refine x_if_lt (pc := 33) 53 dX10_lawOf_33 (by decide) (fun c_5 => ?_) (fun c_5 => ?_)
  · have h := aw_pos h c_5
    refine x_iload_n (pc := 53) 1 dX10_lawOf_53 rfl rfl ?_
    refine x_if_ne (pc := 54) 72 dX10_lawOf_54 (by decide) (fun c_6 => ?_) (fun c_6 => ?_)
    · have h := aw_neg h c_6
      refine x_iconst (pc := 72) (w := 4) dX10_lawOf_72 ic_4 ?_
      obtain ⟨rfl, rfl⟩ := aw_so h
      exact x_iret (pc := 73) dX10_lawOf_73
    · have h := aw_pos h c_6
      refine x_iconst (pc := 57) (w := 2) dX10_lawOf_57 ic_2 ?_
      refine x_iload_n (pc := 58) 2 dX10_lawOf_58 rfl rfl ?_
      refine x_iconst (pc := 59) (w := 2) dX10_lawOf_59 ic_2 ?_
      refine x_idiv (pc := 60) dX10_lawOf_60 (by decide) ?_
      refine x_iadd (pc := 61) dX10_lawOf_61 ?_
      refine x_iload (pc := 62) dX10_lawOf_62 rfl ?_
      refine x_iload (pc := 64) dX10_lawOf_64 rfl ?_
      obtain ⟨r_8, M_9, e_7, h⟩ := aw_bi_e h
      refine x_callS (pc := 66) (As := [.int (2 + (p2 / 2)), .int p5, .int p100]) (rest := []) (st' := [.int r_8]) (w := (some (.int r_8))) dX10_lawOf_66 cw_X10_149 hd1 rfl rfl (Nat.le_of_ble_eq_true rfl) (tm_held (d - 1) hh_0 (2 + (p2 / 2)) p5 p100 _ _ _ e_7) rfl ?_
      refine x_goto (pc := 69) 73 dX10_lawOf_69 (by decide) ?_
      obtain ⟨rfl, rfl⟩ := aw_so h
      exact x_iret (pc := 73) dX10_lawOf_73
  · have h := aw_neg h c_5
    refine x_aload_n (pc := 36) 0 dX10_lawOf_36 rfl rfl ?_
    refine x_iload_n (pc := 37) 1 dX10_lawOf_37 rfl rfl ?_
    refine x_iload_n (pc := 38) 2 dX10_lawOf_38 rfl rfl ?_
    refine x_iload_n (pc := 39) 3 dX10_lawOf_39 rfl rfl ?_
    refine x_iload (pc := 40) dX10_lawOf_40 rfl ?_
    obtain ⟨r_11, M_12, e_10, h⟩ := aw_bi_e h
    refine x_callV (pc := 42) (As := [.int p1, .int p2, .int p3, .int p4]) (rest := []) (st' := [.int r_11]) (w := (some (.int r_11))) dX10_lawOf_42 cw_X10_145 hd1 gm_0 rfl rfl rfl (Nat.le_of_ble_eq_true rfl) (tm_walks (d - 1) hh_102 p1 p2 p3 p4 _ _ _ e_10) rfl ?_
    refine x_iload (pc := 45) dX10_lawOf_45 rfl ?_
    refine x_iload (pc := 47) dX10_lawOf_47 rfl ?_
    refine x_callS (pc := 49) (As := [.int r_11, .int p5, .int p100]) (rest := []) (st' := [.int r]) (w := (some (.int r))) dX10_lawOf_49 cw_X10_149 hd1 rfl rfl (Nat.le_of_ble_eq_true rfl) (tm_held (d - 1) hh_0 r_11 p5 p100 _ _ _ h) rfl ?_
    exact x_iret (pc := 52) dX10_lawOf_52
def fm_lawOf (p1 : Int32) (p2 : Int32) (p3 : Int32) (p4 : Int32) (M : aw_M) : Option (Int32 × aw_M) :=
  if p1 = 0 then (
    if p1 = 0 then (
      fm_lawOf_J23  p1 p2 p3 p4 (-9) 19 M
    ) else (
      fm_lawOf_J23  p1 p2 p3 p4 (-9) 9 M
    )
  ) else (
    if p1 = 0 then (
      fm_lawOf_J23  p1 p2 p3 p4 0 19 M
    ) else (
      fm_lawOf_J23  p1 p2 p3 p4 0 9 M
    )
  )
set_option maxRecDepth 20000 in
theorem tm_lawOf {l : Launch} {D : va_G} {cy : Nat → ClassId} {ad : Nat → Nat} {A : Nat → Prop} (d : Nat) (hd : 103 ≤ d) (p1 : Int32) (p2 : Int32) (p3 : Int32) (p4 : Int32) (M : aw_M) (r : Int32) (M1 : aw_M) (h : fm_lawOf p1 p2 p3 p4 M = some (r, M1)) : AX l D cy ad A gm_G yX10_lawOf cX10_lawOf 7 (some .int) d [.ref (ad 0), .int p1, .int p2, .int p3, .int p4] M (some (.int r)) M1 := by
  have hd1 : (d - 1) + 1 ≤ d := by omega
  have hm1 : 1 ≤ d := by omega
  have hh_0 : 0 ≤ d - 1 := by omega
  have hh_102 : 102 ≤ d - 1 := by omega
  refine AX.of (own := RX10) (by decide +kernel) rfl (Nat.le_of_ble_eq_true rfl) ?_
  unfold fm_lawOf at h
  show AW l D cy ad A gm_G RX10 cX10_lawOf 7 (some .int) d (some (.int r)) M1 0 [(0, .ref (ad 0)), (1, .int p1), (2, .int p2), (3, .int p3), (4, .int p4)] [] M
  refine x_iload_n (pc := 0) 1 dX10_lawOf_0 rfl rfl ?_
  refine x_if_ne (pc := 1) 9 dX10_lawOf_1 (by decide) (fun c_1 => ?_) (fun c_1 => ?_)
  · have h := aw_neg h c_1
    refine x_iconst (pc := 9) (w := 0) dX10_lawOf_9 ic_0 ?_
    refine x_istore (pc := 10) 5 [(5, .int 0), (0, .ref (ad 0)), (1, .int p1), (2, .int p2), (3, .int p3), (4, .int p4)] dX10_lawOf_10 (by decide) rfl ?_
    refine x_iload_n (pc := 12) 1 dX10_lawOf_12 rfl rfl ?_
    refine x_if_ne (pc := 13) 21 dX10_lawOf_13 (by decide) (fun c_2 => ?_) (fun c_2 => ?_)
    · have h := aw_neg h c_2
      refine x_bipush (pc := 21) (w := 9) dX10_lawOf_21 bi_9 ?_
      refine x_lv [1, 2, 3, 4, 5, 0] [(0, .ref (ad 0)), (1, .int p1), (2, .int p2), (3, .int p3), (4, .int p4), (5, .int 0)] rfl ?_
      exact tm_lawOf_J23 d hd  p1 p2 p3 p4 0 9 _ _ _ h
    · have h := aw_pos h c_2
      refine x_bipush (pc := 16) (w := 19) dX10_lawOf_16 bi_19 ?_
      refine x_goto (pc := 18) 23 dX10_lawOf_18 (by decide) ?_
      refine x_lv [1, 2, 3, 4, 5, 0] [(0, .ref (ad 0)), (1, .int p1), (2, .int p2), (3, .int p3), (4, .int p4), (5, .int 0)] rfl ?_
      exact tm_lawOf_J23 d hd  p1 p2 p3 p4 0 19 _ _ _ h
  · have h := aw_pos h c_1
    refine x_bipush (pc := 4) (w := (-9)) dX10_lawOf_4 bi_m9 ?_
    refine x_goto (pc := 6) 10 dX10_lawOf_6 (by decide) ?_
    refine x_istore (pc := 10) 5 [(5, .int (-9)), (0, .ref (ad 0)), (1, .int p1), (2, .int p2), (3, .int p3), (4, .int p4)] dX10_lawOf_10 (by decide) rfl ?_
    refine x_iload_n (pc := 12) 1 dX10_lawOf_12 rfl rfl ?_
    refine x_if_ne (pc := 13) 21 dX10_lawOf_13 (by decide) (fun c_3 => ?_) (fun c_3 => ?_)
    · have h := aw_neg h c_3
      refine x_bipush (pc := 21) (w := 9) dX10_lawOf_21 bi_9 ?_
      refine x_lv [1, 2, 3, 4, 5, 0] [(0, .ref (ad 0)), (1, .int p1), (2, .int p2), (3, .int p3), (4, .int p4), (5, .int (-9))] rfl ?_
      exact tm_lawOf_J23 d hd  p1 p2 p3 p4 (-9) 9 _ _ _ h
    · have h := aw_pos h c_3
      refine x_bipush (pc := 16) (w := 19) dX10_lawOf_16 bi_19 ?_
      refine x_goto (pc := 18) 23 dX10_lawOf_18 (by decide) ?_
      refine x_lv [1, 2, 3, 4, 5, 0] [(0, .ref (ad 0)), (1, .int p1), (2, .int p2), (3, .int p3), (4, .int p4), (5, .int (-9))] rfl ?_
      exact tm_lawOf_J23 d hd  p1 p2 p3 p4 (-9) 19 _ _ _ h
def fm_wants (p1 : Int32) (M : aw_M) : Option (Int32 × aw_M) :=
  aw_bi (fm_its p1 1 M) fun r_2 M_3 => (
  aw_bi (fm_its p1 2 M_3) fun r_5 M_6 => (
  aw_bi (fm_its p1 0 M_6) fun r_8 M_9 => (
  aw_bi (fm_lawOf 0 r_5 r_2 r_8 M_9) fun r_11 M_12 => (
  aw_bi (fm_its p1 0 M_12) fun r_14 M_15 => (
  if r_14 = 1 then (
    some ((r_11 - 2), M_15)
  ) else (
    if r_14 = 2 then (
      aw_bi (fm_its p1 2 M_15) fun r_19 M_20 => (
      some ((r_11 + (r_19 / 2)), M_20)
      )
    ) else (
      if r_14 = 3 then (
        some ((r_11 + (aw_rem r_2 3)), M_15)
      ) else (
        if r_14 = 4 then (
          some ((r_11 - 1), M_15)
        ) else (
          if r_14 = 5 then (
            aw_bi (fm_its p1 2 M_15) fun r_25 M_26 => (
            some (((r_11 + (r_25 / 2)) - (aw_rem r_2 2)), M_26)
            )
          ) else (
            if r_14 = 6 then (
              some ((r_11 + (aw_rem r_2 3)), M_15)
            ) else (
              some (r_11, M_15)
            )
          )
        )
      )
    )
  )
  )
  )
  )
  )
  )
set_option maxRecDepth 20000 in
theorem tm_wants {l : Launch} {D : va_G} {cy : Nat → ClassId} {ad : Nat → Nat} {A : Nat → Prop} (d : Nat) (hd : 104 ≤ d) (p1 : Int32) (M : aw_M) (r : Int32) (M1 : aw_M) (h : fm_wants p1 M = some (r, M1)) : AX l D cy ad A gm_G yX10_wants cX10_wants 4 (some .int) d [.ref (ad 0), .int p1] M (some (.int r)) M1 := by
  have hd1 : (d - 1) + 1 ≤ d := by omega
  have hm1 : 1 ≤ d := by omega
  have hh_0 : 0 ≤ d - 1 := by omega
  have hh_103 : 103 ≤ d - 1 := by omega
  refine AX.of (own := RX10) (by decide +kernel) rfl (Nat.le_of_ble_eq_true rfl) ?_
  unfold fm_wants at h
  show AW l D cy ad A gm_G RX10 cX10_wants 4 (some .int) d (some (.int r)) M1 0 [(0, .ref (ad 0)), (1, .int p1)] [] M
  refine x_aload_n (pc := 0) 0 dX10_wants_0 rfl rfl ?_
  refine x_iload_n (pc := 1) 1 dX10_wants_1 rfl rfl ?_
  refine x_iconst (pc := 2) (w := 1) dX10_wants_2 ic_1 ?_
  obtain ⟨r_2, M_3, e_1, h⟩ := aw_bi_e h
  refine x_callV (pc := 3) (As := [.int p1, .int 1]) (rest := []) (st' := [.int r_2]) (w := (some (.int r_2))) dX10_wants_3 cw_X10_78 hd1 gm_0 rfl rfl rfl (Nat.le_of_ble_eq_true rfl) (tm_its (d - 1) hh_0 p1 1 _ _ _ e_1) rfl ?_
  refine x_istore_n (pc := 6) 2 [(2, .int r_2), (0, .ref (ad 0)), (1, .int p1)] dX10_wants_6 rfl (by decide) rfl ?_
  refine x_aload_n (pc := 7) 0 dX10_wants_7 rfl rfl ?_
  refine x_iconst (pc := 8) (w := 0) dX10_wants_8 ic_0 ?_
  refine x_aload_n (pc := 9) 0 dX10_wants_9 rfl rfl ?_
  refine x_iload_n (pc := 10) 1 dX10_wants_10 rfl rfl ?_
  refine x_iconst (pc := 11) (w := 2) dX10_wants_11 ic_2 ?_
  obtain ⟨r_5, M_6, e_4, h⟩ := aw_bi_e h
  refine x_callV (pc := 12) (As := [.int p1, .int 2]) (rest := [.int 0, .ref (ad 0)]) (st' := [.int r_5, .int 0, .ref (ad 0)]) (w := (some (.int r_5))) dX10_wants_12 cw_X10_78 hd1 gm_0 rfl rfl rfl (Nat.le_of_ble_eq_true rfl) (tm_its (d - 1) hh_0 p1 2 _ _ _ e_4) rfl ?_
  refine x_iload_n (pc := 15) 2 dX10_wants_15 rfl rfl ?_
  refine x_aload_n (pc := 16) 0 dX10_wants_16 rfl rfl ?_
  refine x_iload_n (pc := 17) 1 dX10_wants_17 rfl rfl ?_
  refine x_iconst (pc := 18) (w := 0) dX10_wants_18 ic_0 ?_
  obtain ⟨r_8, M_9, e_7, h⟩ := aw_bi_e h
  refine x_callV (pc := 19) (As := [.int p1, .int 0]) (rest := [.int r_2, .int r_5, .int 0, .ref (ad 0)]) (st' := [.int r_8, .int r_2, .int r_5, .int 0, .ref (ad 0)]) (w := (some (.int r_8))) dX10_wants_19 cw_X10_78 hd1 gm_0 rfl rfl rfl (Nat.le_of_ble_eq_true rfl) (tm_its (d - 1) hh_0 p1 0 _ _ _ e_7) rfl ?_
  obtain ⟨r_11, M_12, e_10, h⟩ := aw_bi_e h
  refine x_callV (pc := 22) (As := [.int 0, .int r_5, .int r_2, .int r_8]) (rest := []) (st' := [.int r_11]) (w := (some (.int r_11))) dX10_wants_22 cw_X10_153 hd1 gm_0 rfl rfl rfl (Nat.le_of_ble_eq_true rfl) (tm_lawOf (d - 1) hh_103 0 r_5 r_2 r_8 _ _ _ e_10) rfl ?_
  refine x_istore_n (pc := 25) 3 [(3, .int r_11), (2, .int r_2), (0, .ref (ad 0)), (1, .int p1)] dX10_wants_25 rfl (by decide) rfl ?_
  refine x_aload_n (pc := 26) 0 dX10_wants_26 rfl rfl ?_
  refine x_iload_n (pc := 27) 1 dX10_wants_27 rfl rfl ?_
  refine x_iconst (pc := 28) (w := 0) dX10_wants_28 ic_0 ?_
  obtain ⟨r_14, M_15, e_13, h⟩ := aw_bi_e h
  refine x_callV (pc := 29) (As := [.int p1, .int 0]) (rest := []) (st' := [.int r_14]) (w := (some (.int r_14))) dX10_wants_29 cw_X10_78 hd1 gm_0 rfl rfl rfl (Nat.le_of_ble_eq_true rfl) (tm_its (d - 1) hh_0 p1 0 _ _ _ e_13) rfl ?_
  by_cases c_16 : r_14 = 1
  · have h := aw_pos h c_16
    refine x_tin (pc := 32) (off := 40) 1 72 dX10_wants_32 c_16 (by decide) (by decide) rfl (by decide) ?_
    refine x_iload_n (pc := 72) 3 dX10_wants_72 rfl rfl ?_
    refine x_iconst (pc := 73) (w := 2) dX10_wants_73 ic_2 ?_
    refine x_isub (pc := 74) dX10_wants_74 ?_
    obtain ⟨rfl, rfl⟩ := aw_so h
    exact x_iret (pc := 75) dX10_wants_75
  · have h := aw_neg h c_16
    by_cases c_17 : r_14 = 2
    · have h := aw_pos h c_17
      refine x_tin (pc := 32) (off := 48) 2 80 dX10_wants_32 c_17 (by decide) (by decide) rfl (by decide) ?_
      refine x_iload_n (pc := 80) 3 dX10_wants_80 rfl rfl ?_
      refine x_aload_n (pc := 81) 0 dX10_wants_81 rfl rfl ?_
      refine x_iload_n (pc := 82) 1 dX10_wants_82 rfl rfl ?_
      refine x_iconst (pc := 83) (w := 2) dX10_wants_83 ic_2 ?_
      obtain ⟨r_19, M_20, e_18, h⟩ := aw_bi_e h
      refine x_callV (pc := 84) (As := [.int p1, .int 2]) (rest := [.int r_11]) (st' := [.int r_19, .int r_11]) (w := (some (.int r_19))) dX10_wants_84 cw_X10_78 hd1 gm_0 rfl rfl rfl (Nat.le_of_ble_eq_true rfl) (tm_its (d - 1) hh_0 p1 2 _ _ _ e_18) rfl ?_
      refine x_iconst (pc := 87) (w := 2) dX10_wants_87 ic_2 ?_
      refine x_idiv (pc := 88) dX10_wants_88 (by decide) ?_
      refine x_iadd (pc := 89) dX10_wants_89 ?_
      obtain ⟨rfl, rfl⟩ := aw_so h
      exact x_iret (pc := 90) dX10_wants_90
    · have h := aw_neg h c_17
      by_cases c_21 : r_14 = 3
      · have h := aw_pos h c_21
        refine x_tin (pc := 32) (off := 74) 3 106 dX10_wants_32 c_21 (by decide) (by decide) rfl (by decide) ?_
        refine x_iload_n (pc := 106) 3 dX10_wants_106 rfl rfl ?_
        refine x_iload_n (pc := 107) 2 dX10_wants_107 rfl rfl ?_
        refine x_iconst (pc := 108) (w := 3) dX10_wants_108 ic_3 ?_
        refine x_irem (pc := 109) dX10_wants_109 (by decide) ?_
        refine x_iadd (pc := 110) dX10_wants_110 ?_
        obtain ⟨rfl, rfl⟩ := aw_so h
        exact x_iret (pc := 111) dX10_wants_111
      · have h := aw_neg h c_21
        by_cases c_22 : r_14 = 4
        · have h := aw_pos h c_22
          refine x_tin (pc := 32) (off := 44) 4 76 dX10_wants_32 c_22 (by decide) (by decide) rfl (by decide) ?_
          refine x_iload_n (pc := 76) 3 dX10_wants_76 rfl rfl ?_
          refine x_iconst (pc := 77) (w := 1) dX10_wants_77 ic_1 ?_
          refine x_isub (pc := 78) dX10_wants_78 ?_
          obtain ⟨rfl, rfl⟩ := aw_so h
          exact x_iret (pc := 79) dX10_wants_79
        · have h := aw_neg h c_22
          by_cases c_23 : r_14 = 5
          · have h := aw_pos h c_23
            refine x_tin (pc := 32) (off := 59) 5 91 dX10_wants_32 c_23 (by decide) (by decide) rfl (by decide) ?_
            refine x_iload_n (pc := 91) 3 dX10_wants_91 rfl rfl ?_
            refine x_aload_n (pc := 92) 0 dX10_wants_92 rfl rfl ?_
            refine x_iload_n (pc := 93) 1 dX10_wants_93 rfl rfl ?_
            refine x_iconst (pc := 94) (w := 2) dX10_wants_94 ic_2 ?_
            obtain ⟨r_25, M_26, e_24, h⟩ := aw_bi_e h
            refine x_callV (pc := 95) (As := [.int p1, .int 2]) (rest := [.int r_11]) (st' := [.int r_25, .int r_11]) (w := (some (.int r_25))) dX10_wants_95 cw_X10_78 hd1 gm_0 rfl rfl rfl (Nat.le_of_ble_eq_true rfl) (tm_its (d - 1) hh_0 p1 2 _ _ _ e_24) rfl ?_
            refine x_iconst (pc := 98) (w := 2) dX10_wants_98 ic_2 ?_
            refine x_idiv (pc := 99) dX10_wants_99 (by decide) ?_
            refine x_iadd (pc := 100) dX10_wants_100 ?_
            refine x_iload_n (pc := 101) 2 dX10_wants_101 rfl rfl ?_
            refine x_iconst (pc := 102) (w := 2) dX10_wants_102 ic_2 ?_
            refine x_irem (pc := 103) dX10_wants_103 (by decide) ?_
            refine x_isub (pc := 104) dX10_wants_104 ?_
            obtain ⟨rfl, rfl⟩ := aw_so h
            exact x_iret (pc := 105) dX10_wants_105
          · have h := aw_neg h c_23
            by_cases c_27 : r_14 = 6
            · have h := aw_pos h c_27
              refine x_tin (pc := 32) (off := 74) 6 106 dX10_wants_32 c_27 (by decide) (by decide) rfl (by decide) ?_
              refine x_iload_n (pc := 106) 3 dX10_wants_106 rfl rfl ?_
              refine x_iload_n (pc := 107) 2 dX10_wants_107 rfl rfl ?_
              refine x_iconst (pc := 108) (w := 3) dX10_wants_108 ic_3 ?_
              refine x_irem (pc := 109) dX10_wants_109 (by decide) ?_
              refine x_iadd (pc := 110) dX10_wants_110 ?_
              obtain ⟨rfl, rfl⟩ := aw_so h
              exact x_iret (pc := 111) dX10_wants_111
            · have h := aw_neg h c_27
              refine x_tout (pc := 32) 112 dX10_wants_32 (by have z0 := lv_neT c_16 (a := 1) rfl; have z1 := lv_neT c_17 (a := 2) rfl; have z2 := lv_neT c_21 (a := 3) rfl; have z3 := lv_neT c_22 (a := 4) rfl; have z4 := lv_neT c_23 (a := 5) rfl; have z5 := lv_neT c_27 (a := 6) rfl; omega) (by decide) ?_
              refine x_iload_n (pc := 112) 3 dX10_wants_112 rfl rfl ?_
              obtain ⟨rfl, rfl⟩ := aw_so h
              exact x_iret (pc := 113) dX10_wants_113
