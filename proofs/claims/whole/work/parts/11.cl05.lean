def fc_LB_isUse (p0 : Int32) (M : aw_M) : Option (Int32 × aw_M) :=
  if p0 = 0 then (
    some (1, M)
  ) else (
    if p0 = 1 then (
      some (1, M)
    ) else (
      some (0, M)
    )
  )
set_option maxRecDepth 20000 in
theorem tc_LB_isUse {l : Launch} {D : va_G} {cy : Nat → ClassId} {ad : Nat → Nat} {A : Nat → Prop} (d : Nat) (hd : 0 ≤ d) (p0 : Int32) (M : aw_M) (r : Int32) (M1 : aw_M) (h : fc_LB_isUse p0 M = some (r, M1)) : AX l D cy ad A gc_G yX9_isUse cX9_isUse 1 (some .boolean) d [.int p0] M (some (.int r)) M1 := by
  refine AX.of (own := RX9) (by decide +kernel) rfl (Nat.le_of_ble_eq_true rfl) ?_
  unfold fc_LB_isUse at h
  show AW l D cy ad A gc_G RX9 cX9_isUse 1 (some .boolean) d (some (.int r)) M1 0 [(0, .int p0)] [] M
  refine x_iload_n (pc := 0) 0 dX9_isUse_0 rfl rfl ?_
  refine x_if_eq (pc := 1) 9 dX9_isUse_1 (by decide) (fun c_1 => ?_) (fun c_1 => ?_)
  · have h := aw_pos h c_1
    refine x_iconst (pc := 9) (w := 1) dX9_isUse_9 ic_1 ?_
    refine x_goto (pc := 10) 14 dX9_isUse_10 (by decide) ?_
    obtain ⟨rfl, rfl⟩ := aw_so h
    exact x_zret (pc := 14) aw_b1 dX9_isUse_14
  · have h := aw_neg h c_1
    refine x_iload_n (pc := 4) 0 dX9_isUse_4 rfl rfl ?_
    refine x_iconst (pc := 5) (w := 1) dX9_isUse_5 ic_1 ?_
    refine x_icmp_ne (pc := 6) 13 dX9_isUse_6 (by decide) (fun c_2 => ?_) (fun c_2 => ?_)
    · have h := aw_neg h c_2
      refine x_iconst (pc := 13) (w := 0) dX9_isUse_13 ic_0 ?_
      obtain ⟨rfl, rfl⟩ := aw_so h
      exact x_zret (pc := 14) aw_b0 dX9_isUse_14
    · have h := aw_pos h c_2
      refine x_iconst (pc := 9) (w := 1) dX9_isUse_9 ic_1 ?_
      refine x_goto (pc := 10) 14 dX9_isUse_10 (by decide) ?_
      obtain ⟨rfl, rfl⟩ := aw_so h
      exact x_zret (pc := 14) aw_b1 dX9_isUse_14
def fc_LB_text_J42 (p1 : Int32) (p100 : Int32) (p101 : Int32) (M : aw_M) : Option (Int32 × aw_M) :=
    aw_bi (fc_Te_reads p101 p100 M) fun r_7 M_8 => (
    if r_7 = 0 then (
      some (((-10) - ((aw_u M_8 1 6 0) 53 3)), (aw_u M_8 1 6 0))
    ) else (
      if aw_in p1 2 then none else (
      aw_bv (fc_La_take p1.toNatClampNeg 54 ((aw_u M_8 1 6 0) 53 2) (aw_u M_8 1 6 0)) fun M_12 => (
      some (1, M_12)
      )
      )
    )
    )
set_option maxRecDepth 20000 in
theorem tc_LB_text_J42 {l : Launch} {D : va_G} {cy : Nat → ClassId} {ad : Nat → Nat} {A : Nat → Prop} (d : Nat) (hd : 482 ≤ d) (p1 : Int32) (p100 : Int32) (p101 : Int32) (M : aw_M) (r : Int32) (M1 : aw_M) (h : fc_LB_text_J42 p1 p100 p101 M = some (r, M1)) : AW l D cy ad A gc_G RX9 cX9_text 3 (some .int) d (some (.int r)) M1 42 [(0, .ref (ad 0)), (1, .int p1)] [.ref (ad (900 + p100.toNatClampNeg)), .int p101, .ref (ad 10), .ref (ad 53)] M := by
  have hd1 : (d - 1) + 1 ≤ d := by omega
  have hm1 : 1 ≤ d := by omega
  have hh_0 : 0 ≤ d - 1 := by omega
  have hh_2 : 2 ≤ d - 1 := by omega
  have hh_481 : 481 ≤ d - 1 := by omega
  unfold fc_LB_text_J42 at h
  obtain ⟨r_7, M_8, e_6, h⟩ := aw_bi_e h
  refine x_callV (pc := 42) (As := [.ref (ad 10), .int p101, .ref (ad (900 + p100.toNatClampNeg))]) (rest := []) (st' := [.int r_7]) (w := (some (.int r_7))) dX9_text_42 cw_X9_168 hd1 gc_53 rfl rfl rfl (Nat.le_of_ble_eq_true rfl) (tc_Te_reads (d - 1) hh_481 p101 p100 _ _ _ e_6) rfl ?_
  refine x_istore_n (pc := 45) 2 [(2, .int r_7), (0, .ref (ad 0)), (1, .int p1)] dX9_text_45 rfl (by decide) rfl ?_
  refine x_aload_n (pc := 46) 0 dX9_text_46 rfl rfl ?_
  refine x_get (pc := 47) dX9_text_47 lk_X9_10 gc_0 rfl rfl ?_
  refine x_iconst (pc := 50) (w := 0) dX9_text_50 ic_0 ?_
  refine x_put (pc := 51) (x := 0) dX9_text_51 lk_X9_154 lp_X7_6 gc_1 rfl rfl rfl rfl ?_
  refine x_iload_n (pc := 54) 2 dX9_text_54 rfl rfl ?_
  refine x_if_ne (pc := 55) 69 dX9_text_55 (by decide) (fun c_9 => ?_) (fun c_9 => ?_)
  · have h := aw_neg h c_9
    refine x_aload_n (pc := 69) 0 dX9_text_69 rfl rfl ?_
    refine x_get (pc := 70) dX9_text_70 lk_X9_10 gc_0 rfl rfl ?_
    refine x_get (pc := 73) dX9_text_73 lk_X9_175 gc_1 rfl rfl ?_
    refine x_iload_n (pc := 76) 1 dX9_text_76 rfl rfl ?_
    obtain ⟨c_10, h⟩ := aw_ck h
    refine x_aald (pc := 77) dX9_text_77 gc_8 (fun _ => rfl) c_10 (ga_8 (aw_lt c_10)) ?_
    refine x_aload_n (pc := 78) 0 dX9_text_78 rfl rfl ?_
    refine x_get (pc := 79) dX9_text_79 lk_X9_59 gc_0 rfl rfl ?_
    refine x_get (pc := 82) dX9_text_82 lk_X9_179 gc_53 rfl rfl ?_
    refine x_aload_n (pc := 85) 0 dX9_text_85 rfl rfl ?_
    refine x_get (pc := 86) dX9_text_86 lk_X9_59 gc_0 rfl rfl ?_
    refine x_get (pc := 89) dX9_text_89 lk_X9_182 gc_53 rfl rfl ?_
    obtain ⟨M_12, e_11, h⟩ := aw_bv_e h
    refine x_callV (pc := 92) (As := [.ref (ad 54), .int ((aw_u M_8 1 6 0) 53 2)]) (rest := []) (st' := []) (w := none) dX9_text_92 cw_X9_185 hd1 (gc_law (i := p1.toNatClampNeg) (Nat.lt_of_lt_of_le (aw_lt c_10) (by decide))) rfl rfl rfl (Nat.le_of_ble_eq_true rfl) (tc_La_take (d - 1) hh_2 p1.toNatClampNeg (Nat.lt_of_lt_of_le (aw_lt c_10) (by decide)) 54 gc_54 ((aw_u M_8 1 6 0) 53 2) _  _ e_11) rfl ?_
    refine x_iconst (pc := 95) (w := 1) dX9_text_95 ic_1 ?_
    obtain ⟨rfl, rfl⟩ := aw_so h
    exact x_iret (pc := 96) dX9_text_96
  · have h := aw_pos h c_9
    refine x_bipush (pc := 58) (w := (-10)) dX9_text_58 bi_m10 ?_
    refine x_aload_n (pc := 60) 0 dX9_text_60 rfl rfl ?_
    refine x_get (pc := 61) dX9_text_61 lk_X9_59 gc_0 rfl rfl ?_
    refine x_get (pc := 64) dX9_text_64 lk_X9_172 gc_53 rfl rfl ?_
    refine x_isub (pc := 67) dX9_text_67 ?_
    obtain ⟨rfl, rfl⟩ := aw_so h
    exact x_iret (pc := 68) dX9_text_68
def fc_LB_text (p1 : Int32) (M : aw_M) : Option (Int32 × aw_M) :=
  aw_bi (fc_LB_isUse p1 M) fun r_2 M_3 => (
  if r_2 = 0 then (
    fc_LB_error 1 M_3
  ) else (
    if p1 = 0 then (
      fc_LB_text_J42  p1 0 (M_3 1 6) M_3
    ) else (
      fc_LB_text_J42  p1 1 (M_3 1 6) M_3
    )
  )
  )
set_option maxRecDepth 20000 in
theorem tc_LB_text {l : Launch} {D : va_G} {cy : Nat → ClassId} {ad : Nat → Nat} {A : Nat → Prop} (d : Nat) (hd : 482 ≤ d) (p1 : Int32) (M : aw_M) (r : Int32) (M1 : aw_M) (h : fc_LB_text p1 M = some (r, M1)) : AX l D cy ad A gc_G yX9_text cX9_text 3 (some .int) d [.ref (ad 0), .int p1] M (some (.int r)) M1 := by
  have hd1 : (d - 1) + 1 ≤ d := by omega
  have hm1 : 1 ≤ d := by omega
  have hh_0 : 0 ≤ d - 1 := by omega
  have hh_2 : 2 ≤ d - 1 := by omega
  have hh_481 : 481 ≤ d - 1 := by omega
  refine AX.of (own := RX9) (by decide +kernel) rfl (Nat.le_of_ble_eq_true rfl) ?_
  unfold fc_LB_text at h
  show AW l D cy ad A gc_G RX9 cX9_text 3 (some .int) d (some (.int r)) M1 0 [(0, .ref (ad 0)), (1, .int p1)] [] M
  refine x_iload_n (pc := 0) 1 dX9_text_0 rfl rfl ?_
  obtain ⟨r_2, M_3, e_1, h⟩ := aw_bi_e h
  refine x_callS (pc := 1) (As := [.int p1]) (rest := []) (st' := [.int r_2]) (w := (some (.int r_2))) dX9_text_1 cw_X9_161 hd1 rfl rfl (Nat.le_of_ble_eq_true rfl) (tc_LB_isUse (d - 1) hh_0 p1 _ _ _ e_1) rfl ?_
  refine x_if_ne (pc := 4) 13 dX9_text_4 (by decide) (fun c_4 => ?_) (fun c_4 => ?_)
  · have h := aw_neg h c_4
    refine x_aload_n (pc := 13) 0 dX9_text_13 rfl rfl ?_
    refine x_get (pc := 14) dX9_text_14 lk_X9_59 gc_0 rfl rfl ?_
    refine x_aload_n (pc := 17) 0 dX9_text_17 rfl rfl ?_
    refine x_get (pc := 18) dX9_text_18 lk_X9_10 gc_0 rfl rfl ?_
    refine x_get (pc := 21) dX9_text_21 lk_X9_157 gc_1 rfl rfl ?_
    refine x_aload_n (pc := 24) 0 dX9_text_24 rfl rfl ?_
    refine x_get (pc := 25) dX9_text_25 lk_X9_10 gc_0 rfl rfl ?_
    refine x_get (pc := 28) dX9_text_28 lk_X9_154 gc_1 rfl rfl ?_
    refine x_iload_n (pc := 31) 1 dX9_text_31 rfl rfl ?_
    refine x_if_ne (pc := 32) 40 dX9_text_32 (by decide) (fun c_5 => ?_) (fun c_5 => ?_)
    · have h := aw_neg h c_5
      refine x_lds1 (pc := 40) rfl dX9_text_40 ?_
      refine x_lv [0, 1] [(0, .ref (ad 0)), (1, .int p1)] rfl ?_
      exact tc_LB_text_J42 d hd  p1 1 (M_3 1 6) _ _ _ h
    · have h := aw_pos h c_5
      refine x_lds0 (pc := 35) rfl dX9_text_35 ?_
      refine x_goto (pc := 37) 42 dX9_text_37 (by decide) ?_
      refine x_lv [0, 1] [(0, .ref (ad 0)), (1, .int p1)] rfl ?_
      exact tc_LB_text_J42 d hd  p1 0 (M_3 1 6) _ _ _ h
  · have h := aw_pos h c_4
    refine x_aload_n (pc := 7) 0 dX9_text_7 rfl rfl ?_
    refine x_iconst (pc := 8) (w := 1) dX9_text_8 ic_1 ?_
    refine x_callV (pc := 9) (As := [.int 1]) (rest := []) (st' := [.int r]) (w := (some (.int r))) dX9_text_9 cw_X9_84 hd1 gc_0 rfl rfl rfl (Nat.le_of_ble_eq_true rfl) (tc_LB_error (d - 1) hh_0 1 _ _ _ h) rfl ?_
    exact x_iret (pc := 12) dX9_text_12
def fc_LB_law (p1 : Int32) (p2 : Int32) (p3 : Int32) (p4 : Int32) (M : aw_M) : Option (Int32 × aw_M) :=
  aw_bi (fc_LB_isUse p1 M) fun r_2 M_3 => (
  if r_2 = 0 then (
    fc_LB_error 1 M_3
  ) else (
    fc_St_gives p1 p2 p3 p4 M_3
  )
  )
set_option maxRecDepth 20000 in
theorem tc_LB_law {l : Launch} {D : va_G} {cy : Nat → ClassId} {ad : Nat → Nat} {A : Nat → Prop} (d : Nat) (hd : 3 ≤ d) (p1 : Int32) (p2 : Int32) (p3 : Int32) (p4 : Int32) (M : aw_M) (r : Int32) (M1 : aw_M) (h : fc_LB_law p1 p2 p3 p4 M = some (r, M1)) : AX l D cy ad A gc_G yX9_law cX9_law 5 (some .int) d [.ref (ad 0), .int p1, .int p2, .int p3, .int p4] M (some (.int r)) M1 := by
  have hd1 : (d - 1) + 1 ≤ d := by omega
  have hm1 : 1 ≤ d := by omega
  have hh_0 : 0 ≤ d - 1 := by omega
  have hh_2 : 2 ≤ d - 1 := by omega
  refine AX.of (own := RX9) (by decide +kernel) rfl (Nat.le_of_ble_eq_true rfl) ?_
  unfold fc_LB_law at h
  show AW l D cy ad A gc_G RX9 cX9_law 5 (some .int) d (some (.int r)) M1 0 [(0, .ref (ad 0)), (1, .int p1), (2, .int p2), (3, .int p3), (4, .int p4)] [] M
  refine x_iload_n (pc := 0) 1 dX9_law_0 rfl rfl ?_
  obtain ⟨r_2, M_3, e_1, h⟩ := aw_bi_e h
  refine x_callS (pc := 1) (As := [.int p1]) (rest := []) (st' := [.int r_2]) (w := (some (.int r_2))) dX9_law_1 cw_X9_161 hd1 rfl rfl (Nat.le_of_ble_eq_true rfl) (tc_LB_isUse (d - 1) hh_0 p1 _ _ _ e_1) rfl ?_
  refine x_if_ne (pc := 4) 13 dX9_law_4 (by decide) (fun c_4 => ?_) (fun c_4 => ?_)
  · have h := aw_neg h c_4
    refine x_aload_n (pc := 13) 0 dX9_law_13 rfl rfl ?_
    refine x_get (pc := 14) dX9_law_14 lk_X9_10 gc_0 rfl rfl ?_
    refine x_iload_n (pc := 17) 1 dX9_law_17 rfl rfl ?_
    refine x_iload_n (pc := 18) 2 dX9_law_18 rfl rfl ?_
    refine x_iload_n (pc := 19) 3 dX9_law_19 rfl rfl ?_
    refine x_iload (pc := 20) dX9_law_20 rfl ?_
    refine x_callV (pc := 22) (As := [.int p1, .int p2, .int p3, .int p4]) (rest := []) (st' := [.int r]) (w := (some (.int r))) dX9_law_22 cw_X9_191 hd1 gc_1 rfl rfl rfl (Nat.le_of_ble_eq_true rfl) (tc_St_gives (d - 1) hh_2 p1 p2 p3 p4 _ _ _ h) rfl ?_
    exact x_iret (pc := 25) dX9_law_25
  · have h := aw_pos h c_4
    refine x_aload_n (pc := 7) 0 dX9_law_7 rfl rfl ?_
    refine x_iconst (pc := 8) (w := 1) dX9_law_8 ic_1 ?_
    refine x_callV (pc := 9) (As := [.int 1]) (rest := []) (st' := [.int r]) (w := (some (.int r))) dX9_law_9 cw_X9_84 hd1 gc_0 rfl rfl rfl (Nat.le_of_ble_eq_true rfl) (tc_LB_error (d - 1) hh_0 1 _ _ _ h) rfl ?_
    exact x_iret (pc := 12) dX9_law_12
def fc_LB_sew_L69 : Nat → Int32 → Nat → Int32 → Int32 → aw_M → Option (Int32 × aw_M)
  | 0, _, _, _, _, _ => none
  | n + 1, p2, i3, p4, p5, M =>
    if p2 ≤ p5 then (
      some (p4, M)
    ) else (
      aw_bi (fc_St_sewYard i3 M) fun r_17 M_18 => (
      fc_LB_sew_L69 n p2 i3 (p4 + r_17) (p5 + 1) M_18
      )
    )
theorem fc_LB_sew_L69_s (n : Nat) (p2 : Int32) (i3 : Nat) (p4 : Int32) (p5 : Int32) (M : aw_M) : fc_LB_sew_L69 (n + 1) p2 i3 p4 p5 M = (
    if p2 ≤ p5 then (
      some (p4, M)
    ) else (
      aw_bi (fc_St_sewYard i3 M) fun r_17 M_18 => (
      fc_LB_sew_L69 n p2 i3 (p4 + r_17) (p5 + 1) M_18
      )
    )
    ) := rfl
set_option maxRecDepth 20000 in
theorem tc_LB_sew_L69 {l : Launch} {D : va_G} {cy : Nat → ClassId} {ad : Nat → Nat} {A : Nat → Prop} (d : Nat) (hd : 6 ≤ d) : ∀ (n : Nat) (p2 : Int32) (i3 : Nat) (h3 : i3 < 6) (p4 : Int32) (p5 : Int32) (M : aw_M) (r : Int32) (M1 : aw_M), fc_LB_sew_L69 n p2 i3 p4 p5 M = some (r, M1) → AW l D cy ad A gc_G RX9 cX9_sew 6 (some .int) d (some (.int r)) M1 69 [(0, .ref (ad 0)), (2, .int p2), (3, .ref (ad (39 + i3))), (4, .int p4), (5, .int p5)] [] M := by
  have hd1 : (d - 1) + 1 ≤ d := by omega
  have hm1 : 1 ≤ d := by omega
  have hh_0 : 0 ≤ d - 1 := by omega
  have hh_4 : 4 ≤ d - 1 := by omega
  have hh_5 : 5 ≤ d - 1 := by omega
  intro n
  induction n with
  | zero => intro p2 i3 h3 p4 p5 M r M1 h; cases h
  | succ n ih =>
    intro p2 i3 h3 p4 p5 M r M1 h
    rw [fc_LB_sew_L69_s] at h
    refine x_iload (pc := 69) dX9_sew_69 rfl ?_
    refine x_iload_n (pc := 71) 2 dX9_sew_71 rfl rfl ?_
    refine x_icmp_ge (pc := 72) 94 dX9_sew_72 (by decide) (fun c_15 => ?_) (fun c_15 => ?_)
    · have h := aw_pos h c_15
      refine x_iload (pc := 94) dX9_sew_94 rfl ?_
      obtain ⟨rfl, rfl⟩ := aw_so h
      exact x_iret (pc := 96) dX9_sew_96
    · have h := aw_neg h c_15
      refine x_iload (pc := 75) dX9_sew_75 rfl ?_
      refine x_aload_n (pc := 77) 0 dX9_sew_77 rfl rfl ?_
      refine x_get (pc := 78) dX9_sew_78 lk_X9_10 gc_0 rfl rfl ?_
      refine x_aload_n (pc := 81) 3 dX9_sew_81 rfl rfl ?_
      obtain ⟨r_17, M_18, e_16, h⟩ := aw_bi_e h
      refine x_callV (pc := 82) (As := [.ref (ad (39 + i3))]) (rest := [.int p4]) (st' := [.int r_17, .int p4]) (w := (some (.int r_17))) dX9_sew_82 cw_X9_203 hd1 gc_1 rfl rfl rfl (Nat.le_of_ble_eq_true rfl) (tc_St_sewYard (d - 1) hh_5 i3 h3 _ _ _ e_16) rfl ?_
      refine x_iadd (pc := 85) dX9_sew_85 ?_
      refine x_istore (pc := 86) 4 [(4, .int (p4 + r_17)), (0, .ref (ad 0)), (2, .int p2), (3, .ref (ad (39 + i3))), (5, .int p5)] dX9_sew_86 (by decide) rfl ?_
      refine x_iinc (pc := 88) (p5 + 1) [(5, .int (p5 + 1)), (4, .int (p4 + r_17)), (0, .ref (ad 0)), (2, .int p2), (3, .ref (ad (39 + i3)))] dX9_sew_88 rfl (congrArg (fun z => p5 + z) ic_1) (by decide) rfl ?_
      refine x_goto (pc := 91) 69 dX9_sew_91 (by decide) ?_
      refine x_lv [2, 3, 4, 1, 0] [(0, .ref (ad 0)), (2, .int p2), (3, .ref (ad (39 + i3))), (4, .int (p4 + r_17)), (5, .int (p5 + 1))] rfl ?_
      exact ih p2 i3 h3 (p4 + r_17) (p5 + 1) _ _ _ h
def fc_LB_sew (p1 : Int32) (p2 : Int32) (M : aw_M) : Option (Int32 × aw_M) :=
  aw_bi (fc_LB_hasCloth p1 M) fun r_2 M_3 => (
  if r_2 = 0 then (
    fc_LB_error 1 M_3
  ) else (
    if p2 < 1 then (
      fc_LB_error 1 M_3
    ) else (
      if p2 ≤ 200 then (
        aw_bi (fc_Ma_yardSeconds 0 M_3) fun r_8 M_9 => (
        if ((M_3 1 8) + (p2 * r_8)) ≤ 99999 then (
          aw_br (fc_LB_gaugeOf p1 M_9) fun i_12 M_13 => (
          if 6 ≤ i_12 then none else (
          fc_LB_sew_L69  2000 p2 i_12 0 0 M_13
          )
          )
        ) else (
          fc_LB_error 3 M_9
        )
        )
      ) else (
        fc_LB_error 1 M_3
      )
    )
  )
  )
set_option maxRecDepth 20000 in
theorem tc_LB_sew {l : Launch} {D : va_G} {cy : Nat → ClassId} {ad : Nat → Nat} {A : Nat → Prop} (d : Nat) (hd : 6 ≤ d) (p1 : Int32) (p2 : Int32) (M : aw_M) (r : Int32) (M1 : aw_M) (h : fc_LB_sew p1 p2 M = some (r, M1)) : AX l D cy ad A gc_G yX9_sew cX9_sew 6 (some .int) d [.ref (ad 0), .int p1, .int p2] M (some (.int r)) M1 := by
  have hd1 : (d - 1) + 1 ≤ d := by omega
  have hm1 : 1 ≤ d := by omega
  have hh_0 : 0 ≤ d - 1 := by omega
  have hh_4 : 4 ≤ d - 1 := by omega
  have hh_5 : 5 ≤ d - 1 := by omega
  refine AX.of (own := RX9) (by decide +kernel) rfl (Nat.le_of_ble_eq_true rfl) ?_
  unfold fc_LB_sew at h
  show AW l D cy ad A gc_G RX9 cX9_sew 6 (some .int) d (some (.int r)) M1 0 [(0, .ref (ad 0)), (1, .int p1), (2, .int p2)] [] M
  refine x_aload_n (pc := 0) 0 dX9_sew_0 rfl rfl ?_
  refine x_iload_n (pc := 1) 1 dX9_sew_1 rfl rfl ?_
  obtain ⟨r_2, M_3, e_1, h⟩ := aw_bi_e h
  refine x_callV (pc := 2) (As := [.int p1]) (rest := []) (st' := [.int r_2]) (w := (some (.int r_2))) dX9_sew_2 cw_X9_112 hd1 gc_0 rfl rfl rfl (Nat.le_of_ble_eq_true rfl) (tc_LB_hasCloth (d - 1) hh_0 p1 _ _ _ e_1) rfl ?_
  refine x_if_eq (pc := 5) 20 dX9_sew_5 (by decide) (fun c_4 => ?_) (fun c_4 => ?_)
  · have h := aw_pos h c_4
    refine x_aload_n (pc := 20) 0 dX9_sew_20 rfl rfl ?_
    refine x_iconst (pc := 21) (w := 1) dX9_sew_21 ic_1 ?_
    refine x_callV (pc := 22) (As := [.int 1]) (rest := []) (st' := [.int r]) (w := (some (.int r))) dX9_sew_22 cw_X9_84 hd1 gc_0 rfl rfl rfl (Nat.le_of_ble_eq_true rfl) (tc_LB_error (d - 1) hh_0 1 _ _ _ h) rfl ?_
    exact x_iret (pc := 25) dX9_sew_25
  · have h := aw_neg h c_4
    refine x_iload_n (pc := 8) 2 dX9_sew_8 rfl rfl ?_
    refine x_iconst (pc := 9) (w := 1) dX9_sew_9 ic_1 ?_
    refine x_icmp_lt (pc := 10) 20 dX9_sew_10 (by decide) (fun c_5 => ?_) (fun c_5 => ?_)
    · have h := aw_pos h c_5
      refine x_aload_n (pc := 20) 0 dX9_sew_20 rfl rfl ?_
      refine x_iconst (pc := 21) (w := 1) dX9_sew_21 ic_1 ?_
      refine x_callV (pc := 22) (As := [.int 1]) (rest := []) (st' := [.int r]) (w := (some (.int r))) dX9_sew_22 cw_X9_84 hd1 gc_0 rfl rfl rfl (Nat.le_of_ble_eq_true rfl) (tc_LB_error (d - 1) hh_0 1 _ _ _ h) rfl ?_
      exact x_iret (pc := 25) dX9_sew_25
    · have h := aw_neg h c_5
      refine x_iload_n (pc := 13) 2 dX9_sew_13 rfl rfl ?_
      refine x_sipush (pc := 14) (w := 200) dX9_sew_14 si_200 ?_
      refine x_icmp_le (pc := 17) 26 dX9_sew_17 (by decide) (fun c_6 => ?_) (fun c_6 => ?_)
      · have h := aw_pos h c_6
        refine x_aload_n (pc := 26) 0 dX9_sew_26 rfl rfl ?_
        refine x_get (pc := 27) dX9_sew_27 lk_X9_10 gc_0 rfl rfl ?_
        refine x_get (pc := 30) dX9_sew_30 lk_X9_195 gc_1 rfl rfl ?_
        refine x_iload_n (pc := 33) 2 dX9_sew_33 rfl rfl ?_
        refine x_aload_n (pc := 34) 0 dX9_sew_34 rfl rfl ?_
        refine x_get (pc := 35) dX9_sew_35 lk_X9_10 gc_0 rfl rfl ?_
        refine x_get (pc := 38) dX9_sew_38 lk_X9_87 gc_1 rfl rfl ?_
        obtain ⟨r_8, M_9, e_7, h⟩ := aw_bi_e h
        refine x_callV (pc := 41) (As := []) (rest := [.int p2, .int (M_3 1 8)]) (st' := [.int r_8, .int p2, .int (M_3 1 8)]) (w := (some (.int r_8))) dX9_sew_41 cw_X9_198 hd1 (gc_mach (i := 0) (by decide)) rfl rfl rfl (Nat.le_of_ble_eq_true rfl) (tc_Ma_yardSeconds (d - 1) hh_0 0 (by decide) _ _ _ e_7) rfl ?_
        refine x_imul (pc := 44) dX9_sew_44 ?_
        refine x_iadd (pc := 45) dX9_sew_45 ?_
        refine x_ldc (pc := 46) dX9_sew_46 wk_X9_202 ?_
        refine x_icmp_le (pc := 48) 57 dX9_sew_48 (by decide) (fun c_10 => ?_) (fun c_10 => ?_)
        · have h := aw_pos h c_10
          refine x_aload_n (pc := 57) 0 dX9_sew_57 rfl rfl ?_
          refine x_iload_n (pc := 58) 1 dX9_sew_58 rfl rfl ?_
          obtain ⟨i_12, M_13, e_11, h⟩ := aw_br_e h
          obtain ⟨c_14, h⟩ := aw_ck h
          refine x_callV (pc := 59) (As := [.int p1]) (rest := []) (st' := [.ref (ad (39 + i_12))]) (w := (some (.ref (ad (39 + i_12))))) dX9_sew_59 cw_X9_130 hd1 gc_0 rfl rfl rfl (Nat.le_of_ble_eq_true rfl) (tc_LB_gaugeOf (d - 1) hh_4 p1 _ _ _ e_11) rfl ?_
          refine x_astore_n (pc := 62) 3 [(3, .ref (ad (39 + i_12))), (0, .ref (ad 0)), (1, .int p1), (2, .int p2)] dX9_sew_62 rfl (by decide) rfl ?_
          refine x_iconst (pc := 63) (w := 0) dX9_sew_63 ic_0 ?_
          refine x_istore (pc := 64) 4 [(4, .int 0), (3, .ref (ad (39 + i_12))), (0, .ref (ad 0)), (1, .int p1), (2, .int p2)] dX9_sew_64 (by decide) rfl ?_
          refine x_iconst (pc := 66) (w := 0) dX9_sew_66 ic_0 ?_
          refine x_istore (pc := 67) 5 [(5, .int 0), (4, .int 0), (3, .ref (ad (39 + i_12))), (0, .ref (ad 0)), (1, .int p1), (2, .int p2)] dX9_sew_67 (by decide) rfl ?_
          refine x_lv [3, 5, 2, 1, 0] [(0, .ref (ad 0)), (2, .int p2), (3, .ref (ad (39 + i_12))), (4, .int 0), (5, .int 0)] rfl ?_
          exact tc_LB_sew_L69 d hd  2000 p2 i_12 (Nat.lt_of_not_le c_14) 0 0 _ _ _ h
        · have h := aw_neg h c_10
          refine x_aload_n (pc := 51) 0 dX9_sew_51 rfl rfl ?_
          refine x_iconst (pc := 52) (w := 3) dX9_sew_52 ic_3 ?_
          refine x_callV (pc := 53) (As := [.int 3]) (rest := []) (st' := [.int r]) (w := (some (.int r))) dX9_sew_53 cw_X9_84 hd1 gc_0 rfl rfl rfl (Nat.le_of_ble_eq_true rfl) (tc_LB_error (d - 1) hh_0 3 _ _ _ h) rfl ?_
          exact x_iret (pc := 56) dX9_sew_56
      · have h := aw_neg h c_6
        refine x_aload_n (pc := 20) 0 dX9_sew_20 rfl rfl ?_
        refine x_iconst (pc := 21) (w := 1) dX9_sew_21 ic_1 ?_
        refine x_callV (pc := 22) (As := [.int 1]) (rest := []) (st' := [.int r]) (w := (some (.int r))) dX9_sew_22 cw_X9_84 hd1 gc_0 rfl rfl rfl (Nat.le_of_ble_eq_true rfl) (tc_LB_error (d - 1) hh_0 1 _ _ _ h) rfl ?_
        exact x_iret (pc := 25) dX9_sew_25
def fc_LB_deed (p1 : Int32) (M : aw_M) : Option (Int32 × aw_M) :=
  if p1 < 0 then (
    fc_LB_error 1 M
  ) else (
    if p1 < 7 then (
      aw_bi (fc_Ma_hasRoomFor 0 p1 M) fun r_4 M_5 => (
      if r_4 = 0 then (
        fc_LB_error 3 M_5
      ) else (
        if aw_in p1 7 then none else (
        if ((M_5 1 8) + (aw_t0.getD p1.toNatClampNeg 0)) ≤ 99999 then (
          aw_bv (fc_St_follow p1 M_5) fun M_10 => (
          some ((M_10 1 8), M_10)
          )
        ) else (
          fc_LB_error 3 M_5
        )
        )
      )
      )
    ) else (
      fc_LB_error 1 M
    )
  )
set_option maxRecDepth 20000 in
theorem tc_LB_deed {l : Launch} {D : va_G} {cy : Nat → ClassId} {ad : Nat → Nat} {A : Nat → Prop} (d : Nat) (hd : 2 ≤ d) (p1 : Int32) (M : aw_M) (r : Int32) (M1 : aw_M) (h : fc_LB_deed p1 M = some (r, M1)) : AX l D cy ad A gc_G yX9_deed cX9_deed 2 (some .int) d [.ref (ad 0), .int p1] M (some (.int r)) M1 := by
  have hd1 : (d - 1) + 1 ≤ d := by omega
  have hm1 : 1 ≤ d := by omega
  have hh_0 : 0 ≤ d - 1 := by omega
  have hh_1 : 1 ≤ d - 1 := by omega
  refine AX.of (own := RX9) (by decide +kernel) rfl (Nat.le_of_ble_eq_true rfl) ?_
  unfold fc_LB_deed at h
  show AW l D cy ad A gc_G RX9 cX9_deed 2 (some .int) d (some (.int r)) M1 0 [(0, .ref (ad 0)), (1, .int p1)] [] M
  refine x_iload_n (pc := 0) 1 dX9_deed_0 rfl rfl ?_
  refine x_if_lt (pc := 1) 10 dX9_deed_1 (by decide) (fun c_1 => ?_) (fun c_1 => ?_)
  · have h := aw_pos h c_1
    refine x_aload_n (pc := 10) 0 dX9_deed_10 rfl rfl ?_
    refine x_iconst (pc := 11) (w := 1) dX9_deed_11 ic_1 ?_
    refine x_callV (pc := 12) (As := [.int 1]) (rest := []) (st' := [.int r]) (w := (some (.int r))) dX9_deed_12 cw_X9_84 hd1 gc_0 rfl rfl rfl (Nat.le_of_ble_eq_true rfl) (tc_LB_error (d - 1) hh_0 1 _ _ _ h) rfl ?_
    exact x_iret (pc := 15) dX9_deed_15
  · have h := aw_neg h c_1
    refine x_iload_n (pc := 4) 1 dX9_deed_4 rfl rfl ?_
    refine x_bipush (pc := 5) (w := 7) dX9_deed_5 bi_7 ?_
    refine x_icmp_lt (pc := 7) 16 dX9_deed_7 (by decide) (fun c_2 => ?_) (fun c_2 => ?_)
    · have h := aw_pos h c_2
      refine x_aload_n (pc := 16) 0 dX9_deed_16 rfl rfl ?_
      refine x_get (pc := 17) dX9_deed_17 lk_X9_10 gc_0 rfl rfl ?_
      refine x_get (pc := 20) dX9_deed_20 lk_X9_87 gc_1 rfl rfl ?_
      refine x_iload_n (pc := 23) 1 dX9_deed_23 rfl rfl ?_
      obtain ⟨r_4, M_5, e_3, h⟩ := aw_bi_e h
      refine x_callV (pc := 24) (As := [.int p1]) (rest := []) (st' := [.int r_4]) (w := (some (.int r_4))) dX9_deed_24 cw_X9_207 hd1 (gc_mach (i := 0) (by decide)) rfl rfl rfl (Nat.le_of_ble_eq_true rfl) (tc_Ma_hasRoomFor (d - 1) hh_0 0 (by decide) p1 _ _ _ e_3) rfl ?_
      refine x_if_eq (pc := 27) 48 dX9_deed_27 (by decide) (fun c_6 => ?_) (fun c_6 => ?_)
      · have h := aw_pos h c_6
        refine x_aload_n (pc := 48) 0 dX9_deed_48 rfl rfl ?_
        refine x_iconst (pc := 49) (w := 3) dX9_deed_49 ic_3 ?_
        refine x_callV (pc := 50) (As := [.int 3]) (rest := []) (st' := [.int r]) (w := (some (.int r))) dX9_deed_50 cw_X9_84 hd1 gc_0 rfl rfl rfl (Nat.le_of_ble_eq_true rfl) (tc_LB_error (d - 1) hh_0 3 _ _ _ h) rfl ?_
        exact x_iret (pc := 53) dX9_deed_53
      · have h := aw_neg h c_6
        refine x_aload_n (pc := 30) 0 dX9_deed_30 rfl rfl ?_
        refine x_get (pc := 31) dX9_deed_31 lk_X9_10 gc_0 rfl rfl ?_
        refine x_get (pc := 34) dX9_deed_34 lk_X9_195 gc_1 rfl rfl ?_
        refine x_gs0 (pc := 37) dX9_deed_37 (tb_in (i := 702) (by decide +kernel) rfl) ?_
        refine x_iload_n (pc := 40) 1 dX9_deed_40 rfl rfl ?_
        obtain ⟨c_7, h⟩ := aw_ck h
        refine x_ti0 (pc := 41) dX9_deed_41 c_7 ?_
        refine x_iadd (pc := 42) dX9_deed_42 ?_
        refine x_ldc (pc := 43) dX9_deed_43 wk_X9_202 ?_
        refine x_icmp_le (pc := 45) 54 dX9_deed_45 (by decide) (fun c_8 => ?_) (fun c_8 => ?_)
        · have h := aw_pos h c_8
          refine x_aload_n (pc := 54) 0 dX9_deed_54 rfl rfl ?_
          refine x_get (pc := 55) dX9_deed_55 lk_X9_10 gc_0 rfl rfl ?_
          refine x_iload_n (pc := 58) 1 dX9_deed_58 rfl rfl ?_
          obtain ⟨M_10, e_9, h⟩ := aw_bv_e h
          refine x_callV (pc := 59) (As := [.int p1]) (rest := []) (st' := []) (w := none) dX9_deed_59 cw_X9_213 hd1 gc_1 rfl rfl rfl (Nat.le_of_ble_eq_true rfl) (tc_St_follow (d - 1) hh_1 p1 _  _ e_9) rfl ?_
          refine x_aload_n (pc := 62) 0 dX9_deed_62 rfl rfl ?_
          refine x_get (pc := 63) dX9_deed_63 lk_X9_10 gc_0 rfl rfl ?_
          refine x_get (pc := 66) dX9_deed_66 lk_X9_195 gc_1 rfl rfl ?_
          obtain ⟨rfl, rfl⟩ := aw_so h
          exact x_iret (pc := 69) dX9_deed_69
        · have h := aw_neg h c_8
          refine x_aload_n (pc := 48) 0 dX9_deed_48 rfl rfl ?_
          refine x_iconst (pc := 49) (w := 3) dX9_deed_49 ic_3 ?_
          refine x_callV (pc := 50) (As := [.int 3]) (rest := []) (st' := [.int r]) (w := (some (.int r))) dX9_deed_50 cw_X9_84 hd1 gc_0 rfl rfl rfl (Nat.le_of_ble_eq_true rfl) (tc_LB_error (d - 1) hh_0 3 _ _ _ h) rfl ?_
          exact x_iret (pc := 53) dX9_deed_53
    · have h := aw_neg h c_2
      refine x_aload_n (pc := 10) 0 dX9_deed_10 rfl rfl ?_
      refine x_iconst (pc := 11) (w := 1) dX9_deed_11 ic_1 ?_
      refine x_callV (pc := 12) (As := [.int 1]) (rest := []) (st' := [.int r]) (w := (some (.int r))) dX9_deed_12 cw_X9_84 hd1 gc_0 rfl rfl rfl (Nat.le_of_ble_eq_true rfl) (tc_LB_error (d - 1) hh_0 1 _ _ _ h) rfl ?_
      exact x_iret (pc := 15) dX9_deed_15
def fc_LB_evening  (M : aw_M) : Option (Int32 × aw_M) :=
  aw_bi (fc_St_draw  M) fun r_2 M_3 => (
  aw_bi (fc_St_draw  M_3) fun r_5 M_6 => (
  aw_bi (fc_Ma_hasRoomFor 0 (aw_rem r_2 7) M_6) fun r_8 M_9 => (
  if r_8 = 0 then (
    if (M_9 1 5) = 0 then (
      some (0, M_9)
    ) else (
      if (M_9 1 5) = 0 then none else (
      if aw_in (aw_rem r_5 (M_9 1 5)) 6 then none else (
      fc_St_sewYard ((aw_rem r_5 (M_9 1 5)).toNatClampNeg) M_9
      )
      )
    )
  ) else (
    aw_bv (fc_St_follow (aw_rem r_2 7) M_9) fun M_15 => (
    if (M_15 1 5) = 0 then (
      some (0, M_15)
    ) else (
      if (M_15 1 5) = 0 then none else (
      if aw_in (aw_rem r_5 (M_15 1 5)) 6 then none else (
      fc_St_sewYard ((aw_rem r_5 (M_15 1 5)).toNatClampNeg) M_15
      )
      )
    )
    )
  )
  )
  )
  )
set_option maxRecDepth 20000 in
theorem tc_LB_evening {l : Launch} {D : va_G} {cy : Nat → ClassId} {ad : Nat → Nat} {A : Nat → Prop} (d : Nat) (hd : 6 ≤ d)  (M : aw_M) (r : Int32) (M1 : aw_M) (h : fc_LB_evening  M = some (r, M1)) : AX l D cy ad A gc_G yX9_evening cX9_evening 3 (some .int) d [.ref (ad 0)] M (some (.int r)) M1 := by
  have hd1 : (d - 1) + 1 ≤ d := by omega
  have hm1 : 1 ≤ d := by omega
  have hh_0 : 0 ≤ d - 1 := by omega
  have hh_1 : 1 ≤ d - 1 := by omega
  have hh_5 : 5 ≤ d - 1 := by omega
  refine AX.of (own := RX9) (by decide +kernel) rfl (Nat.le_of_ble_eq_true rfl) ?_
  unfold fc_LB_evening at h
  show AW l D cy ad A gc_G RX9 cX9_evening 3 (some .int) d (some (.int r)) M1 0 [(0, .ref (ad 0))] [] M
  refine x_aload_n (pc := 0) 0 dX9_evening_0 rfl rfl ?_
  refine x_get (pc := 1) dX9_evening_1 lk_X9_10 gc_0 rfl rfl ?_
  obtain ⟨r_2, M_3, e_1, h⟩ := aw_bi_e h
  refine x_callV (pc := 4) (As := []) (rest := []) (st' := [.int r_2]) (w := (some (.int r_2))) dX9_evening_4 cw_X9_358 hd1 gc_1 rfl rfl rfl (Nat.le_of_ble_eq_true rfl) (tc_St_draw (d - 1) hh_0  _ _ _ e_1) rfl ?_
  refine x_bipush (pc := 7) (w := 7) dX9_evening_7 bi_7 ?_
  refine x_irem (pc := 9) dX9_evening_9 (by decide) ?_
  refine x_istore_n (pc := 10) 1 [(1, .int (aw_rem r_2 7)), (0, .ref (ad 0))] dX9_evening_10 rfl (by decide) rfl ?_
  refine x_aload_n (pc := 11) 0 dX9_evening_11 rfl rfl ?_
  refine x_get (pc := 12) dX9_evening_12 lk_X9_10 gc_0 rfl rfl ?_
  obtain ⟨r_5, M_6, e_4, h⟩ := aw_bi_e h
  refine x_callV (pc := 15) (As := []) (rest := []) (st' := [.int r_5]) (w := (some (.int r_5))) dX9_evening_15 cw_X9_358 hd1 gc_1 rfl rfl rfl (Nat.le_of_ble_eq_true rfl) (tc_St_draw (d - 1) hh_0  _ _ _ e_4) rfl ?_
  refine x_istore_n (pc := 18) 2 [(2, .int r_5), (1, .int (aw_rem r_2 7)), (0, .ref (ad 0))] dX9_evening_18 rfl (by decide) rfl ?_
  refine x_aload_n (pc := 19) 0 dX9_evening_19 rfl rfl ?_
  refine x_get (pc := 20) dX9_evening_20 lk_X9_10 gc_0 rfl rfl ?_
  refine x_get (pc := 23) dX9_evening_23 lk_X9_87 gc_1 rfl rfl ?_
  refine x_iload_n (pc := 26) 1 dX9_evening_26 rfl rfl ?_
  obtain ⟨r_8, M_9, e_7, h⟩ := aw_bi_e h
  refine x_callV (pc := 27) (As := [.int (aw_rem r_2 7)]) (rest := []) (st' := [.int r_8]) (w := (some (.int r_8))) dX9_evening_27 cw_X9_207 hd1 (gc_mach (i := 0) (by decide)) rfl rfl rfl (Nat.le_of_ble_eq_true rfl) (tc_Ma_hasRoomFor (d - 1) hh_0 0 (by decide) (aw_rem r_2 7) _ _ _ e_7) rfl ?_
  refine x_if_eq (pc := 30) 41 dX9_evening_30 (by decide) (fun c_10 => ?_) (fun c_10 => ?_)
  · have h := aw_pos h c_10
    refine x_aload_n (pc := 41) 0 dX9_evening_41 rfl rfl ?_
    refine x_get (pc := 42) dX9_evening_42 lk_X9_10 gc_0 rfl rfl ?_
    refine x_get (pc := 45) dX9_evening_45 lk_X9_104 gc_1 rfl rfl ?_
    refine x_if_ne (pc := 48) 53 dX9_evening_48 (by decide) (fun c_11 => ?_) (fun c_11 => ?_)
    · have h := aw_neg h c_11
      refine x_aload_n (pc := 53) 0 dX9_evening_53 rfl rfl ?_
      refine x_get (pc := 54) dX9_evening_54 lk_X9_10 gc_0 rfl rfl ?_
      refine x_aload_n (pc := 57) 0 dX9_evening_57 rfl rfl ?_
      refine x_get (pc := 58) dX9_evening_58 lk_X9_32 gc_0 rfl rfl ?_
      refine x_iload_n (pc := 61) 2 dX9_evening_61 rfl rfl ?_
      refine x_aload_n (pc := 62) 0 dX9_evening_62 rfl rfl ?_
      refine x_get (pc := 63) dX9_evening_63 lk_X9_10 gc_0 rfl rfl ?_
      refine x_get (pc := 66) dX9_evening_66 lk_X9_104 gc_1 rfl rfl ?_
      obtain ⟨c_12, h⟩ := aw_ck h
      refine x_irem (pc := 69) dX9_evening_69 c_12 ?_
      obtain ⟨c_13, h⟩ := aw_ck h
      refine x_aald (pc := 70) dX9_evening_70 gc_38 (fun _ => rfl) c_13 (ga_38 (aw_lt c_13)) ?_
      refine x_callV (pc := 71) (As := [.ref (ad (39 + (aw_rem r_5 (M_9 1 5)).toNatClampNeg))]) (rest := []) (st' := [.int r]) (w := (some (.int r))) dX9_evening_71 cw_X9_203 hd1 gc_1 rfl rfl rfl (Nat.le_of_ble_eq_true rfl) (tc_St_sewYard (d - 1) hh_5 ((aw_rem r_5 (M_9 1 5)).toNatClampNeg) (aw_lt c_13) _ _ _ h) rfl ?_
      exact x_iret (pc := 74) dX9_evening_74
    · have h := aw_pos h c_11
      refine x_iconst (pc := 51) (w := 0) dX9_evening_51 ic_0 ?_
      obtain ⟨rfl, rfl⟩ := aw_so h
      exact x_iret (pc := 52) dX9_evening_52
  · have h := aw_neg h c_10
    refine x_aload_n (pc := 33) 0 dX9_evening_33 rfl rfl ?_
    refine x_get (pc := 34) dX9_evening_34 lk_X9_10 gc_0 rfl rfl ?_
    refine x_iload_n (pc := 37) 1 dX9_evening_37 rfl rfl ?_
    obtain ⟨M_15, e_14, h⟩ := aw_bv_e h
    refine x_callV (pc := 38) (As := [.int (aw_rem r_2 7)]) (rest := []) (st' := []) (w := none) dX9_evening_38 cw_X9_213 hd1 gc_1 rfl rfl rfl (Nat.le_of_ble_eq_true rfl) (tc_St_follow (d - 1) hh_1 (aw_rem r_2 7) _  _ e_14) rfl ?_
    refine x_aload_n (pc := 41) 0 dX9_evening_41 rfl rfl ?_
    refine x_get (pc := 42) dX9_evening_42 lk_X9_10 gc_0 rfl rfl ?_
    refine x_get (pc := 45) dX9_evening_45 lk_X9_104 gc_1 rfl rfl ?_
    refine x_if_ne (pc := 48) 53 dX9_evening_48 (by decide) (fun c_16 => ?_) (fun c_16 => ?_)
    · have h := aw_neg h c_16
      refine x_aload_n (pc := 53) 0 dX9_evening_53 rfl rfl ?_
      refine x_get (pc := 54) dX9_evening_54 lk_X9_10 gc_0 rfl rfl ?_
      refine x_aload_n (pc := 57) 0 dX9_evening_57 rfl rfl ?_
      refine x_get (pc := 58) dX9_evening_58 lk_X9_32 gc_0 rfl rfl ?_
      refine x_iload_n (pc := 61) 2 dX9_evening_61 rfl rfl ?_
      refine x_aload_n (pc := 62) 0 dX9_evening_62 rfl rfl ?_
      refine x_get (pc := 63) dX9_evening_63 lk_X9_10 gc_0 rfl rfl ?_
      refine x_get (pc := 66) dX9_evening_66 lk_X9_104 gc_1 rfl rfl ?_
      obtain ⟨c_17, h⟩ := aw_ck h
      refine x_irem (pc := 69) dX9_evening_69 c_17 ?_
      obtain ⟨c_18, h⟩ := aw_ck h
      refine x_aald (pc := 70) dX9_evening_70 gc_38 (fun _ => rfl) c_18 (ga_38 (aw_lt c_18)) ?_
      refine x_callV (pc := 71) (As := [.ref (ad (39 + (aw_rem r_5 (M_15 1 5)).toNatClampNeg))]) (rest := []) (st' := [.int r]) (w := (some (.int r))) dX9_evening_71 cw_X9_203 hd1 gc_1 rfl rfl rfl (Nat.le_of_ble_eq_true rfl) (tc_St_sewYard (d - 1) hh_5 ((aw_rem r_5 (M_15 1 5)).toNatClampNeg) (aw_lt c_18) _ _ _ h) rfl ?_
      exact x_iret (pc := 74) dX9_evening_74
    · have h := aw_pos h c_16
      refine x_iconst (pc := 51) (w := 0) dX9_evening_51 ic_0 ?_
      obtain ⟨rfl, rfl⟩ := aw_so h
      exact x_iret (pc := 52) dX9_evening_52
def fc_LB_refreshGauges_L2 : Nat → Int32 → aw_M → Option aw_M
  | 0, _, _ => none
  | n + 1, p1, M =>
    if (M 1 5) ≤ p1 then (
      some M
    ) else (
      if aw_in p1 6 then none else (
      aw_bv (fc_Ga_refresh p1.toNatClampNeg M) fun M_4 => (
      fc_LB_refreshGauges_L2 n (p1 + 1) M_4
      )
      )
    )
theorem fc_LB_refreshGauges_L2_s (n : Nat) (p1 : Int32) (M : aw_M) : fc_LB_refreshGauges_L2 (n + 1) p1 M = (
    if (M 1 5) ≤ p1 then (
      some M
    ) else (
      if aw_in p1 6 then none else (
      aw_bv (fc_Ga_refresh p1.toNatClampNeg M) fun M_4 => (
      fc_LB_refreshGauges_L2 n (p1 + 1) M_4
      )
      )
    )
    ) := rfl
set_option maxRecDepth 20000 in
theorem tc_LB_refreshGauges_L2 {l : Launch} {D : va_G} {cy : Nat → ClassId} {ad : Nat → Nat} {A : Nat → Prop} (d : Nat) (hd : 4 ≤ d) : ∀ (n : Nat) (p1 : Int32) (M : aw_M) (M1 : aw_M), fc_LB_refreshGauges_L2 n p1 M = some M1 → AW l D cy ad A gc_G RX9 cX9_refreshGauges 2 none d none M1 2 [(0, .ref (ad 0)), (1, .int p1)] [] M := by
  have hd1 : (d - 1) + 1 ≤ d := by omega
  have hm1 : 1 ≤ d := by omega
  have hh_3 : 3 ≤ d - 1 := by omega
  intro n
  induction n with
  | zero => intro p1 M M1 h; cases h
  | succ n ih =>
    intro p1 M M1 h
    rw [fc_LB_refreshGauges_L2_s] at h
    refine x_iload_n (pc := 2) 1 dX9_refreshGauges_2 rfl rfl ?_
    refine x_aload_n (pc := 3) 0 dX9_refreshGauges_3 rfl rfl ?_
    refine x_get (pc := 4) dX9_refreshGauges_4 lk_X9_10 gc_0 rfl rfl ?_
    refine x_get (pc := 7) dX9_refreshGauges_7 lk_X9_104 gc_1 rfl rfl ?_
    refine x_icmp_ge (pc := 10) 28 dX9_refreshGauges_10 (by decide) (fun c_1 => ?_) (fun c_1 => ?_)
    · have h := aw_pos h c_1
      obtain rfl := aw_sv h
      exact x_vret (pc := 28) dX9_refreshGauges_28
    · have h := aw_neg h c_1
      refine x_aload_n (pc := 13) 0 dX9_refreshGauges_13 rfl rfl ?_
      refine x_get (pc := 14) dX9_refreshGauges_14 lk_X9_32 gc_0 rfl rfl ?_
      refine x_iload_n (pc := 17) 1 dX9_refreshGauges_17 rfl rfl ?_
      obtain ⟨c_2, h⟩ := aw_ck h
      refine x_aald (pc := 18) dX9_refreshGauges_18 gc_38 (fun _ => rfl) c_2 (ga_38 (aw_lt c_2)) ?_
      obtain ⟨M_4, e_3, h⟩ := aw_bv_e h
      refine x_callV (pc := 19) (As := []) (rest := []) (st' := []) (w := none) dX9_refreshGauges_19 cw_X9_355 hd1 (gc_gauge (i := p1.toNatClampNeg) (aw_lt c_2)) rfl rfl rfl (Nat.le_of_ble_eq_true rfl) (tc_Ga_refresh (d - 1) hh_3 p1.toNatClampNeg (aw_lt c_2) _  _ e_3) rfl ?_
      refine x_iinc (pc := 22) (p1 + 1) [(1, .int (p1 + 1)), (0, .ref (ad 0))] dX9_refreshGauges_22 rfl (congrArg (fun z => p1 + z) ic_1) (by decide) rfl ?_
      refine x_goto (pc := 25) 2 dX9_refreshGauges_25 (by decide) ?_
      refine x_lv [1, 0] [(0, .ref (ad 0)), (1, .int (p1 + 1))] rfl ?_
      exact ih (p1 + 1) _ _ h
def fc_LB_refreshGauges  (M : aw_M) : Option aw_M :=
  fc_LB_refreshGauges_L2  2000 0 M
set_option maxRecDepth 20000 in
theorem tc_LB_refreshGauges {l : Launch} {D : va_G} {cy : Nat → ClassId} {ad : Nat → Nat} {A : Nat → Prop} (d : Nat) (hd : 4 ≤ d)  (M : aw_M) (M1 : aw_M) (h : fc_LB_refreshGauges  M = some M1) : AX l D cy ad A gc_G yX9_refreshGauges cX9_refreshGauges 2 none d [.ref (ad 0)] M none M1 := by
  have hd1 : (d - 1) + 1 ≤ d := by omega
  have hm1 : 1 ≤ d := by omega
  have hh_3 : 3 ≤ d - 1 := by omega
  refine AX.of (own := RX9) (by decide +kernel) rfl (Nat.le_of_ble_eq_true rfl) ?_
  unfold fc_LB_refreshGauges at h
  show AW l D cy ad A gc_G RX9 cX9_refreshGauges 2 none d none M1 0 [(0, .ref (ad 0))] [] M
  refine x_iconst (pc := 0) (w := 0) dX9_refreshGauges_0 ic_0 ?_
  refine x_istore_n (pc := 1) 1 [(1, .int 0), (0, .ref (ad 0))] dX9_refreshGauges_1 rfl (by decide) rfl ?_
  refine x_lv [1, 0] [(0, .ref (ad 0)), (1, .int 0)] rfl ?_
  exact tc_LB_refreshGauges_L2 d hd  2000 0 _ _ h
def fc_LB_loose_L48 : Nat → Int32 → Int32 → Int32 → aw_M → Option (Int32 × aw_M)
  | 0, _, _, _, _ => none
  | n + 1, p1, p2, p3, M =>
    if p1 ≤ p3 then (
      some (p2, M)
    ) else (
      aw_bi (fc_LB_evening  M) fun r_8 M_9 => (
      fc_LB_loose_L48 n p1 (p2 + r_8) (p3 + 1) M_9
      )
    )
theorem fc_LB_loose_L48_s (n : Nat) (p1 : Int32) (p2 : Int32) (p3 : Int32) (M : aw_M) : fc_LB_loose_L48 (n + 1) p1 p2 p3 M = (
    if p1 ≤ p3 then (
      some (p2, M)
    ) else (
      aw_bi (fc_LB_evening  M) fun r_8 M_9 => (
      fc_LB_loose_L48 n p1 (p2 + r_8) (p3 + 1) M_9
      )
    )
    ) := rfl
set_option maxRecDepth 20000 in
theorem tc_LB_loose_L48 {l : Launch} {D : va_G} {cy : Nat → ClassId} {ad : Nat → Nat} {A : Nat → Prop} (d : Nat) (hd : 7 ≤ d) : ∀ (n : Nat) (p1 : Int32) (p2 : Int32) (p3 : Int32) (M : aw_M) (r : Int32) (M1 : aw_M), fc_LB_loose_L48 n p1 p2 p3 M = some (r, M1) → AW l D cy ad A gc_G RX9 cX9_loose 4 (some .int) d (some (.int r)) M1 48 [(0, .ref (ad 0)), (1, .int p1), (2, .int p2), (3, .int p3)] [] M := by
  have hd1 : (d - 1) + 1 ≤ d := by omega
  have hm1 : 1 ≤ d := by omega
  have hh_0 : 0 ≤ d - 1 := by omega
  have hh_4 : 4 ≤ d - 1 := by omega
  have hh_6 : 6 ≤ d - 1 := by omega
  intro n
  induction n with
  | zero => intro p1 p2 p3 M r M1 h; cases h
  | succ n ih =>
    intro p1 p2 p3 M r M1 h
    rw [fc_LB_loose_L48_s] at h
    refine x_iload_n (pc := 48) 3 dX9_loose_48 rfl rfl ?_
    refine x_iload_n (pc := 49) 1 dX9_loose_49 rfl rfl ?_
    refine x_icmp_ge (pc := 50) 66 dX9_loose_50 (by decide) (fun c_6 => ?_) (fun c_6 => ?_)
    · have h := aw_pos h c_6
      refine x_iload_n (pc := 66) 2 dX9_loose_66 rfl rfl ?_
      obtain ⟨rfl, rfl⟩ := aw_so h
      exact x_iret (pc := 67) dX9_loose_67
    · have h := aw_neg h c_6
      refine x_iload_n (pc := 53) 2 dX9_loose_53 rfl rfl ?_
      refine x_aload_n (pc := 54) 0 dX9_loose_54 rfl rfl ?_
      obtain ⟨r_8, M_9, e_7, h⟩ := aw_bi_e h
      refine x_callV (pc := 55) (As := []) (rest := [.int p2]) (st' := [.int r_8, .int p2]) (w := (some (.int r_8))) dX9_loose_55 cw_X9_219 hd1 gc_0 rfl rfl rfl (Nat.le_of_ble_eq_true rfl) (tc_LB_evening (d - 1) hh_6  _ _ _ e_7) rfl ?_
      refine x_iadd (pc := 58) dX9_loose_58 ?_
      refine x_istore_n (pc := 59) 2 [(2, .int (p2 + r_8)), (0, .ref (ad 0)), (1, .int p1), (3, .int p3)] dX9_loose_59 rfl (by decide) rfl ?_
      refine x_iinc (pc := 60) (p3 + 1) [(3, .int (p3 + 1)), (2, .int (p2 + r_8)), (0, .ref (ad 0)), (1, .int p1)] dX9_loose_60 rfl (congrArg (fun z => p3 + z) ic_1) (by decide) rfl ?_
      refine x_goto (pc := 63) 48 dX9_loose_63 (by decide) ?_
      refine x_lv [2, 3, 1, 0] [(0, .ref (ad 0)), (1, .int p1), (2, .int (p2 + r_8)), (3, .int (p3 + 1))] rfl ?_
      exact ih p1 (p2 + r_8) (p3 + 1) _ _ _ h
def fc_LB_loose (p1 : Int32) (M : aw_M) : Option (Int32 × aw_M) :=
  if p1 < 1 then (
    fc_LB_error 1 M
  ) else (
    if p1 ≤ 40 then (
      if ((M 1 8) + (30 * p1)) ≤ 99999 then (
        aw_bv (fc_LB_refreshGauges  M) fun M_5 => (
        fc_LB_loose_L48  2000 p1 0 0 M_5
        )
      ) else (
        fc_LB_error 3 M
      )
    ) else (
      fc_LB_error 1 M
    )
  )
set_option maxRecDepth 20000 in
theorem tc_LB_loose {l : Launch} {D : va_G} {cy : Nat → ClassId} {ad : Nat → Nat} {A : Nat → Prop} (d : Nat) (hd : 7 ≤ d) (p1 : Int32) (M : aw_M) (r : Int32) (M1 : aw_M) (h : fc_LB_loose p1 M = some (r, M1)) : AX l D cy ad A gc_G yX9_loose cX9_loose 4 (some .int) d [.ref (ad 0), .int p1] M (some (.int r)) M1 := by
  have hd1 : (d - 1) + 1 ≤ d := by omega
  have hm1 : 1 ≤ d := by omega
  have hh_0 : 0 ≤ d - 1 := by omega
  have hh_4 : 4 ≤ d - 1 := by omega
  have hh_6 : 6 ≤ d - 1 := by omega
  refine AX.of (own := RX9) (by decide +kernel) rfl (Nat.le_of_ble_eq_true rfl) ?_
  unfold fc_LB_loose at h
  show AW l D cy ad A gc_G RX9 cX9_loose 4 (some .int) d (some (.int r)) M1 0 [(0, .ref (ad 0)), (1, .int p1)] [] M
  refine x_iload_n (pc := 0) 1 dX9_loose_0 rfl rfl ?_
  refine x_iconst (pc := 1) (w := 1) dX9_loose_1 ic_1 ?_
  refine x_icmp_lt (pc := 2) 11 dX9_loose_2 (by decide) (fun c_1 => ?_) (fun c_1 => ?_)
  · have h := aw_pos h c_1
    refine x_aload_n (pc := 11) 0 dX9_loose_11 rfl rfl ?_
    refine x_iconst (pc := 12) (w := 1) dX9_loose_12 ic_1 ?_
    refine x_callV (pc := 13) (As := [.int 1]) (rest := []) (st' := [.int r]) (w := (some (.int r))) dX9_loose_13 cw_X9_84 hd1 gc_0 rfl rfl rfl (Nat.le_of_ble_eq_true rfl) (tc_LB_error (d - 1) hh_0 1 _ _ _ h) rfl ?_
    exact x_iret (pc := 16) dX9_loose_16
  · have h := aw_neg h c_1
    refine x_iload_n (pc := 5) 1 dX9_loose_5 rfl rfl ?_
    refine x_bipush (pc := 6) (w := 40) dX9_loose_6 bi_40 ?_
    refine x_icmp_le (pc := 8) 17 dX9_loose_8 (by decide) (fun c_2 => ?_) (fun c_2 => ?_)
    · have h := aw_pos h c_2
      refine x_aload_n (pc := 17) 0 dX9_loose_17 rfl rfl ?_
      refine x_get (pc := 18) dX9_loose_18 lk_X9_10 gc_0 rfl rfl ?_
      refine x_get (pc := 21) dX9_loose_21 lk_X9_195 gc_1 rfl rfl ?_
      refine x_bipush (pc := 24) (w := 30) dX9_loose_24 bi_30 ?_
      refine x_iload_n (pc := 26) 1 dX9_loose_26 rfl rfl ?_
      refine x_imul (pc := 27) dX9_loose_27 ?_
      refine x_iadd (pc := 28) dX9_loose_28 ?_
      refine x_ldc (pc := 29) dX9_loose_29 wk_X9_202 ?_
      refine x_icmp_le (pc := 31) 40 dX9_loose_31 (by decide) (fun c_3 => ?_) (fun c_3 => ?_)
      · have h := aw_pos h c_3
        refine x_aload_n (pc := 40) 0 dX9_loose_40 rfl rfl ?_
        obtain ⟨M_5, e_4, h⟩ := aw_bv_e h
        refine x_callV (pc := 41) (As := []) (rest := []) (st' := []) (w := none) dX9_loose_41 cw_X9_216 hd1 gc_0 rfl rfl rfl (Nat.le_of_ble_eq_true rfl) (tc_LB_refreshGauges (d - 1) hh_4  _  _ e_4) rfl ?_
        refine x_iconst (pc := 44) (w := 0) dX9_loose_44 ic_0 ?_
        refine x_istore_n (pc := 45) 2 [(2, .int 0), (0, .ref (ad 0)), (1, .int p1)] dX9_loose_45 rfl (by decide) rfl ?_
        refine x_iconst (pc := 46) (w := 0) dX9_loose_46 ic_0 ?_
        refine x_istore_n (pc := 47) 3 [(3, .int 0), (2, .int 0), (0, .ref (ad 0)), (1, .int p1)] dX9_loose_47 rfl (by decide) rfl ?_
        refine x_lv [2, 3, 1, 0] [(0, .ref (ad 0)), (1, .int p1), (2, .int 0), (3, .int 0)] rfl ?_
        exact tc_LB_loose_L48 d hd  2000 p1 0 0 _ _ _ h
      · have h := aw_neg h c_3
        refine x_aload_n (pc := 34) 0 dX9_loose_34 rfl rfl ?_
        refine x_iconst (pc := 35) (w := 3) dX9_loose_35 ic_3 ?_
        refine x_callV (pc := 36) (As := [.int 3]) (rest := []) (st' := [.int r]) (w := (some (.int r))) dX9_loose_36 cw_X9_84 hd1 gc_0 rfl rfl rfl (Nat.le_of_ble_eq_true rfl) (tc_LB_error (d - 1) hh_0 3 _ _ _ h) rfl ?_
        exact x_iret (pc := 39) dX9_loose_39
    · have h := aw_neg h c_2
      refine x_aload_n (pc := 11) 0 dX9_loose_11 rfl rfl ?_
      refine x_iconst (pc := 12) (w := 1) dX9_loose_12 ic_1 ?_
      refine x_callV (pc := 13) (As := [.int 1]) (rest := []) (st' := [.int r]) (w := (some (.int r))) dX9_loose_13 cw_X9_84 hd1 gc_0 rfl rfl rfl (Nat.le_of_ble_eq_true rfl) (tc_LB_error (d - 1) hh_0 1 _ _ _ h) rfl ?_
      exact x_iret (pc := 16) dX9_loose_16
def fc_LB_after (p1 : Int32) (p2 : Int32) (M : aw_M) : Option (Int32 × aw_M) :=
  aw_bi (fc_LB_hasCloth p1 M) fun r_2 M_3 => (
  if r_2 = 0 then (
    fc_LB_error 1 M_3
  ) else (
    if p2 < 0 then (
      fc_LB_error 1 M_3
    ) else (
      if p2 ≤ 200 then (
        aw_bv (fc_Ma_copyFrom 2 0 M_3) fun M_8 => (
        if aw_in p1 6 then none else (
        aw_bi (fc_Cl_lintOfYard p1.toNatClampNeg M_8) fun r_11 M_12 => (
        aw_bv (fc_Ma_gather 2 (p2 * r_11) M_12) fun M_14 => (
        aw_br (fc_LB_gaugeOf p1 M_14) fun i_16 M_17 => (
        if 6 ≤ i_16 then none else (
        fc_Ga_shows i_16 2 M_17
        )
        )
        )
        )
        )
        )
      ) else (
        fc_LB_error 1 M_3
      )
    )
  )
  )
set_option maxRecDepth 20000 in
theorem tc_LB_after {l : Launch} {D : va_G} {cy : Nat → ClassId} {ad : Nat → Nat} {A : Nat → Prop} (d : Nat) (hd : 5 ≤ d) (p1 : Int32) (p2 : Int32) (M : aw_M) (r : Int32) (M1 : aw_M) (h : fc_LB_after p1 p2 M = some (r, M1)) : AX l D cy ad A gc_G yX9_after cX9_after 3 (some .int) d [.ref (ad 0), .int p1, .int p2] M (some (.int r)) M1 := by
  have hd1 : (d - 1) + 1 ≤ d := by omega
  have hm1 : 1 ≤ d := by omega
  have hh_0 : 0 ≤ d - 1 := by omega
  have hh_1 : 1 ≤ d - 1 := by omega
  have hh_4 : 4 ≤ d - 1 := by omega
  refine AX.of (own := RX9) (by decide +kernel) rfl (Nat.le_of_ble_eq_true rfl) ?_
  unfold fc_LB_after at h
  show AW l D cy ad A gc_G RX9 cX9_after 3 (some .int) d (some (.int r)) M1 0 [(0, .ref (ad 0)), (1, .int p1), (2, .int p2)] [] M
  refine x_aload_n (pc := 0) 0 dX9_after_0 rfl rfl ?_
  refine x_iload_n (pc := 1) 1 dX9_after_1 rfl rfl ?_
  obtain ⟨r_2, M_3, e_1, h⟩ := aw_bi_e h
  refine x_callV (pc := 2) (As := [.int p1]) (rest := []) (st' := [.int r_2]) (w := (some (.int r_2))) dX9_after_2 cw_X9_112 hd1 gc_0 rfl rfl rfl (Nat.le_of_ble_eq_true rfl) (tc_LB_hasCloth (d - 1) hh_0 p1 _ _ _ e_1) rfl ?_
  refine x_if_eq (pc := 5) 19 dX9_after_5 (by decide) (fun c_4 => ?_) (fun c_4 => ?_)
  · have h := aw_pos h c_4
    refine x_aload_n (pc := 19) 0 dX9_after_19 rfl rfl ?_
    refine x_iconst (pc := 20) (w := 1) dX9_after_20 ic_1 ?_
    refine x_callV (pc := 21) (As := [.int 1]) (rest := []) (st' := [.int r]) (w := (some (.int r))) dX9_after_21 cw_X9_84 hd1 gc_0 rfl rfl rfl (Nat.le_of_ble_eq_true rfl) (tc_LB_error (d - 1) hh_0 1 _ _ _ h) rfl ?_
    exact x_iret (pc := 24) dX9_after_24
  · have h := aw_neg h c_4
    refine x_iload_n (pc := 8) 2 dX9_after_8 rfl rfl ?_
    refine x_if_lt (pc := 9) 19 dX9_after_9 (by decide) (fun c_5 => ?_) (fun c_5 => ?_)
    · have h := aw_pos h c_5
      refine x_aload_n (pc := 19) 0 dX9_after_19 rfl rfl ?_
      refine x_iconst (pc := 20) (w := 1) dX9_after_20 ic_1 ?_
      refine x_callV (pc := 21) (As := [.int 1]) (rest := []) (st' := [.int r]) (w := (some (.int r))) dX9_after_21 cw_X9_84 hd1 gc_0 rfl rfl rfl (Nat.le_of_ble_eq_true rfl) (tc_LB_error (d - 1) hh_0 1 _ _ _ h) rfl ?_
      exact x_iret (pc := 24) dX9_after_24
    · have h := aw_neg h c_5
      refine x_iload_n (pc := 12) 2 dX9_after_12 rfl rfl ?_
      refine x_sipush (pc := 13) (w := 200) dX9_after_13 si_200 ?_
      refine x_icmp_le (pc := 16) 25 dX9_after_16 (by decide) (fun c_6 => ?_) (fun c_6 => ?_)
      · have h := aw_pos h c_6
        refine x_aload_n (pc := 25) 0 dX9_after_25 rfl rfl ?_
        refine x_get (pc := 26) dX9_after_26 lk_X9_26 gc_0 rfl rfl ?_
        refine x_aload_n (pc := 29) 0 dX9_after_29 rfl rfl ?_
        refine x_get (pc := 30) dX9_after_30 lk_X9_10 gc_0 rfl rfl ?_
        refine x_get (pc := 33) dX9_after_33 lk_X9_87 gc_1 rfl rfl ?_
        obtain ⟨M_8, e_7, h⟩ := aw_bv_e h
        refine x_callV (pc := 36) (As := [.ref (ad 3)]) (rest := []) (st' := []) (w := none) dX9_after_36 cw_X9_222 hd1 (gc_mach (i := 2) (by decide)) rfl rfl rfl (Nat.le_of_ble_eq_true rfl) (tc_Ma_copyFrom (d - 1) hh_0 2 (by decide) 0 (by decide) _  _ e_7) rfl ?_
        refine x_aload_n (pc := 39) 0 dX9_after_39 rfl rfl ?_
        refine x_get (pc := 40) dX9_after_40 lk_X9_26 gc_0 rfl rfl ?_
        refine x_iload_n (pc := 43) 2 dX9_after_43 rfl rfl ?_
        refine x_aload_n (pc := 44) 0 dX9_after_44 rfl rfl ?_
        refine x_get (pc := 45) dX9_after_45 lk_X9_10 gc_0 rfl rfl ?_
        refine x_get (pc := 48) dX9_after_48 lk_X9_36 gc_1 rfl rfl ?_
        refine x_iload_n (pc := 51) 1 dX9_after_51 rfl rfl ?_
        obtain ⟨c_9, h⟩ := aw_ck h
        refine x_aald (pc := 52) dX9_after_52 gc_6 (fun _ => rfl) c_9 (ga_6 (aw_lt c_9)) ?_
        obtain ⟨r_11, M_12, e_10, h⟩ := aw_bi_e h
        refine x_callV (pc := 53) (As := []) (rest := [.int p2, .ref (ad 5)]) (st' := [.int r_11, .int p2, .ref (ad 5)]) (w := (some (.int r_11))) dX9_after_53 cw_X9_226 hd1 (gc_cloth (i := p1.toNatClampNeg) (Nat.lt_of_lt_of_le (aw_lt c_9) (by decide))) rfl rfl rfl (Nat.le_of_ble_eq_true rfl) (tc_Cl_lintOfYard (d - 1) hh_0 p1.toNatClampNeg (Nat.lt_of_lt_of_le (aw_lt c_9) (by decide)) _ _ _ e_10) rfl ?_
        refine x_imul (pc := 56) dX9_after_56 ?_
        obtain ⟨M_14, e_13, h⟩ := aw_bv_e h
        refine x_callV (pc := 57) (As := [.int (p2 * r_11)]) (rest := []) (st' := []) (w := none) dX9_after_57 cw_X9_229 hd1 (gc_mach (i := 2) (by decide)) rfl rfl rfl (Nat.le_of_ble_eq_true rfl) (tc_Ma_gather (d - 1) hh_1 2 (by decide) (p2 * r_11) _  _ e_13) rfl ?_
        refine x_aload_n (pc := 60) 0 dX9_after_60 rfl rfl ?_
        refine x_iload_n (pc := 61) 1 dX9_after_61 rfl rfl ?_
        obtain ⟨i_16, M_17, e_15, h⟩ := aw_br_e h
        obtain ⟨c_18, h⟩ := aw_ck h
        refine x_callV (pc := 62) (As := [.int p1]) (rest := []) (st' := [.ref (ad (39 + i_16))]) (w := (some (.ref (ad (39 + i_16))))) dX9_after_62 cw_X9_130 hd1 gc_0 rfl rfl rfl (Nat.le_of_ble_eq_true rfl) (tc_LB_gaugeOf (d - 1) hh_4 p1 _ _ _ e_15) rfl ?_
        refine x_aload_n (pc := 65) 0 dX9_after_65 rfl rfl ?_
        refine x_get (pc := 66) dX9_after_66 lk_X9_26 gc_0 rfl rfl ?_
        refine x_callV (pc := 69) (As := [.ref (ad 5)]) (rest := []) (st' := [.int r]) (w := (some (.int r))) dX9_after_69 cw_X9_144 hd1 (gc_gauge (i := i_16) (Nat.lt_of_not_le c_18)) rfl rfl rfl (Nat.le_of_ble_eq_true rfl) (tc_Ga_shows (d - 1) hh_4 i_16 (Nat.lt_of_not_le c_18) 2 (by decide) _ _ _ h) rfl ?_
        exact x_iret (pc := 72) dX9_after_72
      · have h := aw_neg h c_6
        refine x_aload_n (pc := 19) 0 dX9_after_19 rfl rfl ?_
        refine x_iconst (pc := 20) (w := 1) dX9_after_20 ic_1 ?_
        refine x_callV (pc := 21) (As := [.int 1]) (rest := []) (st' := [.int r]) (w := (some (.int r))) dX9_after_21 cw_X9_84 hd1 gc_0 rfl rfl rfl (Nat.le_of_ble_eq_true rfl) (tc_LB_error (d - 1) hh_0 1 _ _ _ h) rfl ?_
        exact x_iret (pc := 24) dX9_after_24
def fc_LB_until_L60 : Nat → Nat → Int32 → Int32 → Int32 → aw_M → Option (Int32 × aw_M)
  | 0, _, _, _, _, _ => none
  | n + 1, i2, p3, p4, p5, M =>
    if (200 : Int32) < p5 then (
      fc_LB_error 2 M
    ) else (
      aw_bv (fc_Ma_gather 2 p3 M) fun M_20 => (
      aw_bi (fc_Ga_shows i2 2 M_20) fun r_22 M_23 => (
      if r_22 = p4 then (
        fc_LB_until_L60 n i2 p3 p4 (p5 + 1) M_23
      ) else (
        some (p5, M_23)
      )
      )
      )
    )
theorem fc_LB_until_L60_s (n : Nat) (i2 : Nat) (p3 : Int32) (p4 : Int32) (p5 : Int32) (M : aw_M) : fc_LB_until_L60 (n + 1) i2 p3 p4 p5 M = (
    if (200 : Int32) < p5 then (
      fc_LB_error 2 M
    ) else (
      aw_bv (fc_Ma_gather 2 p3 M) fun M_20 => (
      aw_bi (fc_Ga_shows i2 2 M_20) fun r_22 M_23 => (
      if r_22 = p4 then (
        fc_LB_until_L60 n i2 p3 p4 (p5 + 1) M_23
      ) else (
        some (p5, M_23)
      )
      )
      )
    )
    ) := rfl
set_option maxRecDepth 20000 in
theorem tc_LB_until_L60 {l : Launch} {D : va_G} {cy : Nat → ClassId} {ad : Nat → Nat} {A : Nat → Prop} (d : Nat) (hd : 5 ≤ d) : ∀ (n : Nat) (i2 : Nat) (h2 : i2 < 6) (p3 : Int32) (p4 : Int32) (p5 : Int32) (M : aw_M) (r : Int32) (M1 : aw_M), fc_LB_until_L60 n i2 p3 p4 p5 M = some (r, M1) → AW l D cy ad A gc_G RX9 cX9_until 6 (some .int) d (some (.int r)) M1 60 [(0, .ref (ad 0)), (2, .ref (ad (39 + i2))), (3, .int p3), (4, .int p4), (5, .int p5)] [] M := by
  have hd1 : (d - 1) + 1 ≤ d := by omega
  have hm1 : 1 ≤ d := by omega
  have hh_0 : 0 ≤ d - 1 := by omega
  have hh_1 : 1 ≤ d - 1 := by omega
  have hh_4 : 4 ≤ d - 1 := by omega
  intro n
  induction n with
  | zero => intro i2 h2 p3 p4 p5 M r M1 h; cases h
  | succ n ih =>
    intro i2 h2 p3 p4 p5 M r M1 h
    rw [fc_LB_until_L60_s] at h
    refine x_iload (pc := 60) dX9_until_60 rfl ?_
    refine x_sipush (pc := 62) (w := 200) dX9_until_62 si_200 ?_
    refine x_icmp_gt (pc := 65) 98 dX9_until_65 (by decide) (fun c_18 => ?_) (fun c_18 => ?_)
    · have h := aw_pos h c_18
      refine x_aload_n (pc := 98) 0 dX9_until_98 rfl rfl ?_
      refine x_iconst (pc := 99) (w := 2) dX9_until_99 ic_2 ?_
      refine x_callV (pc := 100) (As := [.int 2]) (rest := []) (st' := [.int r]) (w := (some (.int r))) dX9_until_100 cw_X9_84 hd1 gc_0 rfl rfl rfl (Nat.le_of_ble_eq_true rfl) (tc_LB_error (d - 1) hh_0 2 _ _ _ h) rfl ?_
      exact x_iret (pc := 103) dX9_until_103
    · have h := aw_neg h c_18
      refine x_aload_n (pc := 68) 0 dX9_until_68 rfl rfl ?_
      refine x_get (pc := 69) dX9_until_69 lk_X9_26 gc_0 rfl rfl ?_
      refine x_iload_n (pc := 72) 3 dX9_until_72 rfl rfl ?_
      obtain ⟨M_20, e_19, h⟩ := aw_bv_e h
      refine x_callV (pc := 73) (As := [.int p3]) (rest := []) (st' := []) (w := none) dX9_until_73 cw_X9_229 hd1 (gc_mach (i := 2) (by decide)) rfl rfl rfl (Nat.le_of_ble_eq_true rfl) (tc_Ma_gather (d - 1) hh_1 2 (by decide) p3 _  _ e_19) rfl ?_
      refine x_aload_n (pc := 76) 2 dX9_until_76 rfl rfl ?_
      refine x_aload_n (pc := 77) 0 dX9_until_77 rfl rfl ?_
      refine x_get (pc := 78) dX9_until_78 lk_X9_26 gc_0 rfl rfl ?_
      obtain ⟨r_22, M_23, e_21, h⟩ := aw_bi_e h
      refine x_callV (pc := 81) (As := [.ref (ad 5)]) (rest := []) (st' := [.int r_22]) (w := (some (.int r_22))) dX9_until_81 cw_X9_144 hd1 (gc_gauge (i := i2) h2) rfl rfl rfl (Nat.le_of_ble_eq_true rfl) (tc_Ga_shows (d - 1) hh_4 i2 h2 2 (by decide) _ _ _ e_21) rfl ?_
      refine x_iload (pc := 84) dX9_until_84 rfl ?_
      refine x_icmp_eq (pc := 86) 92 dX9_until_86 (by decide) (fun c_24 => ?_) (fun c_24 => ?_)
      · have h := aw_pos h c_24
        refine x_iinc (pc := 92) (p5 + 1) [(5, .int (p5 + 1)), (0, .ref (ad 0)), (2, .ref (ad (39 + i2))), (3, .int p3), (4, .int p4)] dX9_until_92 rfl (congrArg (fun z => p5 + z) ic_1) (by decide) rfl ?_
        refine x_goto (pc := 95) 60 dX9_until_95 (by decide) ?_
        refine x_lv [1, 2, 3, 4, 0] [(0, .ref (ad 0)), (2, .ref (ad (39 + i2))), (3, .int p3), (4, .int p4), (5, .int (p5 + 1))] rfl ?_
        exact ih i2 h2 p3 p4 (p5 + 1) _ _ _ h
      · have h := aw_neg h c_24
        refine x_iload (pc := 89) dX9_until_89 rfl ?_
        obtain ⟨rfl, rfl⟩ := aw_so h
        exact x_iret (pc := 91) dX9_until_91
def fc_LB_until (p1 : Int32) (M : aw_M) : Option (Int32 × aw_M) :=
  aw_bi (fc_LB_hasCloth p1 M) fun r_2 M_3 => (
  if r_2 = 0 then (
    fc_LB_error 1 M_3
  ) else (
    aw_br (fc_LB_gaugeOf p1 M_3) fun i_6 M_7 => (
    if 6 ≤ i_6 then none else (
    if aw_in p1 6 then none else (
    aw_bi (fc_Cl_lintOfYard p1.toNatClampNeg M_7) fun r_11 M_12 => (
    aw_bv (fc_Ma_copyFrom 2 0 M_12) fun M_14 => (
    aw_bi (fc_Ga_shows i_6 2 M_14) fun r_16 M_17 => (
    fc_LB_until_L60  2000 i_6 r_11 r_16 1 M_17
    )
    )
    )
    )
    )
    )
  )
  )
set_option maxRecDepth 20000 in
theorem tc_LB_until {l : Launch} {D : va_G} {cy : Nat → ClassId} {ad : Nat → Nat} {A : Nat → Prop} (d : Nat) (hd : 5 ≤ d) (p1 : Int32) (M : aw_M) (r : Int32) (M1 : aw_M) (h : fc_LB_until p1 M = some (r, M1)) : AX l D cy ad A gc_G yX9_until cX9_until 6 (some .int) d [.ref (ad 0), .int p1] M (some (.int r)) M1 := by
  have hd1 : (d - 1) + 1 ≤ d := by omega
  have hm1 : 1 ≤ d := by omega
  have hh_0 : 0 ≤ d - 1 := by omega
  have hh_1 : 1 ≤ d - 1 := by omega
  have hh_4 : 4 ≤ d - 1 := by omega
  refine AX.of (own := RX9) (by decide +kernel) rfl (Nat.le_of_ble_eq_true rfl) ?_
  unfold fc_LB_until at h
  show AW l D cy ad A gc_G RX9 cX9_until 6 (some .int) d (some (.int r)) M1 0 [(0, .ref (ad 0)), (1, .int p1)] [] M
  refine x_aload_n (pc := 0) 0 dX9_until_0 rfl rfl ?_
  refine x_iload_n (pc := 1) 1 dX9_until_1 rfl rfl ?_
  obtain ⟨r_2, M_3, e_1, h⟩ := aw_bi_e h
  refine x_callV (pc := 2) (As := [.int p1]) (rest := []) (st' := [.int r_2]) (w := (some (.int r_2))) dX9_until_2 cw_X9_112 hd1 gc_0 rfl rfl rfl (Nat.le_of_ble_eq_true rfl) (tc_LB_hasCloth (d - 1) hh_0 p1 _ _ _ e_1) rfl ?_
  refine x_if_ne (pc := 5) 14 dX9_until_5 (by decide) (fun c_4 => ?_) (fun c_4 => ?_)
  · have h := aw_neg h c_4
    refine x_aload_n (pc := 14) 0 dX9_until_14 rfl rfl ?_
    refine x_iload_n (pc := 15) 1 dX9_until_15 rfl rfl ?_
    obtain ⟨i_6, M_7, e_5, h⟩ := aw_br_e h
    obtain ⟨c_8, h⟩ := aw_ck h
    refine x_callV (pc := 16) (As := [.int p1]) (rest := []) (st' := [.ref (ad (39 + i_6))]) (w := (some (.ref (ad (39 + i_6))))) dX9_until_16 cw_X9_130 hd1 gc_0 rfl rfl rfl (Nat.le_of_ble_eq_true rfl) (tc_LB_gaugeOf (d - 1) hh_4 p1 _ _ _ e_5) rfl ?_
    refine x_astore_n (pc := 19) 2 [(2, .ref (ad (39 + i_6))), (0, .ref (ad 0)), (1, .int p1)] dX9_until_19 rfl (by decide) rfl ?_
    refine x_aload_n (pc := 20) 0 dX9_until_20 rfl rfl ?_
    refine x_get (pc := 21) dX9_until_21 lk_X9_10 gc_0 rfl rfl ?_
    refine x_get (pc := 24) dX9_until_24 lk_X9_36 gc_1 rfl rfl ?_
    refine x_iload_n (pc := 27) 1 dX9_until_27 rfl rfl ?_
    obtain ⟨c_9, h⟩ := aw_ck h
    refine x_aald (pc := 28) dX9_until_28 gc_6 (fun _ => rfl) c_9 (ga_6 (aw_lt c_9)) ?_
    obtain ⟨r_11, M_12, e_10, h⟩ := aw_bi_e h
    refine x_callV (pc := 29) (As := []) (rest := []) (st' := [.int r_11]) (w := (some (.int r_11))) dX9_until_29 cw_X9_226 hd1 (gc_cloth (i := p1.toNatClampNeg) (Nat.lt_of_lt_of_le (aw_lt c_9) (by decide))) rfl rfl rfl (Nat.le_of_ble_eq_true rfl) (tc_Cl_lintOfYard (d - 1) hh_0 p1.toNatClampNeg (Nat.lt_of_lt_of_le (aw_lt c_9) (by decide)) _ _ _ e_10) rfl ?_
    refine x_istore_n (pc := 32) 3 [(3, .int r_11), (2, .ref (ad (39 + i_6))), (0, .ref (ad 0)), (1, .int p1)] dX9_until_32 rfl (by decide) rfl ?_
    refine x_aload_n (pc := 33) 0 dX9_until_33 rfl rfl ?_
    refine x_get (pc := 34) dX9_until_34 lk_X9_26 gc_0 rfl rfl ?_
    refine x_aload_n (pc := 37) 0 dX9_until_37 rfl rfl ?_
    refine x_get (pc := 38) dX9_until_38 lk_X9_10 gc_0 rfl rfl ?_
    refine x_get (pc := 41) dX9_until_41 lk_X9_87 gc_1 rfl rfl ?_
    obtain ⟨M_14, e_13, h⟩ := aw_bv_e h
    refine x_callV (pc := 44) (As := [.ref (ad 3)]) (rest := []) (st' := []) (w := none) dX9_until_44 cw_X9_222 hd1 (gc_mach (i := 2) (by decide)) rfl rfl rfl (Nat.le_of_ble_eq_true rfl) (tc_Ma_copyFrom (d - 1) hh_0 2 (by decide) 0 (by decide) _  _ e_13) rfl ?_
    refine x_aload_n (pc := 47) 2 dX9_until_47 rfl rfl ?_
    refine x_aload_n (pc := 48) 0 dX9_until_48 rfl rfl ?_
    refine x_get (pc := 49) dX9_until_49 lk_X9_26 gc_0 rfl rfl ?_
    obtain ⟨r_16, M_17, e_15, h⟩ := aw_bi_e h
    refine x_callV (pc := 52) (As := [.ref (ad 5)]) (rest := []) (st' := [.int r_16]) (w := (some (.int r_16))) dX9_until_52 cw_X9_144 hd1 (gc_gauge (i := i_6) (Nat.lt_of_not_le c_8)) rfl rfl rfl (Nat.le_of_ble_eq_true rfl) (tc_Ga_shows (d - 1) hh_4 i_6 (Nat.lt_of_not_le c_8) 2 (by decide) _ _ _ e_15) rfl ?_
    refine x_istore (pc := 55) 4 [(4, .int r_16), (3, .int r_11), (2, .ref (ad (39 + i_6))), (0, .ref (ad 0)), (1, .int p1)] dX9_until_55 (by decide) rfl ?_
    refine x_iconst (pc := 57) (w := 1) dX9_until_57 ic_1 ?_
    refine x_istore (pc := 58) 5 [(5, .int 1), (4, .int r_16), (3, .int r_11), (2, .ref (ad (39 + i_6))), (0, .ref (ad 0)), (1, .int p1)] dX9_until_58 (by decide) rfl ?_
    refine x_lv [4, 3, 2, 1, 0] [(0, .ref (ad 0)), (2, .ref (ad (39 + i_6))), (3, .int r_11), (4, .int r_16), (5, .int 1)] rfl ?_
    exact tc_LB_until_L60 d hd  2000 i_6 (Nat.lt_of_not_le c_8) r_11 r_16 1 _ _ _ h
  · have h := aw_pos h c_4
    refine x_aload_n (pc := 8) 0 dX9_until_8 rfl rfl ?_
    refine x_iconst (pc := 9) (w := 1) dX9_until_9 ic_1 ?_
    refine x_callV (pc := 10) (As := [.int 1]) (rest := []) (st' := [.int r]) (w := (some (.int r))) dX9_until_10 cw_X9_84 hd1 gc_0 rfl rfl rfl (Nat.le_of_ble_eq_true rfl) (tc_LB_error (d - 1) hh_0 1 _ _ _ h) rfl ?_
    exact x_iret (pc := 13) dX9_until_13
def fc_LB_cureSeconds_L40 : Nat → Int32 → Int32 → Int32 → aw_M → Option (Int32 × aw_M)
  | 0, _, _, _, _ => none
  | n + 1, p1, p4, p5, M =>
    if (3 : Int32) ≤ p5 then (
      some (p4, M)
    ) else (
      if ((p1 >>> (p5 &&& 31)) &&& 1) = 1 then (
        if aw_in p5 7 then none else (
        fc_LB_cureSeconds_L40 n p1 (p4 + (aw_t0.getD p5.toNatClampNeg 0)) (p5 + 1) M
        )
      ) else (
        fc_LB_cureSeconds_L40 n p1 p4 (p5 + 1) M
      )
    )
theorem fc_LB_cureSeconds_L40_s (n : Nat) (p1 : Int32) (p4 : Int32) (p5 : Int32) (M : aw_M) : fc_LB_cureSeconds_L40 (n + 1) p1 p4 p5 M = (
    if (3 : Int32) ≤ p5 then (
      some (p4, M)
    ) else (
      if ((p1 >>> (p5 &&& 31)) &&& 1) = 1 then (
        if aw_in p5 7 then none else (
        fc_LB_cureSeconds_L40 n p1 (p4 + (aw_t0.getD p5.toNatClampNeg 0)) (p5 + 1) M
        )
      ) else (
        fc_LB_cureSeconds_L40 n p1 p4 (p5 + 1) M
      )
    )
    ) := rfl
set_option maxRecDepth 20000 in
theorem tc_LB_cureSeconds_L40 {l : Launch} {D : va_G} {cy : Nat → ClassId} {ad : Nat → Nat} {A : Nat → Prop} (d : Nat) (hd : 1 ≤ d) : ∀ (n : Nat) (p1 : Int32) (p4 : Int32) (p5 : Int32) (M : aw_M) (r : Int32) (M1 : aw_M), fc_LB_cureSeconds_L40 n p1 p4 p5 M = some (r, M1) → AW l D cy ad A gc_G RX9 cX9_cureSeconds 6 (some .int) d (some (.int r)) M1 40 [(1, .int p1), (4, .int p4), (5, .int p5)] [] M := by
  have hd1 : (d - 1) + 1 ≤ d := by omega
  have hm1 : 1 ≤ d := by omega
  intro n
  induction n with
  | zero => intro p1 p4 p5 M r M1 h; cases h
  | succ n ih =>
    intro p1 p4 p5 M r M1 h
    rw [fc_LB_cureSeconds_L40_s] at h
    refine x_iload (pc := 40) dX9_cureSeconds_40 rfl ?_
    refine x_iconst (pc := 42) (w := 3) dX9_cureSeconds_42 ic_3 ?_
    refine x_icmp_ge (pc := 43) 73 dX9_cureSeconds_43 (by decide) (fun c_1 => ?_) (fun c_1 => ?_)
    · have h := aw_pos h c_1
      refine x_iload (pc := 73) dX9_cureSeconds_73 rfl ?_
      obtain ⟨rfl, rfl⟩ := aw_so h
      exact x_iret (pc := 75) dX9_cureSeconds_75
    · have h := aw_neg h c_1
      refine x_iload_n (pc := 46) 1 dX9_cureSeconds_46 rfl rfl ?_
      refine x_iload (pc := 47) dX9_cureSeconds_47 rfl ?_
      refine x_ishr (pc := 49) dX9_cureSeconds_49 ?_
      refine x_iconst (pc := 50) (w := 1) dX9_cureSeconds_50 ic_1 ?_
      refine x_iand (pc := 51) dX9_cureSeconds_51 ?_
      refine x_iconst (pc := 52) (w := 1) dX9_cureSeconds_52 ic_1 ?_
      refine x_icmp_ne (pc := 53) 67 dX9_cureSeconds_53 (by decide) (fun c_2 => ?_) (fun c_2 => ?_)
      · have h := aw_neg h c_2
        refine x_iinc (pc := 67) (p5 + 1) [(5, .int (p5 + 1)), (1, .int p1), (4, .int p4)] dX9_cureSeconds_67 rfl (congrArg (fun z => p5 + z) ic_1) (by decide) rfl ?_
        refine x_goto (pc := 70) 40 dX9_cureSeconds_70 (by decide) ?_
        refine x_lv [1, 2, 0] [(1, .int p1), (4, .int p4), (5, .int (p5 + 1))] rfl ?_
        exact ih p1 p4 (p5 + 1) _ _ _ h
      · have h := aw_pos h c_2
        refine x_iload (pc := 56) dX9_cureSeconds_56 rfl ?_
        refine x_gs0 (pc := 58) dX9_cureSeconds_58 (tb_in (i := 702) (by decide +kernel) rfl) ?_
        refine x_iload (pc := 61) dX9_cureSeconds_61 rfl ?_
        obtain ⟨c_3, h⟩ := aw_ck h
        refine x_ti0 (pc := 63) dX9_cureSeconds_63 c_3 ?_
        refine x_iadd (pc := 64) dX9_cureSeconds_64 ?_
        refine x_istore (pc := 65) 4 [(4, .int (p4 + (aw_t0.getD p5.toNatClampNeg 0))), (1, .int p1), (5, .int p5)] dX9_cureSeconds_65 (by decide) rfl ?_
        refine x_iinc (pc := 67) (p5 + 1) [(5, .int (p5 + 1)), (4, .int (p4 + (aw_t0.getD p5.toNatClampNeg 0))), (1, .int p1)] dX9_cureSeconds_67 rfl (congrArg (fun z => p5 + z) ic_1) (by decide) rfl ?_
        refine x_goto (pc := 70) 40 dX9_cureSeconds_70 (by decide) ?_
        refine x_lv [2, 1, 0] [(1, .int p1), (4, .int (p4 + (aw_t0.getD p5.toNatClampNeg 0))), (5, .int (p5 + 1))] rfl ?_
        exact ih p1 (p4 + (aw_t0.getD p5.toNatClampNeg 0)) (p5 + 1) _ _ _ h
def fc_LB_cureSeconds (p1 : Int32) (p2 : Int32) (p3 : Int32) (M : aw_M) : Option (Int32 × aw_M) :=
  fc_LB_cureSeconds_L40  2000 p1 ((2 * (aw_abs (p2 - (M 3 1)))) + (5 * (aw_abs (p3 - (M 3 2))))) 0 M
set_option maxRecDepth 20000 in
theorem tc_LB_cureSeconds {l : Launch} {D : va_G} {cy : Nat → ClassId} {ad : Nat → Nat} {A : Nat → Prop} (d : Nat) (hd : 1 ≤ d) (p1 : Int32) (p2 : Int32) (p3 : Int32) (M : aw_M) (r : Int32) (M1 : aw_M) (h : fc_LB_cureSeconds p1 p2 p3 M = some (r, M1)) : AX l D cy ad A gc_G yX9_cureSeconds cX9_cureSeconds 6 (some .int) d [.ref (ad 0), .int p1, .int p2, .int p3] M (some (.int r)) M1 := by
  have hd1 : (d - 1) + 1 ≤ d := by omega
  have hm1 : 1 ≤ d := by omega
  refine AX.of (own := RX9) (by decide +kernel) rfl (Nat.le_of_ble_eq_true rfl) ?_
  unfold fc_LB_cureSeconds at h
  show AW l D cy ad A gc_G RX9 cX9_cureSeconds 6 (some .int) d (some (.int r)) M1 0 [(0, .ref (ad 0)), (1, .int p1), (2, .int p2), (3, .int p3)] [] M
  refine x_iconst (pc := 0) (w := 2) dX9_cureSeconds_0 ic_2 ?_
  refine x_iload_n (pc := 1) 2 dX9_cureSeconds_1 rfl rfl ?_
  refine x_aload_n (pc := 2) 0 dX9_cureSeconds_2 rfl rfl ?_
  refine x_get (pc := 3) dX9_cureSeconds_3 lk_X9_10 gc_0 rfl rfl ?_
  refine x_get (pc := 6) dX9_cureSeconds_6 lk_X9_87 gc_1 rfl rfl ?_
  refine x_get (pc := 9) dX9_cureSeconds_9 lk_X9_270 (gc_mach (i := 0) (by decide)) rfl rfl ?_
  refine x_isub (pc := 12) dX9_cureSeconds_12 ?_
  refine x_abs (pc := 13) dX9_cureSeconds_13 (tb_in (i := 764) (by decide +kernel) rfl) hm1 (Nat.le_of_ble_eq_true rfl) ?_
  refine x_imul (pc := 16) dX9_cureSeconds_16 ?_
  refine x_iconst (pc := 17) (w := 5) dX9_cureSeconds_17 ic_5 ?_
  refine x_iload_n (pc := 18) 3 dX9_cureSeconds_18 rfl rfl ?_
  refine x_aload_n (pc := 19) 0 dX9_cureSeconds_19 rfl rfl ?_
  refine x_get (pc := 20) dX9_cureSeconds_20 lk_X9_10 gc_0 rfl rfl ?_
  refine x_get (pc := 23) dX9_cureSeconds_23 lk_X9_87 gc_1 rfl rfl ?_
  refine x_get (pc := 26) dX9_cureSeconds_26 lk_X9_364 (gc_mach (i := 0) (by decide)) rfl rfl ?_
  refine x_isub (pc := 29) dX9_cureSeconds_29 ?_
  refine x_abs (pc := 30) dX9_cureSeconds_30 (tb_in (i := 764) (by decide +kernel) rfl) hm1 (Nat.le_of_ble_eq_true rfl) ?_
  refine x_imul (pc := 33) dX9_cureSeconds_33 ?_
  refine x_iadd (pc := 34) dX9_cureSeconds_34 ?_
  refine x_istore (pc := 35) 4 [(4, .int ((2 * (aw_abs (p2 - (M 3 1)))) + (5 * (aw_abs (p3 - (M 3 2)))))), (0, .ref (ad 0)), (1, .int p1), (2, .int p2), (3, .int p3)] dX9_cureSeconds_35 (by decide) rfl ?_
  refine x_iconst (pc := 37) (w := 0) dX9_cureSeconds_37 ic_0 ?_
  refine x_istore (pc := 38) 5 [(5, .int 0), (4, .int ((2 * (aw_abs (p2 - (M 3 1)))) + (5 * (aw_abs (p3 - (M 3 2)))))), (0, .ref (ad 0)), (1, .int p1), (2, .int p2), (3, .int p3)] dX9_cureSeconds_38 (by decide) rfl ?_
  refine x_lv [3, 1, 0] [(1, .int p1), (4, .int ((2 * (aw_abs (p2 - (M 3 1)))) + (5 * (aw_abs (p3 - (M 3 2)))))), (5, .int 0)] rfl ?_
  exact tc_LB_cureSeconds_L40 d hd  2000 p1 ((2 * (aw_abs (p2 - (M 3 1)))) + (5 * (aw_abs (p3 - (M 3 2))))) 0 _ _ _ h
def fc_LB_thinkOfDeeds_L16 : Nat → Int32 → Int32 → aw_M → Option aw_M
  | 0, _, _, _ => none
  | n + 1, p1, p2, M =>
    if (3 : Int32) ≤ p2 then (
      some M
    ) else (
      if ((p1 >>> (p2 &&& 31)) &&& 1) = 1 then (
        aw_bv (fc_Ma_follow 2 p2 M) fun M_6 => (
        fc_LB_thinkOfDeeds_L16 n p1 (p2 + 1) M_6
        )
      ) else (
        fc_LB_thinkOfDeeds_L16 n p1 (p2 + 1) M
      )
    )
theorem fc_LB_thinkOfDeeds_L16_s (n : Nat) (p1 : Int32) (p2 : Int32) (M : aw_M) : fc_LB_thinkOfDeeds_L16 (n + 1) p1 p2 M = (
    if (3 : Int32) ≤ p2 then (
      some M
    ) else (
      if ((p1 >>> (p2 &&& 31)) &&& 1) = 1 then (
        aw_bv (fc_Ma_follow 2 p2 M) fun M_6 => (
        fc_LB_thinkOfDeeds_L16 n p1 (p2 + 1) M_6
        )
      ) else (
        fc_LB_thinkOfDeeds_L16 n p1 (p2 + 1) M
      )
    )
    ) := rfl
set_option maxRecDepth 20000 in
theorem tc_LB_thinkOfDeeds_L16 {l : Launch} {D : va_G} {cy : Nat → ClassId} {ad : Nat → Nat} {A : Nat → Prop} (d : Nat) (hd : 1 ≤ d) : ∀ (n : Nat) (p1 : Int32) (p2 : Int32) (M : aw_M) (M1 : aw_M), fc_LB_thinkOfDeeds_L16 n p1 p2 M = some M1 → AW l D cy ad A gc_G RX9 cX9_thinkOfDeeds 3 none d none M1 16 [(0, .ref (ad 0)), (1, .int p1), (2, .int p2)] [] M := by
  have hd1 : (d - 1) + 1 ≤ d := by omega
  have hm1 : 1 ≤ d := by omega
  have hh_0 : 0 ≤ d - 1 := by omega
  intro n
  induction n with
  | zero => intro p1 p2 M M1 h; cases h
  | succ n ih =>
    intro p1 p2 M M1 h
    rw [fc_LB_thinkOfDeeds_L16_s] at h
    refine x_iload_n (pc := 16) 2 dX9_thinkOfDeeds_16 rfl rfl ?_
    refine x_iconst (pc := 17) (w := 3) dX9_thinkOfDeeds_17 ic_3 ?_
    refine x_icmp_ge (pc := 18) 44 dX9_thinkOfDeeds_18 (by decide) (fun c_3 => ?_) (fun c_3 => ?_)
    · have h := aw_pos h c_3
      obtain rfl := aw_sv h
      exact x_vret (pc := 44) dX9_thinkOfDeeds_44
    · have h := aw_neg h c_3
      refine x_iload_n (pc := 21) 1 dX9_thinkOfDeeds_21 rfl rfl ?_
      refine x_iload_n (pc := 22) 2 dX9_thinkOfDeeds_22 rfl rfl ?_
      refine x_ishr (pc := 23) dX9_thinkOfDeeds_23 ?_
      refine x_iconst (pc := 24) (w := 1) dX9_thinkOfDeeds_24 ic_1 ?_
      refine x_iand (pc := 25) dX9_thinkOfDeeds_25 ?_
      refine x_iconst (pc := 26) (w := 1) dX9_thinkOfDeeds_26 ic_1 ?_
      refine x_icmp_ne (pc := 27) 38 dX9_thinkOfDeeds_27 (by decide) (fun c_4 => ?_) (fun c_4 => ?_)
      · have h := aw_neg h c_4
        refine x_iinc (pc := 38) (p2 + 1) [(2, .int (p2 + 1)), (0, .ref (ad 0)), (1, .int p1)] dX9_thinkOfDeeds_38 rfl (congrArg (fun z => p2 + z) ic_1) (by decide) rfl ?_
        refine x_goto (pc := 41) 16 dX9_thinkOfDeeds_41 (by decide) ?_
        refine x_lv [1, 2, 0] [(0, .ref (ad 0)), (1, .int p1), (2, .int (p2 + 1))] rfl ?_
        exact ih p1 (p2 + 1) _ _ h
      · have h := aw_pos h c_4
        refine x_aload_n (pc := 30) 0 dX9_thinkOfDeeds_30 rfl rfl ?_
        refine x_get (pc := 31) dX9_thinkOfDeeds_31 lk_X9_26 gc_0 rfl rfl ?_
        refine x_iload_n (pc := 34) 2 dX9_thinkOfDeeds_34 rfl rfl ?_
        obtain ⟨M_6, e_5, h⟩ := aw_bv_e h
        refine x_callV (pc := 35) (As := [.int p2]) (rest := []) (st' := []) (w := none) dX9_thinkOfDeeds_35 cw_X9_242 hd1 (gc_mach (i := 2) (by decide)) rfl rfl rfl (Nat.le_of_ble_eq_true rfl) (tc_Ma_follow (d - 1) hh_0 2 (by decide) p2 _  _ e_5) rfl ?_
        refine x_iinc (pc := 38) (p2 + 1) [(2, .int (p2 + 1)), (0, .ref (ad 0)), (1, .int p1)] dX9_thinkOfDeeds_38 rfl (congrArg (fun z => p2 + z) ic_1) (by decide) rfl ?_
        refine x_goto (pc := 41) 16 dX9_thinkOfDeeds_41 (by decide) ?_
        refine x_lv [1, 2, 0] [(0, .ref (ad 0)), (1, .int p1), (2, .int (p2 + 1))] rfl ?_
        exact ih p1 (p2 + 1) _ _ h
def fc_LB_thinkOfDeeds (p1 : Int32) (M : aw_M) : Option aw_M :=
  aw_bv (fc_Ma_copyFrom 2 0 M) fun M_2 => (
  fc_LB_thinkOfDeeds_L16  2000 p1 0 M_2
  )
set_option maxRecDepth 20000 in
theorem tc_LB_thinkOfDeeds {l : Launch} {D : va_G} {cy : Nat → ClassId} {ad : Nat → Nat} {A : Nat → Prop} (d : Nat) (hd : 1 ≤ d) (p1 : Int32) (M : aw_M) (M1 : aw_M) (h : fc_LB_thinkOfDeeds p1 M = some M1) : AX l D cy ad A gc_G yX9_thinkOfDeeds cX9_thinkOfDeeds 3 none d [.ref (ad 0), .int p1] M none M1 := by
  have hd1 : (d - 1) + 1 ≤ d := by omega
  have hm1 : 1 ≤ d := by omega
  have hh_0 : 0 ≤ d - 1 := by omega
  refine AX.of (own := RX9) (by decide +kernel) rfl (Nat.le_of_ble_eq_true rfl) ?_
  unfold fc_LB_thinkOfDeeds at h
  show AW l D cy ad A gc_G RX9 cX9_thinkOfDeeds 3 none d none M1 0 [(0, .ref (ad 0)), (1, .int p1)] [] M
  refine x_aload_n (pc := 0) 0 dX9_thinkOfDeeds_0 rfl rfl ?_
  refine x_get (pc := 1) dX9_thinkOfDeeds_1 lk_X9_26 gc_0 rfl rfl ?_
  refine x_aload_n (pc := 4) 0 dX9_thinkOfDeeds_4 rfl rfl ?_
  refine x_get (pc := 5) dX9_thinkOfDeeds_5 lk_X9_10 gc_0 rfl rfl ?_
  refine x_get (pc := 8) dX9_thinkOfDeeds_8 lk_X9_87 gc_1 rfl rfl ?_
  obtain ⟨M_2, e_1, h⟩ := aw_bv_e h
  refine x_callV (pc := 11) (As := [.ref (ad 3)]) (rest := []) (st' := []) (w := none) dX9_thinkOfDeeds_11 cw_X9_222 hd1 (gc_mach (i := 2) (by decide)) rfl rfl rfl (Nat.le_of_ble_eq_true rfl) (tc_Ma_copyFrom (d - 1) hh_0 2 (by decide) 0 (by decide) _  _ e_1) rfl ?_
  refine x_iconst (pc := 14) (w := 0) dX9_thinkOfDeeds_14 ic_0 ?_
  refine x_istore_n (pc := 15) 2 [(2, .int 0), (0, .ref (ad 0)), (1, .int p1)] dX9_thinkOfDeeds_15 rfl (by decide) rfl ?_
  refine x_lv [1, 2, 0] [(0, .ref (ad 0)), (1, .int p1), (2, .int 0)] rfl ?_
  exact tc_LB_thinkOfDeeds_L16 d hd  2000 p1 0 _ _ h
