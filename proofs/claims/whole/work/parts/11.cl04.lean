def FC_rd : Nat → Nat → Int32 → Int32 → aw_M → Option (Int32 × aw_M)
  | 0, _, _, _, _ => none
  | n + 1, s, a, b, M => if s = 0 then fc_Te_readLevel (fun a b M => FC_rd n 0 a b M) (fun a M => FC_rd n 1 a 0 M) a b M else fc_Te_readSingle (fun a b M => FC_rd n 0 a b M) (fun a M => FC_rd n 1 a 0 M) a M
theorem FT_rd {l : Launch} {D : va_G} {cy : Nat → ClassId} {ad : Nat → Nat} {A : Nat → Prop} : ∀ (n d : Nat), n * 8 ≤ d → (∀ (p1 p2 : Int32) (M : aw_M) (r : Int32) (M1 : aw_M), FC_rd n 0 p1 p2 M = some (r, M1) → AX l D cy ad A gc_G yX8_readLevel cX8_readLevel 6 (some .boolean) d [.ref (ad 53), .int p1, .int p2] M (some (.int r)) M1) ∧ (∀ (p1 : Int32) (M : aw_M) (r : Int32) (M1 : aw_M), FC_rd n 1 p1 0 M = some (r, M1) → AX l D cy ad A gc_G yX8_readSingle cX8_readSingle 4 (some .boolean) d [.ref (ad 53), .int p1] M (some (.int r)) M1) := by
  intro n
  induction n with
  | zero => intro d _; exact ⟨fun _ _ _ _ _ h => (by cases h), fun _ _ _ _ h => (by cases h)⟩
  | succ n ih =>
    intro d hd
    refine ⟨fun p1 p2 M r M1 h => ?_, fun p1 M r M1 h => ?_⟩
    · exact tc_Te_readLevel (n * 8) _ _ (fun d hd => (ih d (by omega)).1) (fun d hd => (ih d (by omega)).2) d (by omega) p1 p2 M r M1 h
    · exact tc_Te_readSingle (n * 8) _ _ (fun d hd => (ih d (by omega)).1) (fun d hd => (ih d (by omega)).2) d (by omega) p1 M r M1 h
def fc_Te_reads_L19 : Nat → Int32 → Int32 → aw_M → Option (Int32 × aw_M)
  | 0, _, _, _ => none
  | n + 1, p3, p4, M =>
    if (M 53 4) ≤ p4 then (
      aw_bi (FC_rd 60 0 0 0 (aw_u (aw_u (aw_u M 53 5 p3) 53 3 0) 53 2 0)) fun r_6 M_7 => (
      if r_6 = 0 then (
        some (0, M_7)
      ) else (
        if (M_7 53 3) = (M_7 53 4) then (
          some (1, M_7)
        ) else (
          some (0, M_7)
        )
      )
      )
    ) else (
      if aw_in p4 50 then none else (
      if aw_in p4 50 then none else (
      fc_Te_reads_L19 n p3 (p4 + 1) (aw_u M 55 p4.toNatClampNeg ((M 10 p4.toNatClampNeg) &&& 255))
      )
      )
    )
theorem fc_Te_reads_L19_s (n : Nat) (p3 : Int32) (p4 : Int32) (M : aw_M) : fc_Te_reads_L19 (n + 1) p3 p4 M = (
    if (M 53 4) ≤ p4 then (
      aw_bi (FC_rd 60 0 0 0 (aw_u (aw_u (aw_u M 53 5 p3) 53 3 0) 53 2 0)) fun r_6 M_7 => (
      if r_6 = 0 then (
        some (0, M_7)
      ) else (
        if (M_7 53 3) = (M_7 53 4) then (
          some (1, M_7)
        ) else (
          some (0, M_7)
        )
      )
      )
    ) else (
      if aw_in p4 50 then none else (
      if aw_in p4 50 then none else (
      fc_Te_reads_L19 n p3 (p4 + 1) (aw_u M 55 p4.toNatClampNeg ((M 10 p4.toNatClampNeg) &&& 255))
      )
      )
    )
    ) := rfl
set_option maxRecDepth 20000 in
theorem tc_Te_reads_L19 {l : Launch} {D : va_G} {cy : Nat → ClassId} {ad : Nat → Nat} {A : Nat → Prop} (d : Nat) (hd : 481 ≤ d) : ∀ (n : Nat) (p3 : Int32) (p4 : Int32) (M : aw_M) (r : Int32) (M1 : aw_M), fc_Te_reads_L19 n p3 p4 M = some (r, M1) → AW l D cy ad A gc_G RX8 cX8_reads 5 (some .boolean) d (some (.int r)) M1 19 [(0, .ref (ad 53)), (1, .ref (ad 10)), (3, .ref (ad (900 + p3.toNatClampNeg))), (4, .int p4)] [] M := by
  have hd1 : (d - 1) + 1 ≤ d := by omega
  have hm1 : 1 ≤ d := by omega
  have hh_1 : 1 ≤ d - 1 := by omega
  have hh_480 : 480 ≤ d - 1 := by omega
  intro n
  induction n with
  | zero => intro p3 p4 M r M1 h; cases h
  | succ n ih =>
    intro p3 p4 M r M1 h
    rw [fc_Te_reads_L19_s] at h
    refine x_iload (pc := 19) dX8_reads_19 rfl ?_
    refine x_aload_n (pc := 21) 0 dX8_reads_21 rfl rfl ?_
    refine x_get (pc := 22) dX8_reads_22 lk_X8_34 gc_53 rfl rfl ?_
    refine x_icmp_ge (pc := 25) 49 dX8_reads_25 (by decide) (fun c_4 => ?_) (fun c_4 => ?_)
    · have h := aw_pos h c_4
      refine x_aload_n (pc := 49) 0 dX8_reads_49 rfl rfl ?_
      refine x_aload_n (pc := 50) 3 dX8_reads_50 rfl rfl ?_
      refine x_put (pc := 51) (x := p3) dX8_reads_51 lk_X8_20 lp_X8_5 gc_53 rfl rfl rfl rfl ?_
      refine x_aload_n (pc := 54) 0 dX8_reads_54 rfl rfl ?_
      refine x_iconst (pc := 55) (w := 0) dX8_reads_55 ic_0 ?_
      refine x_put (pc := 56) (x := 0) dX8_reads_56 lk_X8_38 lp_X8_3 gc_53 rfl rfl rfl rfl ?_
      refine x_aload_n (pc := 59) 0 dX8_reads_59 rfl rfl ?_
      refine x_iconst (pc := 60) (w := 0) dX8_reads_60 ic_0 ?_
      refine x_put (pc := 61) (x := 0) dX8_reads_61 lk_X8_41 lp_X8_2 gc_53 rfl rfl rfl rfl ?_
      refine x_aload_n (pc := 64) 0 dX8_reads_64 rfl rfl ?_
      refine x_iconst (pc := 65) (w := 0) dX8_reads_65 ic_0 ?_
      refine x_iconst (pc := 66) (w := 0) dX8_reads_66 ic_0 ?_
      obtain ⟨r_6, M_7, e_5, h⟩ := aw_bi_e h
      refine x_callV (pc := 67) (As := [.int 0, .int 0]) (rest := []) (st' := [.int r_6]) (w := (some (.int r_6))) dX8_reads_67 cw_X8_44 hd1 gc_53 rfl rfl rfl (Nat.le_of_ble_eq_true rfl) ((fun d (hd : 480 ≤ d) => (FT_rd 60 d (by omega)).1) (d - 1) hh_480 0 0 _ _ _ e_5) rfl ?_
      refine x_if_eq (pc := 70) 88 dX8_reads_70 (by decide) (fun c_8 => ?_) (fun c_8 => ?_)
      · have h := aw_pos h c_8
        refine x_iconst (pc := 88) (w := 0) dX8_reads_88 ic_0 ?_
        obtain ⟨rfl, rfl⟩ := aw_so h
        exact x_zret (pc := 89) aw_b0 dX8_reads_89
      · have h := aw_neg h c_8
        refine x_aload_n (pc := 73) 0 dX8_reads_73 rfl rfl ?_
        refine x_get (pc := 74) dX8_reads_74 lk_X8_38 gc_53 rfl rfl ?_
        refine x_aload_n (pc := 77) 0 dX8_reads_77 rfl rfl ?_
        refine x_get (pc := 78) dX8_reads_78 lk_X8_34 gc_53 rfl rfl ?_
        refine x_icmp_ne (pc := 81) 88 dX8_reads_81 (by decide) (fun c_9 => ?_) (fun c_9 => ?_)
        · have h := aw_neg h c_9
          refine x_iconst (pc := 88) (w := 0) dX8_reads_88 ic_0 ?_
          obtain ⟨rfl, rfl⟩ := aw_so h
          exact x_zret (pc := 89) aw_b0 dX8_reads_89
        · have h := aw_pos h c_9
          refine x_iconst (pc := 84) (w := 1) dX8_reads_84 ic_1 ?_
          refine x_goto (pc := 85) 89 dX8_reads_85 (by decide) ?_
          obtain ⟨rfl, rfl⟩ := aw_so h
          exact x_zret (pc := 89) aw_b1 dX8_reads_89
    · have h := aw_neg h c_4
      refine x_aload_n (pc := 28) 0 dX8_reads_28 rfl rfl ?_
      refine x_get (pc := 29) dX8_reads_29 lk_X8_15 gc_53 rfl rfl ?_
      refine x_iload (pc := 32) dX8_reads_32 rfl ?_
      refine x_aload_n (pc := 34) 1 dX8_reads_34 rfl rfl ?_
      refine x_iload (pc := 35) dX8_reads_35 rfl ?_
      obtain ⟨c_10, h⟩ := aw_ck h
      refine x_bald (pc := 37) dX8_reads_37 gc_10 c_10 ?_
      refine x_sipush (pc := 38) (w := 255) dX8_reads_38 si_255 ?_
      refine x_iand (pc := 41) dX8_reads_41 ?_
      obtain ⟨c_11, h⟩ := aw_ck h
      refine x_iast (pc := 42) dX8_reads_42 gc_55 c_11 ?_
      refine x_iinc (pc := 43) (p4 + 1) [(4, .int (p4 + 1)), (0, .ref (ad 53)), (1, .ref (ad 10)), (3, .ref (ad (900 + p3.toNatClampNeg)))] dX8_reads_43 rfl (congrArg (fun z => p4 + z) ic_1) (by decide) rfl ?_
      refine x_goto (pc := 46) 19 dX8_reads_46 (by decide) ?_
      refine x_lv [1, 2, 3, 0] [(0, .ref (ad 53)), (1, .ref (ad 10)), (3, .ref (ad (900 + p3.toNatClampNeg))), (4, .int (p4 + 1))] rfl ?_
      exact ih p3 (p4 + 1) _ _ _ h
def fc_Te_reads (p2 : Int32) (p3 : Int32) (M : aw_M) : Option (Int32 × aw_M) :=
  aw_bi (fc_LB_held p2 0 (aw_min 50 50) M) fun r_2 M_3 => (
  fc_Te_reads_L19  2000 p3 0 (aw_u M_3 53 4 r_2)
  )
set_option maxRecDepth 20000 in
theorem tc_Te_reads {l : Launch} {D : va_G} {cy : Nat → ClassId} {ad : Nat → Nat} {A : Nat → Prop} (d : Nat) (hd : 481 ≤ d) (p2 : Int32) (p3 : Int32) (M : aw_M) (r : Int32) (M1 : aw_M) (h : fc_Te_reads p2 p3 M = some (r, M1)) : AX l D cy ad A gc_G yX8_reads cX8_reads 5 (some .boolean) d [.ref (ad 53), .ref (ad 10), .int p2, .ref (ad (900 + p3.toNatClampNeg))] M (some (.int r)) M1 := by
  have hd1 : (d - 1) + 1 ≤ d := by omega
  have hm1 : 1 ≤ d := by omega
  have hh_1 : 1 ≤ d - 1 := by omega
  have hh_480 : 480 ≤ d - 1 := by omega
  refine AX.of (own := RX8) (by decide +kernel) rfl (Nat.le_of_ble_eq_true rfl) ?_
  unfold fc_Te_reads at h
  show AW l D cy ad A gc_G RX8 cX8_reads 5 (some .boolean) d (some (.int r)) M1 0 [(0, .ref (ad 53)), (1, .ref (ad 10)), (2, .int p2), (3, .ref (ad (900 + p3.toNatClampNeg)))] [] M
  refine x_aload_n (pc := 0) 0 dX8_reads_0 rfl rfl ?_
  refine x_iload_n (pc := 1) 2 dX8_reads_1 rfl rfl ?_
  refine x_iconst (pc := 2) (w := 0) dX8_reads_2 ic_0 ?_
  refine x_aload_n (pc := 3) 1 dX8_reads_3 rfl rfl ?_
  refine x_blen (pc := 4) (w := 50) dX8_reads_4 gc_10 rfl ?_
  refine x_bipush (pc := 5) (w := 50) dX8_reads_5 bi_50 ?_
  refine x_min (pc := 7) dX8_reads_7 (tb_in (i := 539) (by decide +kernel) rfl) hm1 (Nat.le_of_ble_eq_true rfl) ?_
  obtain ⟨r_2, M_3, e_1, h⟩ := aw_bi_e h
  refine x_callSN (pc := 10) (As := [.int p2, .int 0, .int (aw_min 50 50)]) (rest := [.ref (ad 53)]) (st' := [.int r_2, .ref (ad 53)]) (w := (some (.int r_2))) (host := "LoopsBelow") dX8_reads_10 (by decide +kernel) cw_X8_30 hd1 rfl rfl (Nat.le_of_ble_eq_true rfl) (tc_LB_held (d - 1) hh_1 p2 0 (aw_min 50 50) _ _ _ e_1) rfl ?_
  refine x_put (pc := 13) (x := r_2) dX8_reads_13 lk_X8_34 lp_X8_4 gc_53 rfl rfl rfl rfl ?_
  refine x_iconst (pc := 16) (w := 0) dX8_reads_16 ic_0 ?_
  refine x_istore (pc := 17) 4 [(4, .int 0), (0, .ref (ad 53)), (1, .ref (ad 10)), (2, .int p2), (3, .ref (ad (900 + p3.toNatClampNeg)))] dX8_reads_17 (by decide) rfl ?_
  refine x_lv [1, 2, 4, 0] [(0, .ref (ad 53)), (1, .ref (ad 10)), (3, .ref (ad (900 + p3.toNatClampNeg))), (4, .int 0)] rfl ?_
  exact tc_Te_reads_L19 d hd  2000 p3 0 _ _ _ h
def fc_LB_error (p1 : Int32) (M : aw_M) : Option (Int32 × aw_M) :=
  if p1 < 1 then (
    some (((-1000000000) - p1), M)
  ) else (
    if (5 : Int32) < p1 then (
      some (((-1000000000) - p1), M)
    ) else (
      if aw_in p1 6 then none else (
      if aw_in p1 6 then none else (
      some (((-1000000000) - p1), (aw_u M 67 p1.toNatClampNeg ((M 67 p1.toNatClampNeg) + 1)))
      )
      )
    )
  )
set_option maxRecDepth 20000 in
theorem tc_LB_error {l : Launch} {D : va_G} {cy : Nat → ClassId} {ad : Nat → Nat} {A : Nat → Prop} (d : Nat) (hd : 0 ≤ d) (p1 : Int32) (M : aw_M) (r : Int32) (M1 : aw_M) (h : fc_LB_error p1 M = some (r, M1)) : AX l D cy ad A gc_G yX9_error cX9_error 2 (some .int) d [.ref (ad 0), .int p1] M (some (.int r)) M1 := by
  refine AX.of (own := RX9) (by decide +kernel) rfl (Nat.le_of_ble_eq_true rfl) ?_
  unfold fc_LB_error at h
  show AW l D cy ad A gc_G RX9 cX9_error 2 (some .int) d (some (.int r)) M1 0 [(0, .ref (ad 0)), (1, .int p1)] [] M
  refine x_iload_n (pc := 0) 1 dX9_error_0 rfl rfl ?_
  refine x_iconst (pc := 1) (w := 1) dX9_error_1 ic_1 ?_
  refine x_icmp_lt (pc := 2) 20 dX9_error_2 (by decide) (fun c_1 => ?_) (fun c_1 => ?_)
  · have h := aw_pos h c_1
    refine x_ldcw (pc := 20) dX9_error_20 wk_X9_354 ?_
    refine x_iload_n (pc := 23) 1 dX9_error_23 rfl rfl ?_
    refine x_isub (pc := 24) dX9_error_24 ?_
    obtain ⟨rfl, rfl⟩ := aw_so h
    exact x_iret (pc := 25) dX9_error_25
  · have h := aw_neg h c_1
    refine x_iload_n (pc := 5) 1 dX9_error_5 rfl rfl ?_
    refine x_iconst (pc := 6) (w := 5) dX9_error_6 ic_5 ?_
    refine x_icmp_gt (pc := 7) 20 dX9_error_7 (by decide) (fun c_2 => ?_) (fun c_2 => ?_)
    · have h := aw_pos h c_2
      refine x_ldcw (pc := 20) dX9_error_20 wk_X9_354 ?_
      refine x_iload_n (pc := 23) 1 dX9_error_23 rfl rfl ?_
      refine x_isub (pc := 24) dX9_error_24 ?_
      obtain ⟨rfl, rfl⟩ := aw_so h
      exact x_iret (pc := 25) dX9_error_25
    · have h := aw_neg h c_2
      refine x_aload_n (pc := 10) 0 dX9_error_10 rfl rfl ?_
      refine x_get (pc := 11) dX9_error_11 lk_X9_77 gc_0 rfl rfl ?_
      refine x_iload_n (pc := 14) 1 dX9_error_14 rfl rfl ?_
      refine x_dup2_11 (pc := 15) dX9_error_15 rfl rfl ?_
      obtain ⟨c_3, h⟩ := aw_ck h
      refine x_iald (pc := 16) dX9_error_16 gc_67 c_3 ?_
      refine x_iconst (pc := 17) (w := 1) dX9_error_17 ic_1 ?_
      refine x_iadd (pc := 18) dX9_error_18 ?_
      obtain ⟨c_4, h⟩ := aw_ck h
      refine x_iast (pc := 19) dX9_error_19 gc_67 c_4 ?_
      refine x_ldcw (pc := 20) dX9_error_20 wk_X9_354 ?_
      refine x_iload_n (pc := 23) 1 dX9_error_23 rfl rfl ?_
      refine x_isub (pc := 24) dX9_error_24 ?_
      obtain ⟨rfl, rfl⟩ := aw_so h
      exact x_iret (pc := 25) dX9_error_25
def fc_LB_set (p1 : Int32) (p2 : Int32) (M : aw_M) : Option (Int32 × aw_M) :=
  if p2 < 0 then (
    fc_LB_error 1 M
  ) else (
    aw_bi (fc_Ma_mostOf p1 M) fun r_3 M_4 => (
    if p2 ≤ r_3 then (
      aw_bi (fc_Ma_part 0 p1 M_4) fun r_7 M_8 => (
      aw_bv (fc_Ma_turnPart 0 p1 p2 M_8) fun M_10 => (
      some (r_7, M_10)
      )
      )
    ) else (
      fc_LB_error 1 M_4
    )
    )
  )
set_option maxRecDepth 20000 in
theorem tc_LB_set {l : Launch} {D : va_G} {cy : Nat → ClassId} {ad : Nat → Nat} {A : Nat → Prop} (d : Nat) (hd : 1 ≤ d) (p1 : Int32) (p2 : Int32) (M : aw_M) (r : Int32) (M1 : aw_M) (h : fc_LB_set p1 p2 M = some (r, M1)) : AX l D cy ad A gc_G yX9_set cX9_set 4 (some .int) d [.ref (ad 0), .int p1, .int p2] M (some (.int r)) M1 := by
  have hd1 : (d - 1) + 1 ≤ d := by omega
  have hm1 : 1 ≤ d := by omega
  have hh_0 : 0 ≤ d - 1 := by omega
  refine AX.of (own := RX9) (by decide +kernel) rfl (Nat.le_of_ble_eq_true rfl) ?_
  unfold fc_LB_set at h
  show AW l D cy ad A gc_G RX9 cX9_set 4 (some .int) d (some (.int r)) M1 0 [(0, .ref (ad 0)), (1, .int p1), (2, .int p2)] [] M
  refine x_iload_n (pc := 0) 2 dX9_set_0 rfl rfl ?_
  refine x_if_lt (pc := 1) 12 dX9_set_1 (by decide) (fun c_1 => ?_) (fun c_1 => ?_)
  · have h := aw_pos h c_1
    refine x_aload_n (pc := 12) 0 dX9_set_12 rfl rfl ?_
    refine x_iconst (pc := 13) (w := 1) dX9_set_13 ic_1 ?_
    refine x_callV (pc := 14) (As := [.int 1]) (rest := []) (st' := [.int r]) (w := (some (.int r))) dX9_set_14 cw_X9_84 hd1 gc_0 rfl rfl rfl (Nat.le_of_ble_eq_true rfl) (tc_LB_error (d - 1) hh_0 1 _ _ _ h) rfl ?_
    exact x_iret (pc := 17) dX9_set_17
  · have h := aw_neg h c_1
    refine x_iload_n (pc := 4) 2 dX9_set_4 rfl rfl ?_
    refine x_iload_n (pc := 5) 1 dX9_set_5 rfl rfl ?_
    obtain ⟨r_3, M_4, e_2, h⟩ := aw_bi_e h
    refine x_callS (pc := 6) (As := [.int p1]) (rest := [.int p2]) (st' := [.int r_3, .int p2]) (w := (some (.int r_3))) dX9_set_6 cw_X9_80 hd1 rfl rfl (Nat.le_of_ble_eq_true rfl) (tc_Ma_mostOf (d - 1) hh_0 p1 _ _ _ e_2) rfl ?_
    refine x_icmp_le (pc := 9) 18 dX9_set_9 (by decide) (fun c_5 => ?_) (fun c_5 => ?_)
    · have h := aw_pos h c_5
      refine x_aload_n (pc := 18) 0 dX9_set_18 rfl rfl ?_
      refine x_get (pc := 19) dX9_set_19 lk_X9_10 gc_0 rfl rfl ?_
      refine x_get (pc := 22) dX9_set_22 lk_X9_87 gc_1 rfl rfl ?_
      refine x_iload_n (pc := 25) 1 dX9_set_25 rfl rfl ?_
      obtain ⟨r_7, M_8, e_6, h⟩ := aw_bi_e h
      refine x_callV (pc := 26) (As := [.int p1]) (rest := []) (st' := [.int r_7]) (w := (some (.int r_7))) dX9_set_26 cw_X9_90 hd1 (gc_mach (i := 0) (by decide)) rfl rfl rfl (Nat.le_of_ble_eq_true rfl) (tc_Ma_part (d - 1) hh_0 0 (by decide) p1 _ _ _ e_6) rfl ?_
      refine x_istore_n (pc := 29) 3 [(3, .int r_7), (0, .ref (ad 0)), (1, .int p1), (2, .int p2)] dX9_set_29 rfl (by decide) rfl ?_
      refine x_aload_n (pc := 30) 0 dX9_set_30 rfl rfl ?_
      refine x_get (pc := 31) dX9_set_31 lk_X9_10 gc_0 rfl rfl ?_
      refine x_get (pc := 34) dX9_set_34 lk_X9_87 gc_1 rfl rfl ?_
      refine x_iload_n (pc := 37) 1 dX9_set_37 rfl rfl ?_
      refine x_iload_n (pc := 38) 2 dX9_set_38 rfl rfl ?_
      obtain ⟨M_10, e_9, h⟩ := aw_bv_e h
      refine x_callV (pc := 39) (As := [.int p1, .int p2]) (rest := []) (st' := []) (w := none) dX9_set_39 cw_X9_93 hd1 (gc_mach (i := 0) (by decide)) rfl rfl rfl (Nat.le_of_ble_eq_true rfl) (tc_Ma_turnPart (d - 1) hh_0 0 (by decide) p1 p2 _  _ e_9) rfl ?_
      refine x_iload_n (pc := 42) 3 dX9_set_42 rfl rfl ?_
      obtain ⟨rfl, rfl⟩ := aw_so h
      exact x_iret (pc := 43) dX9_set_43
    · have h := aw_neg h c_5
      refine x_aload_n (pc := 12) 0 dX9_set_12 rfl rfl ?_
      refine x_iconst (pc := 13) (w := 1) dX9_set_13 ic_1 ?_
      refine x_callV (pc := 14) (As := [.int 1]) (rest := []) (st' := [.int r]) (w := (some (.int r))) dX9_set_14 cw_X9_84 hd1 gc_0 rfl rfl rfl (Nat.le_of_ble_eq_true rfl) (tc_LB_error (d - 1) hh_0 1 _ _ _ h) rfl ?_
      exact x_iret (pc := 17) dX9_set_17
def fc_LB_machine (p1 : Int32) (M : aw_M) : Option (Int32 × aw_M) :=
  if p1 < 0 then (
    fc_LB_error 1 M
  ) else (
    if p1 ≤ 5 then (
      fc_Ma_part 0 p1 M
    ) else (
      fc_LB_error 1 M
    )
  )
set_option maxRecDepth 20000 in
theorem tc_LB_machine {l : Launch} {D : va_G} {cy : Nat → ClassId} {ad : Nat → Nat} {A : Nat → Prop} (d : Nat) (hd : 1 ≤ d) (p1 : Int32) (M : aw_M) (r : Int32) (M1 : aw_M) (h : fc_LB_machine p1 M = some (r, M1)) : AX l D cy ad A gc_G yX9_machine cX9_machine 2 (some .int) d [.ref (ad 0), .int p1] M (some (.int r)) M1 := by
  have hd1 : (d - 1) + 1 ≤ d := by omega
  have hm1 : 1 ≤ d := by omega
  have hh_0 : 0 ≤ d - 1 := by omega
  refine AX.of (own := RX9) (by decide +kernel) rfl (Nat.le_of_ble_eq_true rfl) ?_
  unfold fc_LB_machine at h
  show AW l D cy ad A gc_G RX9 cX9_machine 2 (some .int) d (some (.int r)) M1 0 [(0, .ref (ad 0)), (1, .int p1)] [] M
  refine x_iload_n (pc := 0) 1 dX9_machine_0 rfl rfl ?_
  refine x_if_lt (pc := 1) 9 dX9_machine_1 (by decide) (fun c_1 => ?_) (fun c_1 => ?_)
  · have h := aw_pos h c_1
    refine x_aload_n (pc := 9) 0 dX9_machine_9 rfl rfl ?_
    refine x_iconst (pc := 10) (w := 1) dX9_machine_10 ic_1 ?_
    refine x_callV (pc := 11) (As := [.int 1]) (rest := []) (st' := [.int r]) (w := (some (.int r))) dX9_machine_11 cw_X9_84 hd1 gc_0 rfl rfl rfl (Nat.le_of_ble_eq_true rfl) (tc_LB_error (d - 1) hh_0 1 _ _ _ h) rfl ?_
    exact x_iret (pc := 14) dX9_machine_14
  · have h := aw_neg h c_1
    refine x_iload_n (pc := 4) 1 dX9_machine_4 rfl rfl ?_
    refine x_iconst (pc := 5) (w := 5) dX9_machine_5 ic_5 ?_
    refine x_icmp_le (pc := 6) 15 dX9_machine_6 (by decide) (fun c_2 => ?_) (fun c_2 => ?_)
    · have h := aw_pos h c_2
      refine x_aload_n (pc := 15) 0 dX9_machine_15 rfl rfl ?_
      refine x_get (pc := 16) dX9_machine_16 lk_X9_10 gc_0 rfl rfl ?_
      refine x_get (pc := 19) dX9_machine_19 lk_X9_87 gc_1 rfl rfl ?_
      refine x_iload_n (pc := 22) 1 dX9_machine_22 rfl rfl ?_
      refine x_callV (pc := 23) (As := [.int p1]) (rest := []) (st' := [.int r]) (w := (some (.int r))) dX9_machine_23 cw_X9_90 hd1 (gc_mach (i := 0) (by decide)) rfl rfl rfl (Nat.le_of_ble_eq_true rfl) (tc_Ma_part (d - 1) hh_0 0 (by decide) p1 _ _ _ h) rfl ?_
      exact x_iret (pc := 26) dX9_machine_26
    · have h := aw_neg h c_2
      refine x_aload_n (pc := 9) 0 dX9_machine_9 rfl rfl ?_
      refine x_iconst (pc := 10) (w := 1) dX9_machine_10 ic_1 ?_
      refine x_callV (pc := 11) (As := [.int 1]) (rest := []) (st' := [.int r]) (w := (some (.int r))) dX9_machine_11 cw_X9_84 hd1 gc_0 rfl rfl rfl (Nat.le_of_ble_eq_true rfl) (tc_LB_error (d - 1) hh_0 1 _ _ _ h) rfl ?_
      exact x_iret (pc := 14) dX9_machine_14
def fc_LB_isDigit (p0 : Int32) (M : aw_M) : Option (Int32 × aw_M) :=
  if p0 < 0 then (
    some (0, M)
  ) else (
    if (9 : Int32) < p0 then (
      some (0, M)
    ) else (
      some (1, M)
    )
  )
set_option maxRecDepth 20000 in
theorem tc_LB_isDigit {l : Launch} {D : va_G} {cy : Nat → ClassId} {ad : Nat → Nat} {A : Nat → Prop} (d : Nat) (hd : 0 ≤ d) (p0 : Int32) (M : aw_M) (r : Int32) (M1 : aw_M) (h : fc_LB_isDigit p0 M = some (r, M1)) : AX l D cy ad A gc_G yX9_isDigit cX9_isDigit 1 (some .boolean) d [.int p0] M (some (.int r)) M1 := by
  refine AX.of (own := RX9) (by decide +kernel) rfl (Nat.le_of_ble_eq_true rfl) ?_
  unfold fc_LB_isDigit at h
  show AW l D cy ad A gc_G RX9 cX9_isDigit 1 (some .boolean) d (some (.int r)) M1 0 [(0, .int p0)] [] M
  refine x_iload_n (pc := 0) 0 dX9_isDigit_0 rfl rfl ?_
  refine x_if_lt (pc := 1) 14 dX9_isDigit_1 (by decide) (fun c_1 => ?_) (fun c_1 => ?_)
  · have h := aw_pos h c_1
    refine x_iconst (pc := 14) (w := 0) dX9_isDigit_14 ic_0 ?_
    obtain ⟨rfl, rfl⟩ := aw_so h
    exact x_zret (pc := 15) aw_b0 dX9_isDigit_15
  · have h := aw_neg h c_1
    refine x_iload_n (pc := 4) 0 dX9_isDigit_4 rfl rfl ?_
    refine x_bipush (pc := 5) (w := 9) dX9_isDigit_5 bi_9 ?_
    refine x_icmp_gt (pc := 7) 14 dX9_isDigit_7 (by decide) (fun c_2 => ?_) (fun c_2 => ?_)
    · have h := aw_pos h c_2
      refine x_iconst (pc := 14) (w := 0) dX9_isDigit_14 ic_0 ?_
      obtain ⟨rfl, rfl⟩ := aw_so h
      exact x_zret (pc := 15) aw_b0 dX9_isDigit_15
    · have h := aw_neg h c_2
      refine x_iconst (pc := 10) (w := 1) dX9_isDigit_10 ic_1 ?_
      refine x_goto (pc := 11) 15 dX9_isDigit_11 (by decide) ?_
      obtain ⟨rfl, rfl⟩ := aw_so h
      exact x_zret (pc := 15) aw_b1 dX9_isDigit_15
def fc_LB_isKindAndM (p0 : Int32) (M : aw_M) : Option (Int32 × aw_M) :=
  if p0 < 0 then (
    some (0, M)
  ) else (
    if (70 : Int32) ≤ p0 then (
      some (0, M)
    ) else (
      some (1, M)
    )
  )
set_option maxRecDepth 20000 in
theorem tc_LB_isKindAndM {l : Launch} {D : va_G} {cy : Nat → ClassId} {ad : Nat → Nat} {A : Nat → Prop} (d : Nat) (hd : 0 ≤ d) (p0 : Int32) (M : aw_M) (r : Int32) (M1 : aw_M) (h : fc_LB_isKindAndM p0 M = some (r, M1)) : AX l D cy ad A gc_G yX9_isKindAndM cX9_isKindAndM 1 (some .boolean) d [.int p0] M (some (.int r)) M1 := by
  refine AX.of (own := RX9) (by decide +kernel) rfl (Nat.le_of_ble_eq_true rfl) ?_
  unfold fc_LB_isKindAndM at h
  show AW l D cy ad A gc_G RX9 cX9_isKindAndM 1 (some .boolean) d (some (.int r)) M1 0 [(0, .int p0)] [] M
  refine x_iload_n (pc := 0) 0 dX9_isKindAndM_0 rfl rfl ?_
  refine x_if_lt (pc := 1) 14 dX9_isKindAndM_1 (by decide) (fun c_1 => ?_) (fun c_1 => ?_)
  · have h := aw_pos h c_1
    refine x_iconst (pc := 14) (w := 0) dX9_isKindAndM_14 ic_0 ?_
    obtain ⟨rfl, rfl⟩ := aw_so h
    exact x_zret (pc := 15) aw_b0 dX9_isKindAndM_15
  · have h := aw_neg h c_1
    refine x_iload_n (pc := 4) 0 dX9_isKindAndM_4 rfl rfl ?_
    refine x_bipush (pc := 5) (w := 70) dX9_isKindAndM_5 bi_70 ?_
    refine x_icmp_ge (pc := 7) 14 dX9_isKindAndM_7 (by decide) (fun c_2 => ?_) (fun c_2 => ?_)
    · have h := aw_pos h c_2
      refine x_iconst (pc := 14) (w := 0) dX9_isKindAndM_14 ic_0 ?_
      obtain ⟨rfl, rfl⟩ := aw_so h
      exact x_zret (pc := 15) aw_b0 dX9_isKindAndM_15
    · have h := aw_neg h c_2
      refine x_iconst (pc := 10) (w := 1) dX9_isKindAndM_10 ic_1 ?_
      refine x_goto (pc := 11) 15 dX9_isKindAndM_11 (by decide) ?_
      obtain ⟨rfl, rfl⟩ := aw_so h
      exact x_zret (pc := 15) aw_b1 dX9_isKindAndM_15
def fc_LB_cloth (p1 : Int32) (p2 : Int32) (M : aw_M) : Option (Int32 × aw_M) :=
  aw_bi (fc_LB_isKindAndM p1 M) fun r_2 M_3 => (
  if r_2 = 0 then (
    fc_LB_error 1 M_3
  ) else (
    aw_bi (fc_LB_isDigit p2 M_3) fun r_6 M_7 => (
    if r_6 = 0 then (
      fc_LB_error 1 M_7
    ) else (
      if (M_7 1 5) < 6 then (
        if aw_in (M_7 1 5) 6 then none else (
        aw_bv (fc_Cl_begin ((M_7 1 5).toNatClampNeg) p1 p2 M_7) fun M_12 => (
        some ((M_7 1 5), (aw_u M_12 1 5 ((M_7 1 5) + 1)))
        )
        )
      ) else (
        fc_LB_error 4 M_7
      )
    )
    )
  )
  )
set_option maxRecDepth 20000 in
theorem tc_LB_cloth {l : Launch} {D : va_G} {cy : Nat → ClassId} {ad : Nat → Nat} {A : Nat → Prop} (d : Nat) (hd : 2 ≤ d) (p1 : Int32) (p2 : Int32) (M : aw_M) (r : Int32) (M1 : aw_M) (h : fc_LB_cloth p1 p2 M = some (r, M1)) : AX l D cy ad A gc_G yX9_cloth cX9_cloth 4 (some .int) d [.ref (ad 0), .int p1, .int p2] M (some (.int r)) M1 := by
  have hd1 : (d - 1) + 1 ≤ d := by omega
  have hm1 : 1 ≤ d := by omega
  have hh_0 : 0 ≤ d - 1 := by omega
  have hh_1 : 1 ≤ d - 1 := by omega
  refine AX.of (own := RX9) (by decide +kernel) rfl (Nat.le_of_ble_eq_true rfl) ?_
  unfold fc_LB_cloth at h
  show AW l D cy ad A gc_G RX9 cX9_cloth 4 (some .int) d (some (.int r)) M1 0 [(0, .ref (ad 0)), (1, .int p1), (2, .int p2)] [] M
  refine x_iload_n (pc := 0) 1 dX9_cloth_0 rfl rfl ?_
  obtain ⟨r_2, M_3, e_1, h⟩ := aw_bi_e h
  refine x_callS (pc := 1) (As := [.int p1]) (rest := []) (st' := [.int r_2]) (w := (some (.int r_2))) dX9_cloth_1 cw_X9_97 hd1 rfl rfl (Nat.le_of_ble_eq_true rfl) (tc_LB_isKindAndM (d - 1) hh_0 p1 _ _ _ e_1) rfl ?_
  refine x_if_eq (pc := 4) 14 dX9_cloth_4 (by decide) (fun c_4 => ?_) (fun c_4 => ?_)
  · have h := aw_pos h c_4
    refine x_aload_n (pc := 14) 0 dX9_cloth_14 rfl rfl ?_
    refine x_iconst (pc := 15) (w := 1) dX9_cloth_15 ic_1 ?_
    refine x_callV (pc := 16) (As := [.int 1]) (rest := []) (st' := [.int r]) (w := (some (.int r))) dX9_cloth_16 cw_X9_84 hd1 gc_0 rfl rfl rfl (Nat.le_of_ble_eq_true rfl) (tc_LB_error (d - 1) hh_0 1 _ _ _ h) rfl ?_
    exact x_iret (pc := 19) dX9_cloth_19
  · have h := aw_neg h c_4
    refine x_iload_n (pc := 7) 2 dX9_cloth_7 rfl rfl ?_
    obtain ⟨r_6, M_7, e_5, h⟩ := aw_bi_e h
    refine x_callS (pc := 8) (As := [.int p2]) (rest := []) (st' := [.int r_6]) (w := (some (.int r_6))) dX9_cloth_8 cw_X9_101 hd1 rfl rfl (Nat.le_of_ble_eq_true rfl) (tc_LB_isDigit (d - 1) hh_0 p2 _ _ _ e_5) rfl ?_
    refine x_if_ne (pc := 11) 20 dX9_cloth_11 (by decide) (fun c_8 => ?_) (fun c_8 => ?_)
    · have h := aw_neg h c_8
      refine x_aload_n (pc := 20) 0 dX9_cloth_20 rfl rfl ?_
      refine x_get (pc := 21) dX9_cloth_21 lk_X9_10 gc_0 rfl rfl ?_
      refine x_get (pc := 24) dX9_cloth_24 lk_X9_104 gc_1 rfl rfl ?_
      refine x_bipush (pc := 27) (w := 6) dX9_cloth_27 bi_6 ?_
      refine x_icmp_lt (pc := 29) 38 dX9_cloth_29 (by decide) (fun c_9 => ?_) (fun c_9 => ?_)
      · have h := aw_pos h c_9
        refine x_aload_n (pc := 38) 0 dX9_cloth_38 rfl rfl ?_
        refine x_get (pc := 39) dX9_cloth_39 lk_X9_10 gc_0 rfl rfl ?_
        refine x_get (pc := 42) dX9_cloth_42 lk_X9_104 gc_1 rfl rfl ?_
        refine x_istore_n (pc := 45) 3 [(3, .int (M_7 1 5)), (0, .ref (ad 0)), (1, .int p1), (2, .int p2)] dX9_cloth_45 rfl (by decide) rfl ?_
        refine x_aload_n (pc := 46) 0 dX9_cloth_46 rfl rfl ?_
        refine x_get (pc := 47) dX9_cloth_47 lk_X9_10 gc_0 rfl rfl ?_
        refine x_get (pc := 50) dX9_cloth_50 lk_X9_36 gc_1 rfl rfl ?_
        refine x_iload_n (pc := 53) 3 dX9_cloth_53 rfl rfl ?_
        obtain ⟨c_10, h⟩ := aw_ck h
        refine x_aald (pc := 54) dX9_cloth_54 gc_6 (fun _ => rfl) c_10 (ga_6 (aw_lt c_10)) ?_
        refine x_iload_n (pc := 55) 1 dX9_cloth_55 rfl rfl ?_
        refine x_iload_n (pc := 56) 2 dX9_cloth_56 rfl rfl ?_
        obtain ⟨M_12, e_11, h⟩ := aw_bv_e h
        refine x_callV (pc := 57) (As := [.int p1, .int p2]) (rest := []) (st' := []) (w := none) dX9_cloth_57 cw_X9_107 hd1 (gc_cloth (i := (M_7 1 5).toNatClampNeg) (Nat.lt_of_lt_of_le (aw_lt c_10) (by decide))) rfl rfl rfl (Nat.le_of_ble_eq_true rfl) (tc_Cl_begin (d - 1) hh_1 ((M_7 1 5).toNatClampNeg) (Nat.lt_of_lt_of_le (aw_lt c_10) (by decide)) p1 p2 _  _ e_11) rfl ?_
        refine x_aload_n (pc := 60) 0 dX9_cloth_60 rfl rfl ?_
        refine x_get (pc := 61) dX9_cloth_61 lk_X9_10 gc_0 rfl rfl ?_
        refine x_iload_n (pc := 64) 3 dX9_cloth_64 rfl rfl ?_
        refine x_iconst (pc := 65) (w := 1) dX9_cloth_65 ic_1 ?_
        refine x_iadd (pc := 66) dX9_cloth_66 ?_
        refine x_put (pc := 67) (x := ((M_7 1 5) + 1)) dX9_cloth_67 lk_X9_104 lp_X7_5 gc_1 rfl rfl rfl rfl ?_
        refine x_iload_n (pc := 70) 3 dX9_cloth_70 rfl rfl ?_
        obtain ⟨rfl, rfl⟩ := aw_so h
        exact x_iret (pc := 71) dX9_cloth_71
      · have h := aw_neg h c_9
        refine x_aload_n (pc := 32) 0 dX9_cloth_32 rfl rfl ?_
        refine x_iconst (pc := 33) (w := 4) dX9_cloth_33 ic_4 ?_
        refine x_callV (pc := 34) (As := [.int 4]) (rest := []) (st' := [.int r]) (w := (some (.int r))) dX9_cloth_34 cw_X9_84 hd1 gc_0 rfl rfl rfl (Nat.le_of_ble_eq_true rfl) (tc_LB_error (d - 1) hh_0 4 _ _ _ h) rfl ?_
        exact x_iret (pc := 37) dX9_cloth_37
    · have h := aw_pos h c_8
      refine x_aload_n (pc := 14) 0 dX9_cloth_14 rfl rfl ?_
      refine x_iconst (pc := 15) (w := 1) dX9_cloth_15 ic_1 ?_
      refine x_callV (pc := 16) (As := [.int 1]) (rest := []) (st' := [.int r]) (w := (some (.int r))) dX9_cloth_16 cw_X9_84 hd1 gc_0 rfl rfl rfl (Nat.le_of_ble_eq_true rfl) (tc_LB_error (d - 1) hh_0 1 _ _ _ h) rfl ?_
      exact x_iret (pc := 19) dX9_cloth_19
def fc_LB_gaugeOf (p1 : Int32) (M : aw_M) : Option (Nat × aw_M) :=
  if aw_in p1 6 then none else (
  aw_bv (fc_Ga_refresh p1.toNatClampNeg M) fun M_3 => (
  if aw_in p1 6 then none else (
  some (p1.toNatClampNeg, M_3)
  )
  )
  )
set_option maxRecDepth 20000 in
theorem tc_LB_gaugeOf {l : Launch} {D : va_G} {cy : Nat → ClassId} {ad : Nat → Nat} {A : Nat → Prop} (d : Nat) (hd : 4 ≤ d) (p1 : Int32) (M : aw_M) (r : Nat) (M1 : aw_M) (h : fc_LB_gaugeOf p1 M = some (r, M1)) : AX l D cy ad A gc_G yX9_gaugeOf cX9_gaugeOf 2 (some (.object "LoopsBelow$Gauge")) d [.ref (ad 0), .int p1] M (some (.ref (ad (39 + r)))) M1 := by
  have hd1 : (d - 1) + 1 ≤ d := by omega
  have hm1 : 1 ≤ d := by omega
  have hh_3 : 3 ≤ d - 1 := by omega
  refine AX.of (own := RX9) (by decide +kernel) rfl (Nat.le_of_ble_eq_true rfl) ?_
  unfold fc_LB_gaugeOf at h
  show AW l D cy ad A gc_G RX9 cX9_gaugeOf 2 (some (.object "LoopsBelow$Gauge")) d (some (.ref (ad (39 + r)))) M1 0 [(0, .ref (ad 0)), (1, .int p1)] [] M
  refine x_aload_n (pc := 0) 0 dX9_gaugeOf_0 rfl rfl ?_
  refine x_get (pc := 1) dX9_gaugeOf_1 lk_X9_32 gc_0 rfl rfl ?_
  refine x_iload_n (pc := 4) 1 dX9_gaugeOf_4 rfl rfl ?_
  obtain ⟨c_1, h⟩ := aw_ck h
  refine x_aald (pc := 5) dX9_gaugeOf_5 gc_38 (fun _ => rfl) c_1 (ga_38 (aw_lt c_1)) ?_
  obtain ⟨M_3, e_2, h⟩ := aw_bv_e h
  refine x_callV (pc := 6) (As := []) (rest := []) (st' := []) (w := none) dX9_gaugeOf_6 cw_X9_355 hd1 (gc_gauge (i := p1.toNatClampNeg) (aw_lt c_1)) rfl rfl rfl (Nat.le_of_ble_eq_true rfl) (tc_Ga_refresh (d - 1) hh_3 p1.toNatClampNeg (aw_lt c_1) _  _ e_2) rfl ?_
  refine x_aload_n (pc := 9) 0 dX9_gaugeOf_9 rfl rfl ?_
  refine x_get (pc := 10) dX9_gaugeOf_10 lk_X9_32 gc_0 rfl rfl ?_
  refine x_iload_n (pc := 13) 1 dX9_gaugeOf_13 rfl rfl ?_
  obtain ⟨c_4, h⟩ := aw_ck h
  refine x_aald (pc := 14) dX9_gaugeOf_14 gc_38 (fun _ => rfl) c_4 (ga_38 (aw_lt c_4)) ?_
  obtain ⟨rfl, rfl⟩ := aw_sn h
  exact x_aret (pc := 15) dX9_gaugeOf_15
def fc_LB_hasCloth (p1 : Int32) (M : aw_M) : Option (Int32 × aw_M) :=
  if p1 < 0 then (
    some (0, M)
  ) else (
    if (M 1 5) ≤ p1 then (
      some (0, M)
    ) else (
      if (6 : Int32) ≤ p1 then (
        some (0, M)
      ) else (
        some (1, M)
      )
    )
  )
set_option maxRecDepth 20000 in
theorem tc_LB_hasCloth {l : Launch} {D : va_G} {cy : Nat → ClassId} {ad : Nat → Nat} {A : Nat → Prop} (d : Nat) (hd : 0 ≤ d) (p1 : Int32) (M : aw_M) (r : Int32) (M1 : aw_M) (h : fc_LB_hasCloth p1 M = some (r, M1)) : AX l D cy ad A gc_G yX9_hasCloth cX9_hasCloth 2 (some .boolean) d [.ref (ad 0), .int p1] M (some (.int r)) M1 := by
  refine AX.of (own := RX9) (by decide +kernel) rfl (Nat.le_of_ble_eq_true rfl) ?_
  unfold fc_LB_hasCloth at h
  show AW l D cy ad A gc_G RX9 cX9_hasCloth 2 (some .boolean) d (some (.int r)) M1 0 [(0, .ref (ad 0)), (1, .int p1)] [] M
  refine x_iload_n (pc := 0) 1 dX9_hasCloth_0 rfl rfl ?_
  refine x_if_lt (pc := 1) 25 dX9_hasCloth_1 (by decide) (fun c_1 => ?_) (fun c_1 => ?_)
  · have h := aw_pos h c_1
    refine x_iconst (pc := 25) (w := 0) dX9_hasCloth_25 ic_0 ?_
    obtain ⟨rfl, rfl⟩ := aw_so h
    exact x_zret (pc := 26) aw_b0 dX9_hasCloth_26
  · have h := aw_neg h c_1
    refine x_iload_n (pc := 4) 1 dX9_hasCloth_4 rfl rfl ?_
    refine x_aload_n (pc := 5) 0 dX9_hasCloth_5 rfl rfl ?_
    refine x_get (pc := 6) dX9_hasCloth_6 lk_X9_10 gc_0 rfl rfl ?_
    refine x_get (pc := 9) dX9_hasCloth_9 lk_X9_104 gc_1 rfl rfl ?_
    refine x_icmp_ge (pc := 12) 25 dX9_hasCloth_12 (by decide) (fun c_2 => ?_) (fun c_2 => ?_)
    · have h := aw_pos h c_2
      refine x_iconst (pc := 25) (w := 0) dX9_hasCloth_25 ic_0 ?_
      obtain ⟨rfl, rfl⟩ := aw_so h
      exact x_zret (pc := 26) aw_b0 dX9_hasCloth_26
    · have h := aw_neg h c_2
      refine x_iload_n (pc := 15) 1 dX9_hasCloth_15 rfl rfl ?_
      refine x_bipush (pc := 16) (w := 6) dX9_hasCloth_16 bi_6 ?_
      refine x_icmp_ge (pc := 18) 25 dX9_hasCloth_18 (by decide) (fun c_3 => ?_) (fun c_3 => ?_)
      · have h := aw_pos h c_3
        refine x_iconst (pc := 25) (w := 0) dX9_hasCloth_25 ic_0 ?_
        obtain ⟨rfl, rfl⟩ := aw_so h
        exact x_zret (pc := 26) aw_b0 dX9_hasCloth_26
      · have h := aw_neg h c_3
        refine x_iconst (pc := 21) (w := 1) dX9_hasCloth_21 ic_1 ?_
        refine x_goto (pc := 22) 26 dX9_hasCloth_22 (by decide) ?_
        obtain ⟨rfl, rfl⟩ := aw_so h
        exact x_zret (pc := 26) aw_b1 dX9_hasCloth_26
def fc_LB_ofCloth (p1 : Int32) (p2 : Int32) (M : aw_M) : Option (Int32 × aw_M) :=
  aw_bi (fc_LB_hasCloth p1 M) fun r_2 M_3 => (
  if r_2 = 0 then (
    fc_LB_error 1 M_3
  ) else (
    if p2 < 0 then (
      fc_LB_error 1 M_3
    ) else (
      if p2 ≤ 8 then (
        if aw_in p1 6 then none else (
        if p2 = 0 then (
          some ((M_3 (14 + p1.toNatClampNeg) 0), M_3)
        ) else (
          if p2 = 1 then (
            some ((M_3 (14 + p1.toNatClampNeg) 1), M_3)
          ) else (
            if p2 = 2 then (
              some ((M_3 (14 + p1.toNatClampNeg) 2), M_3)
            ) else (
              if p2 = 3 then (
                some ((M_3 (14 + p1.toNatClampNeg) 3), M_3)
              ) else (
                if p2 = 4 then (
                  some ((M_3 (14 + p1.toNatClampNeg) 4), M_3)
                ) else (
                  if p2 = 5 then (
                    aw_br (fc_LB_gaugeOf p1 M_3) fun i_15 M_16 => (
                    if 6 ≤ i_15 then none else (
                    some ((M_16 (39 + i_15) 3), M_16)
                    )
                    )
                  ) else (
                    if p2 = 6 then (
                      aw_br (fc_LB_gaugeOf p1 M_3) fun i_20 M_21 => (
                      if 6 ≤ i_20 then none else (
                      some ((M_21 (39 + i_20) 4), M_21)
                      )
                      )
                    ) else (
                      if p2 = 7 then (
                        aw_br (fc_LB_gaugeOf p1 M_3) fun i_25 M_26 => (
                        if 6 ≤ i_25 then none else (
                        fc_Ga_off i_25 0 M_26
                        )
                        )
                      ) else (
                        aw_br (fc_LB_gaugeOf p1 M_3) fun i_29 M_30 => (
                        if 6 ≤ i_29 then none else (
                        fc_Ga_shows i_29 0 M_30
                        )
                        )
                      )
                    )
                  )
                )
              )
            )
          )
        )
        )
      ) else (
        fc_LB_error 1 M_3
      )
    )
  )
  )
set_option maxRecDepth 20000 in
theorem tc_LB_ofCloth {l : Launch} {D : va_G} {cy : Nat → ClassId} {ad : Nat → Nat} {A : Nat → Prop} (d : Nat) (hd : 5 ≤ d) (p1 : Int32) (p2 : Int32) (M : aw_M) (r : Int32) (M1 : aw_M) (h : fc_LB_ofCloth p1 p2 M = some (r, M1)) : AX l D cy ad A gc_G yX9_ofCloth cX9_ofCloth 4 (some .int) d [.ref (ad 0), .int p1, .int p2] M (some (.int r)) M1 := by
  have hd1 : (d - 1) + 1 ≤ d := by omega
  have hm1 : 1 ≤ d := by omega
  have hh_0 : 0 ≤ d - 1 := by omega
  have hh_4 : 4 ≤ d - 1 := by omega
  refine AX.of (own := RX9) (by decide +kernel) rfl (Nat.le_of_ble_eq_true rfl) ?_
  unfold fc_LB_ofCloth at h
  show AW l D cy ad A gc_G RX9 cX9_ofCloth 4 (some .int) d (some (.int r)) M1 0 [(0, .ref (ad 0)), (1, .int p1), (2, .int p2)] [] M
  refine x_aload_n (pc := 0) 0 dX9_ofCloth_0 rfl rfl ?_
  refine x_iload_n (pc := 1) 1 dX9_ofCloth_1 rfl rfl ?_
  obtain ⟨r_2, M_3, e_1, h⟩ := aw_bi_e h
  refine x_callV (pc := 2) (As := [.int p1]) (rest := []) (st' := [.int r_2]) (w := (some (.int r_2))) dX9_ofCloth_2 cw_X9_112 hd1 gc_0 rfl rfl rfl (Nat.le_of_ble_eq_true rfl) (tc_LB_hasCloth (d - 1) hh_0 p1 _ _ _ e_1) rfl ?_
  refine x_if_eq (pc := 5) 18 dX9_ofCloth_5 (by decide) (fun c_4 => ?_) (fun c_4 => ?_)
  · have h := aw_pos h c_4
    refine x_aload_n (pc := 18) 0 dX9_ofCloth_18 rfl rfl ?_
    refine x_iconst (pc := 19) (w := 1) dX9_ofCloth_19 ic_1 ?_
    refine x_callV (pc := 20) (As := [.int 1]) (rest := []) (st' := [.int r]) (w := (some (.int r))) dX9_ofCloth_20 cw_X9_84 hd1 gc_0 rfl rfl rfl (Nat.le_of_ble_eq_true rfl) (tc_LB_error (d - 1) hh_0 1 _ _ _ h) rfl ?_
    exact x_iret (pc := 23) dX9_ofCloth_23
  · have h := aw_neg h c_4
    refine x_iload_n (pc := 8) 2 dX9_ofCloth_8 rfl rfl ?_
    refine x_if_lt (pc := 9) 18 dX9_ofCloth_9 (by decide) (fun c_5 => ?_) (fun c_5 => ?_)
    · have h := aw_pos h c_5
      refine x_aload_n (pc := 18) 0 dX9_ofCloth_18 rfl rfl ?_
      refine x_iconst (pc := 19) (w := 1) dX9_ofCloth_19 ic_1 ?_
      refine x_callV (pc := 20) (As := [.int 1]) (rest := []) (st' := [.int r]) (w := (some (.int r))) dX9_ofCloth_20 cw_X9_84 hd1 gc_0 rfl rfl rfl (Nat.le_of_ble_eq_true rfl) (tc_LB_error (d - 1) hh_0 1 _ _ _ h) rfl ?_
      exact x_iret (pc := 23) dX9_ofCloth_23
    · have h := aw_neg h c_5
      refine x_iload_n (pc := 12) 2 dX9_ofCloth_12 rfl rfl ?_
      refine x_bipush (pc := 13) (w := 8) dX9_ofCloth_13 bi_8 ?_
      refine x_icmp_le (pc := 15) 24 dX9_ofCloth_15 (by decide) (fun c_6 => ?_) (fun c_6 => ?_)
      · have h := aw_pos h c_6
        refine x_aload_n (pc := 24) 0 dX9_ofCloth_24 rfl rfl ?_
        refine x_get (pc := 25) dX9_ofCloth_25 lk_X9_10 gc_0 rfl rfl ?_
        refine x_get (pc := 28) dX9_ofCloth_28 lk_X9_36 gc_1 rfl rfl ?_
        refine x_iload_n (pc := 31) 1 dX9_ofCloth_31 rfl rfl ?_
        obtain ⟨c_7, h⟩ := aw_ck h
        refine x_aald (pc := 32) dX9_ofCloth_32 gc_6 (fun _ => rfl) c_7 (ga_6 (aw_lt c_7)) ?_
        refine x_astore_n (pc := 33) 3 [(3, .ref (ad (14 + p1.toNatClampNeg))), (0, .ref (ad 0)), (1, .int p1), (2, .int p2)] dX9_ofCloth_33 rfl (by decide) rfl ?_
        refine x_iload_n (pc := 34) 2 dX9_ofCloth_34 rfl rfl ?_
        by_cases c_8 : p2 = 0
        · have h := aw_pos h c_8
          refine x_tin (pc := 35) (off := 45) 0 80 dX9_ofCloth_35 c_8 (by decide) (by decide) rfl (by decide) ?_
          refine x_aload_n (pc := 80) 3 dX9_ofCloth_80 rfl rfl ?_
          refine x_get (pc := 81) dX9_ofCloth_81 lk_X9_115 (gc_cloth (i := p1.toNatClampNeg) (Nat.lt_of_lt_of_le (aw_lt c_7) (by decide))) rfl rfl ?_
          obtain ⟨rfl, rfl⟩ := aw_so h
          exact x_iret (pc := 84) dX9_ofCloth_84
        · have h := aw_neg h c_8
          by_cases c_9 : p2 = 1
          · have h := aw_pos h c_9
            refine x_tin (pc := 35) (off := 50) 1 85 dX9_ofCloth_35 c_9 (by decide) (by decide) rfl (by decide) ?_
            refine x_aload_n (pc := 85) 3 dX9_ofCloth_85 rfl rfl ?_
            refine x_get (pc := 86) dX9_ofCloth_86 lk_X9_118 (gc_cloth (i := p1.toNatClampNeg) (Nat.lt_of_lt_of_le (aw_lt c_7) (by decide))) rfl rfl ?_
            obtain ⟨rfl, rfl⟩ := aw_so h
            exact x_iret (pc := 89) dX9_ofCloth_89
          · have h := aw_neg h c_9
            by_cases c_10 : p2 = 2
            · have h := aw_pos h c_10
              refine x_tin (pc := 35) (off := 55) 2 90 dX9_ofCloth_35 c_10 (by decide) (by decide) rfl (by decide) ?_
              refine x_aload_n (pc := 90) 3 dX9_ofCloth_90 rfl rfl ?_
              refine x_get (pc := 91) dX9_ofCloth_91 lk_X9_121 (gc_cloth (i := p1.toNatClampNeg) (Nat.lt_of_lt_of_le (aw_lt c_7) (by decide))) rfl rfl ?_
              obtain ⟨rfl, rfl⟩ := aw_so h
              exact x_iret (pc := 94) dX9_ofCloth_94
            · have h := aw_neg h c_10
              by_cases c_11 : p2 = 3
              · have h := aw_pos h c_11
                refine x_tin (pc := 35) (off := 60) 3 95 dX9_ofCloth_35 c_11 (by decide) (by decide) rfl (by decide) ?_
                refine x_aload_n (pc := 95) 3 dX9_ofCloth_95 rfl rfl ?_
                refine x_get (pc := 96) dX9_ofCloth_96 lk_X9_124 (gc_cloth (i := p1.toNatClampNeg) (Nat.lt_of_lt_of_le (aw_lt c_7) (by decide))) rfl rfl ?_
                obtain ⟨rfl, rfl⟩ := aw_so h
                exact x_iret (pc := 99) dX9_ofCloth_99
              · have h := aw_neg h c_11
                by_cases c_12 : p2 = 4
                · have h := aw_pos h c_12
                  refine x_tin (pc := 35) (off := 65) 4 100 dX9_ofCloth_35 c_12 (by decide) (by decide) rfl (by decide) ?_
                  refine x_aload_n (pc := 100) 3 dX9_ofCloth_100 rfl rfl ?_
                  refine x_get (pc := 101) dX9_ofCloth_101 lk_X9_127 (gc_cloth (i := p1.toNatClampNeg) (Nat.lt_of_lt_of_le (aw_lt c_7) (by decide))) rfl rfl ?_
                  obtain ⟨rfl, rfl⟩ := aw_so h
                  exact x_iret (pc := 104) dX9_ofCloth_104
                · have h := aw_neg h c_12
                  by_cases c_13 : p2 = 5
                  · have h := aw_pos h c_13
                    refine x_tin (pc := 35) (off := 70) 5 105 dX9_ofCloth_35 c_13 (by decide) (by decide) rfl (by decide) ?_
                    refine x_aload_n (pc := 105) 0 dX9_ofCloth_105 rfl rfl ?_
                    refine x_iload_n (pc := 106) 1 dX9_ofCloth_106 rfl rfl ?_
                    obtain ⟨i_15, M_16, e_14, h⟩ := aw_br_e h
                    obtain ⟨c_17, h⟩ := aw_ck h
                    refine x_callV (pc := 107) (As := [.int p1]) (rest := []) (st' := [.ref (ad (39 + i_15))]) (w := (some (.ref (ad (39 + i_15))))) dX9_ofCloth_107 cw_X9_130 hd1 gc_0 rfl rfl rfl (Nat.le_of_ble_eq_true rfl) (tc_LB_gaugeOf (d - 1) hh_4 p1 _ _ _ e_14) rfl ?_
                    refine x_get (pc := 110) dX9_ofCloth_110 lk_X9_134 (gc_gauge (i := i_15) (Nat.lt_of_not_le c_17)) rfl rfl ?_
                    obtain ⟨rfl, rfl⟩ := aw_so h
                    exact x_iret (pc := 113) dX9_ofCloth_113
                  · have h := aw_neg h c_13
                    by_cases c_18 : p2 = 6
                    · have h := aw_pos h c_18
                      refine x_tin (pc := 35) (off := 79) 6 114 dX9_ofCloth_35 c_18 (by decide) (by decide) rfl (by decide) ?_
                      refine x_aload_n (pc := 114) 0 dX9_ofCloth_114 rfl rfl ?_
                      refine x_iload_n (pc := 115) 1 dX9_ofCloth_115 rfl rfl ?_
                      obtain ⟨i_20, M_21, e_19, h⟩ := aw_br_e h
                      obtain ⟨c_22, h⟩ := aw_ck h
                      refine x_callV (pc := 116) (As := [.int p1]) (rest := []) (st' := [.ref (ad (39 + i_20))]) (w := (some (.ref (ad (39 + i_20))))) dX9_ofCloth_116 cw_X9_130 hd1 gc_0 rfl rfl rfl (Nat.le_of_ble_eq_true rfl) (tc_LB_gaugeOf (d - 1) hh_4 p1 _ _ _ e_19) rfl ?_
                      refine x_get (pc := 119) dX9_ofCloth_119 lk_X9_137 (gc_gauge (i := i_20) (Nat.lt_of_not_le c_22)) rfl rfl ?_
                      obtain ⟨rfl, rfl⟩ := aw_so h
                      exact x_iret (pc := 122) dX9_ofCloth_122
                    · have h := aw_neg h c_18
                      by_cases c_23 : p2 = 7
                      · have h := aw_pos h c_23
                        refine x_tin (pc := 35) (off := 88) 7 123 dX9_ofCloth_35 c_23 (by decide) (by decide) rfl (by decide) ?_
                        refine x_aload_n (pc := 123) 0 dX9_ofCloth_123 rfl rfl ?_
                        refine x_iload_n (pc := 124) 1 dX9_ofCloth_124 rfl rfl ?_
                        obtain ⟨i_25, M_26, e_24, h⟩ := aw_br_e h
                        obtain ⟨c_27, h⟩ := aw_ck h
                        refine x_callV (pc := 125) (As := [.int p1]) (rest := []) (st' := [.ref (ad (39 + i_25))]) (w := (some (.ref (ad (39 + i_25))))) dX9_ofCloth_125 cw_X9_130 hd1 gc_0 rfl rfl rfl (Nat.le_of_ble_eq_true rfl) (tc_LB_gaugeOf (d - 1) hh_4 p1 _ _ _ e_24) rfl ?_
                        refine x_aload_n (pc := 128) 0 dX9_ofCloth_128 rfl rfl ?_
                        refine x_get (pc := 129) dX9_ofCloth_129 lk_X9_10 gc_0 rfl rfl ?_
                        refine x_get (pc := 132) dX9_ofCloth_132 lk_X9_87 gc_1 rfl rfl ?_
                        refine x_callV (pc := 135) (As := [.ref (ad 3)]) (rest := []) (st' := [.int r]) (w := (some (.int r))) dX9_ofCloth_135 cw_X9_140 hd1 (gc_gauge (i := i_25) (Nat.lt_of_not_le c_27)) rfl rfl rfl (Nat.le_of_ble_eq_true rfl) (tc_Ga_off (d - 1) hh_0 i_25 (Nat.lt_of_not_le c_27) 0 (by decide) _ _ _ h) rfl ?_
                        exact x_iret (pc := 138) dX9_ofCloth_138
                      · have h := aw_neg h c_23
                        refine x_tout (pc := 35) 139 dX9_ofCloth_35 (by have z0 := lv_neT c_8 (a := 0) rfl; have z1 := lv_neT c_9 (a := 1) rfl; have z2 := lv_neT c_10 (a := 2) rfl; have z3 := lv_neT c_11 (a := 3) rfl; have z4 := lv_neT c_12 (a := 4) rfl; have z5 := lv_neT c_13 (a := 5) rfl; have z6 := lv_neT c_18 (a := 6) rfl; have z7 := lv_neT c_23 (a := 7) rfl; omega) (by decide) ?_
                        refine x_aload_n (pc := 139) 0 dX9_ofCloth_139 rfl rfl ?_
                        refine x_iload_n (pc := 140) 1 dX9_ofCloth_140 rfl rfl ?_
                        obtain ⟨i_29, M_30, e_28, h⟩ := aw_br_e h
                        obtain ⟨c_31, h⟩ := aw_ck h
                        refine x_callV (pc := 141) (As := [.int p1]) (rest := []) (st' := [.ref (ad (39 + i_29))]) (w := (some (.ref (ad (39 + i_29))))) dX9_ofCloth_141 cw_X9_130 hd1 gc_0 rfl rfl rfl (Nat.le_of_ble_eq_true rfl) (tc_LB_gaugeOf (d - 1) hh_4 p1 _ _ _ e_28) rfl ?_
                        refine x_aload_n (pc := 144) 0 dX9_ofCloth_144 rfl rfl ?_
                        refine x_get (pc := 145) dX9_ofCloth_145 lk_X9_10 gc_0 rfl rfl ?_
                        refine x_get (pc := 148) dX9_ofCloth_148 lk_X9_87 gc_1 rfl rfl ?_
                        refine x_callV (pc := 151) (As := [.ref (ad 3)]) (rest := []) (st' := [.int r]) (w := (some (.int r))) dX9_ofCloth_151 cw_X9_144 hd1 (gc_gauge (i := i_29) (Nat.lt_of_not_le c_31)) rfl rfl rfl (Nat.le_of_ble_eq_true rfl) (tc_Ga_shows (d - 1) hh_4 i_29 (Nat.lt_of_not_le c_31) 0 (by decide) _ _ _ h) rfl ?_
                        exact x_iret (pc := 154) dX9_ofCloth_154
      · have h := aw_neg h c_6
        refine x_aload_n (pc := 18) 0 dX9_ofCloth_18 rfl rfl ?_
        refine x_iconst (pc := 19) (w := 1) dX9_ofCloth_19 ic_1 ?_
        refine x_callV (pc := 20) (As := [.int 1]) (rest := []) (st' := [.int r]) (w := (some (.int r))) dX9_ofCloth_20 cw_X9_84 hd1 gc_0 rfl rfl rfl (Nat.le_of_ble_eq_true rfl) (tc_LB_error (d - 1) hh_0 1 _ _ _ h) rfl ?_
        exact x_iret (pc := 23) dX9_ofCloth_23
def fc_LB_change_J34 (p1 : Int32) (p2 : Int32) (p3 : Int32) (p100 : Int32) (p101 : Int32) (M : aw_M) : Option (Int32 × aw_M) :=
    if p101 ≤ p100 then (
      if aw_in p1 6 then none else (
      if p2 = 0 then (
        some ((M (14 + p1.toNatClampNeg) 2), (aw_u M (14 + p1.toNatClampNeg) 2 p3))
      ) else (
        if p2 = 1 then (
          some ((M (14 + p1.toNatClampNeg) 3), (aw_u M (14 + p1.toNatClampNeg) 3 p3))
        ) else (
          some ((M (14 + p1.toNatClampNeg) 4), (aw_u M (14 + p1.toNatClampNeg) 4 p3))
        )
      )
      )
    ) else (
      fc_LB_error 1 M
    )
set_option maxRecDepth 20000 in
theorem tc_LB_change_J34 {l : Launch} {D : va_G} {cy : Nat → ClassId} {ad : Nat → Nat} {A : Nat → Prop} (d : Nat) (hd : 1 ≤ d) (p1 : Int32) (p2 : Int32) (p3 : Int32) (p100 : Int32) (p101 : Int32) (M : aw_M) (r : Int32) (M1 : aw_M) (h : fc_LB_change_J34 p1 p2 p3 p100 p101 M = some (r, M1)) : AW l D cy ad A gc_G RX9 cX9_change 6 (some .int) d (some (.int r)) M1 34 [(0, .ref (ad 0)), (1, .int p1), (2, .int p2), (3, .int p3)] [.int p100, .int p101] M := by
  have hd1 : (d - 1) + 1 ≤ d := by omega
  have hm1 : 1 ≤ d := by omega
  have hh_0 : 0 ≤ d - 1 := by omega
  unfold fc_LB_change_J34 at h
  refine x_icmp_le (pc := 34) 43 dX9_change_34 (by decide) (fun c_9 => ?_) (fun c_9 => ?_)
  · have h := aw_pos h c_9
    refine x_aload_n (pc := 43) 0 dX9_change_43 rfl rfl ?_
    refine x_get (pc := 44) dX9_change_44 lk_X9_10 gc_0 rfl rfl ?_
    refine x_get (pc := 47) dX9_change_47 lk_X9_36 gc_1 rfl rfl ?_
    refine x_iload_n (pc := 50) 1 dX9_change_50 rfl rfl ?_
    obtain ⟨c_10, h⟩ := aw_ck h
    refine x_aald (pc := 51) dX9_change_51 gc_6 (fun _ => rfl) c_10 (ga_6 (aw_lt c_10)) ?_
    refine x_astore (pc := 52) 4 [(4, .ref (ad (14 + p1.toNatClampNeg))), (0, .ref (ad 0)), (1, .int p1), (2, .int p2), (3, .int p3)] dX9_change_52 (by decide) rfl ?_
    refine x_iload_n (pc := 54) 2 dX9_change_54 rfl rfl ?_
    refine x_if_ne (pc := 55) 74 dX9_change_55 (by decide) (fun c_11 => ?_) (fun c_11 => ?_)
    · have h := aw_neg h c_11
      refine x_iload_n (pc := 74) 2 dX9_change_74 rfl rfl ?_
      refine x_iconst (pc := 75) (w := 1) dX9_change_75 ic_1 ?_
      refine x_icmp_ne (pc := 76) 95 dX9_change_76 (by decide) (fun c_12 => ?_) (fun c_12 => ?_)
      · have h := aw_neg h c_12
        refine x_aload (pc := 95) dX9_change_95 rfl ?_
        refine x_get (pc := 97) dX9_change_97 lk_X9_127 (gc_cloth (i := p1.toNatClampNeg) (Nat.lt_of_lt_of_le (aw_lt c_10) (by decide))) rfl rfl ?_
        refine x_istore (pc := 100) 5 [(5, .int (M (14 + p1.toNatClampNeg) 4)), (4, .ref (ad (14 + p1.toNatClampNeg))), (0, .ref (ad 0)), (1, .int p1), (2, .int p2), (3, .int p3)] dX9_change_100 (by decide) rfl ?_
        refine x_aload (pc := 102) dX9_change_102 rfl ?_
        refine x_iload_n (pc := 104) 3 dX9_change_104 rfl rfl ?_
        refine x_put (pc := 105) (x := p3) dX9_change_105 lk_X9_127 lp_X1_4 (gc_cloth (i := p1.toNatClampNeg) (Nat.lt_of_lt_of_le (aw_lt c_10) (by decide))) rfl rfl rfl rfl ?_
        refine x_iload (pc := 108) dX9_change_108 rfl ?_
        obtain ⟨rfl, rfl⟩ := aw_so h
        exact x_iret (pc := 110) dX9_change_110
      · have h := aw_pos h c_12
        refine x_aload (pc := 79) dX9_change_79 rfl ?_
        refine x_get (pc := 81) dX9_change_81 lk_X9_124 (gc_cloth (i := p1.toNatClampNeg) (Nat.lt_of_lt_of_le (aw_lt c_10) (by decide))) rfl rfl ?_
        refine x_istore (pc := 84) 5 [(5, .int (M (14 + p1.toNatClampNeg) 3)), (4, .ref (ad (14 + p1.toNatClampNeg))), (0, .ref (ad 0)), (1, .int p1), (2, .int p2), (3, .int p3)] dX9_change_84 (by decide) rfl ?_
        refine x_aload (pc := 86) dX9_change_86 rfl ?_
        refine x_iload_n (pc := 88) 3 dX9_change_88 rfl rfl ?_
        refine x_put (pc := 89) (x := p3) dX9_change_89 lk_X9_124 lp_X1_3 (gc_cloth (i := p1.toNatClampNeg) (Nat.lt_of_lt_of_le (aw_lt c_10) (by decide))) rfl rfl rfl rfl ?_
        refine x_goto (pc := 92) 108 dX9_change_92 (by decide) ?_
        refine x_iload (pc := 108) dX9_change_108 rfl ?_
        obtain ⟨rfl, rfl⟩ := aw_so h
        exact x_iret (pc := 110) dX9_change_110
    · have h := aw_pos h c_11
      refine x_aload (pc := 58) dX9_change_58 rfl ?_
      refine x_get (pc := 60) dX9_change_60 lk_X9_121 (gc_cloth (i := p1.toNatClampNeg) (Nat.lt_of_lt_of_le (aw_lt c_10) (by decide))) rfl rfl ?_
      refine x_istore (pc := 63) 5 [(5, .int (M (14 + p1.toNatClampNeg) 2)), (4, .ref (ad (14 + p1.toNatClampNeg))), (0, .ref (ad 0)), (1, .int p1), (2, .int p2), (3, .int p3)] dX9_change_63 (by decide) rfl ?_
      refine x_aload (pc := 65) dX9_change_65 rfl ?_
      refine x_iload_n (pc := 67) 3 dX9_change_67 rfl rfl ?_
      refine x_put (pc := 68) (x := p3) dX9_change_68 lk_X9_121 lp_X1_2 (gc_cloth (i := p1.toNatClampNeg) (Nat.lt_of_lt_of_le (aw_lt c_10) (by decide))) rfl rfl rfl rfl ?_
      refine x_goto (pc := 71) 108 dX9_change_71 (by decide) ?_
      refine x_iload (pc := 108) dX9_change_108 rfl ?_
      obtain ⟨rfl, rfl⟩ := aw_so h
      exact x_iret (pc := 110) dX9_change_110
  · have h := aw_neg h c_9
    refine x_aload_n (pc := 37) 0 dX9_change_37 rfl rfl ?_
    refine x_iconst (pc := 38) (w := 1) dX9_change_38 ic_1 ?_
    refine x_callV (pc := 39) (As := [.int 1]) (rest := []) (st' := [.int r]) (w := (some (.int r))) dX9_change_39 cw_X9_84 hd1 gc_0 rfl rfl rfl (Nat.le_of_ble_eq_true rfl) (tc_LB_error (d - 1) hh_0 1 _ _ _ h) rfl ?_
    exact x_iret (pc := 42) dX9_change_42
def fc_LB_change (p1 : Int32) (p2 : Int32) (p3 : Int32) (M : aw_M) : Option (Int32 × aw_M) :=
  aw_bi (fc_LB_hasCloth p1 M) fun r_2 M_3 => (
  if r_2 = 0 then (
    fc_LB_error 1 M_3
  ) else (
    if p2 < 0 then (
      fc_LB_error 1 M_3
    ) else (
      if (2 : Int32) < p2 then (
        fc_LB_error 1 M_3
      ) else (
        if p3 < 0 then (
          fc_LB_error 1 M_3
        ) else (
          if p2 = 0 then (
            fc_LB_change_J34  p1 p2 p3 9 p3 M_3
          ) else (
            fc_LB_change_J34  p1 p2 p3 9999 p3 M_3
          )
        )
      )
    )
  )
  )
set_option maxRecDepth 20000 in
theorem tc_LB_change {l : Launch} {D : va_G} {cy : Nat → ClassId} {ad : Nat → Nat} {A : Nat → Prop} (d : Nat) (hd : 1 ≤ d) (p1 : Int32) (p2 : Int32) (p3 : Int32) (M : aw_M) (r : Int32) (M1 : aw_M) (h : fc_LB_change p1 p2 p3 M = some (r, M1)) : AX l D cy ad A gc_G yX9_change cX9_change 6 (some .int) d [.ref (ad 0), .int p1, .int p2, .int p3] M (some (.int r)) M1 := by
  have hd1 : (d - 1) + 1 ≤ d := by omega
  have hm1 : 1 ≤ d := by omega
  have hh_0 : 0 ≤ d - 1 := by omega
  refine AX.of (own := RX9) (by decide +kernel) rfl (Nat.le_of_ble_eq_true rfl) ?_
  unfold fc_LB_change at h
  show AW l D cy ad A gc_G RX9 cX9_change 6 (some .int) d (some (.int r)) M1 0 [(0, .ref (ad 0)), (1, .int p1), (2, .int p2), (3, .int p3)] [] M
  refine x_aload_n (pc := 0) 0 dX9_change_0 rfl rfl ?_
  refine x_iload_n (pc := 1) 1 dX9_change_1 rfl rfl ?_
  obtain ⟨r_2, M_3, e_1, h⟩ := aw_bi_e h
  refine x_callV (pc := 2) (As := [.int p1]) (rest := []) (st' := [.int r_2]) (w := (some (.int r_2))) dX9_change_2 cw_X9_112 hd1 gc_0 rfl rfl rfl (Nat.le_of_ble_eq_true rfl) (tc_LB_hasCloth (d - 1) hh_0 p1 _ _ _ e_1) rfl ?_
  refine x_if_eq (pc := 5) 37 dX9_change_5 (by decide) (fun c_4 => ?_) (fun c_4 => ?_)
  · have h := aw_pos h c_4
    refine x_aload_n (pc := 37) 0 dX9_change_37 rfl rfl ?_
    refine x_iconst (pc := 38) (w := 1) dX9_change_38 ic_1 ?_
    refine x_callV (pc := 39) (As := [.int 1]) (rest := []) (st' := [.int r]) (w := (some (.int r))) dX9_change_39 cw_X9_84 hd1 gc_0 rfl rfl rfl (Nat.le_of_ble_eq_true rfl) (tc_LB_error (d - 1) hh_0 1 _ _ _ h) rfl ?_
    exact x_iret (pc := 42) dX9_change_42
  · have h := aw_neg h c_4
    refine x_iload_n (pc := 8) 2 dX9_change_8 rfl rfl ?_
    refine x_if_lt (pc := 9) 37 dX9_change_9 (by decide) (fun c_5 => ?_) (fun c_5 => ?_)
    · have h := aw_pos h c_5
      refine x_aload_n (pc := 37) 0 dX9_change_37 rfl rfl ?_
      refine x_iconst (pc := 38) (w := 1) dX9_change_38 ic_1 ?_
      refine x_callV (pc := 39) (As := [.int 1]) (rest := []) (st' := [.int r]) (w := (some (.int r))) dX9_change_39 cw_X9_84 hd1 gc_0 rfl rfl rfl (Nat.le_of_ble_eq_true rfl) (tc_LB_error (d - 1) hh_0 1 _ _ _ h) rfl ?_
      exact x_iret (pc := 42) dX9_change_42
    · have h := aw_neg h c_5
      refine x_iload_n (pc := 12) 2 dX9_change_12 rfl rfl ?_
      refine x_iconst (pc := 13) (w := 2) dX9_change_13 ic_2 ?_
      refine x_icmp_gt (pc := 14) 37 dX9_change_14 (by decide) (fun c_6 => ?_) (fun c_6 => ?_)
      · have h := aw_pos h c_6
        refine x_aload_n (pc := 37) 0 dX9_change_37 rfl rfl ?_
        refine x_iconst (pc := 38) (w := 1) dX9_change_38 ic_1 ?_
        refine x_callV (pc := 39) (As := [.int 1]) (rest := []) (st' := [.int r]) (w := (some (.int r))) dX9_change_39 cw_X9_84 hd1 gc_0 rfl rfl rfl (Nat.le_of_ble_eq_true rfl) (tc_LB_error (d - 1) hh_0 1 _ _ _ h) rfl ?_
        exact x_iret (pc := 42) dX9_change_42
      · have h := aw_neg h c_6
        refine x_iload_n (pc := 17) 3 dX9_change_17 rfl rfl ?_
        refine x_if_lt (pc := 18) 37 dX9_change_18 (by decide) (fun c_7 => ?_) (fun c_7 => ?_)
        · have h := aw_pos h c_7
          refine x_aload_n (pc := 37) 0 dX9_change_37 rfl rfl ?_
          refine x_iconst (pc := 38) (w := 1) dX9_change_38 ic_1 ?_
          refine x_callV (pc := 39) (As := [.int 1]) (rest := []) (st' := [.int r]) (w := (some (.int r))) dX9_change_39 cw_X9_84 hd1 gc_0 rfl rfl rfl (Nat.le_of_ble_eq_true rfl) (tc_LB_error (d - 1) hh_0 1 _ _ _ h) rfl ?_
          exact x_iret (pc := 42) dX9_change_42
        · have h := aw_neg h c_7
          refine x_iload_n (pc := 21) 3 dX9_change_21 rfl rfl ?_
          refine x_iload_n (pc := 22) 2 dX9_change_22 rfl rfl ?_
          refine x_if_ne (pc := 23) 31 dX9_change_23 (by decide) (fun c_8 => ?_) (fun c_8 => ?_)
          · have h := aw_neg h c_8
            refine x_sipush (pc := 31) (w := 9999) dX9_change_31 si_9999 ?_
            refine x_lv [0, 1, 2, 3] [(0, .ref (ad 0)), (1, .int p1), (2, .int p2), (3, .int p3)] rfl ?_
            exact tc_LB_change_J34 d hd  p1 p2 p3 9999 p3 _ _ _ h
          · have h := aw_pos h c_8
            refine x_bipush (pc := 26) (w := 9) dX9_change_26 bi_9 ?_
            refine x_goto (pc := 28) 34 dX9_change_28 (by decide) ?_
            refine x_lv [0, 1, 2, 3] [(0, .ref (ad 0)), (1, .int p1), (2, .int p2), (3, .int p3)] rfl ?_
            exact tc_LB_change_J34 d hd  p1 p2 p3 9 p3 _ _ _ h
def fc_LB_become (p1 : Int32) (p2 : Int32) (M : aw_M) : Option (Int32 × aw_M) :=
  aw_bi (fc_LB_hasCloth p1 M) fun r_2 M_3 => (
  if r_2 = 0 then (
    fc_LB_error 1 M_3
  ) else (
    aw_bi (fc_LB_isKindAndM p2 M_3) fun r_6 M_7 => (
    if r_6 = 0 then (
      fc_LB_error 1 M_7
    ) else (
      if aw_in p1 6 then none else (
      if aw_in p1 6 then none else (
      aw_bv (fc_Cl_makeOf p1.toNatClampNeg p2 M_7) fun M_12 => (
      some ((M_7 (14 + p1.toNatClampNeg) 0), M_12)
      )
      )
      )
    )
    )
  )
  )
set_option maxRecDepth 20000 in
theorem tc_LB_become {l : Launch} {D : va_G} {cy : Nat → ClassId} {ad : Nat → Nat} {A : Nat → Prop} (d : Nat) (hd : 1 ≤ d) (p1 : Int32) (p2 : Int32) (M : aw_M) (r : Int32) (M1 : aw_M) (h : fc_LB_become p1 p2 M = some (r, M1)) : AX l D cy ad A gc_G yX9_become cX9_become 4 (some .int) d [.ref (ad 0), .int p1, .int p2] M (some (.int r)) M1 := by
  have hd1 : (d - 1) + 1 ≤ d := by omega
  have hm1 : 1 ≤ d := by omega
  have hh_0 : 0 ≤ d - 1 := by omega
  refine AX.of (own := RX9) (by decide +kernel) rfl (Nat.le_of_ble_eq_true rfl) ?_
  unfold fc_LB_become at h
  show AW l D cy ad A gc_G RX9 cX9_become 4 (some .int) d (some (.int r)) M1 0 [(0, .ref (ad 0)), (1, .int p1), (2, .int p2)] [] M
  refine x_aload_n (pc := 0) 0 dX9_become_0 rfl rfl ?_
  refine x_iload_n (pc := 1) 1 dX9_become_1 rfl rfl ?_
  obtain ⟨r_2, M_3, e_1, h⟩ := aw_bi_e h
  refine x_callV (pc := 2) (As := [.int p1]) (rest := []) (st' := [.int r_2]) (w := (some (.int r_2))) dX9_become_2 cw_X9_112 hd1 gc_0 rfl rfl rfl (Nat.le_of_ble_eq_true rfl) (tc_LB_hasCloth (d - 1) hh_0 p1 _ _ _ e_1) rfl ?_
  refine x_if_eq (pc := 5) 15 dX9_become_5 (by decide) (fun c_4 => ?_) (fun c_4 => ?_)
  · have h := aw_pos h c_4
    refine x_aload_n (pc := 15) 0 dX9_become_15 rfl rfl ?_
    refine x_iconst (pc := 16) (w := 1) dX9_become_16 ic_1 ?_
    refine x_callV (pc := 17) (As := [.int 1]) (rest := []) (st' := [.int r]) (w := (some (.int r))) dX9_become_17 cw_X9_84 hd1 gc_0 rfl rfl rfl (Nat.le_of_ble_eq_true rfl) (tc_LB_error (d - 1) hh_0 1 _ _ _ h) rfl ?_
    exact x_iret (pc := 20) dX9_become_20
  · have h := aw_neg h c_4
    refine x_iload_n (pc := 8) 2 dX9_become_8 rfl rfl ?_
    obtain ⟨r_6, M_7, e_5, h⟩ := aw_bi_e h
    refine x_callS (pc := 9) (As := [.int p2]) (rest := []) (st' := [.int r_6]) (w := (some (.int r_6))) dX9_become_9 cw_X9_97 hd1 rfl rfl (Nat.le_of_ble_eq_true rfl) (tc_LB_isKindAndM (d - 1) hh_0 p2 _ _ _ e_5) rfl ?_
    refine x_if_ne (pc := 12) 21 dX9_become_12 (by decide) (fun c_8 => ?_) (fun c_8 => ?_)
    · have h := aw_neg h c_8
      refine x_aload_n (pc := 21) 0 dX9_become_21 rfl rfl ?_
      refine x_get (pc := 22) dX9_become_22 lk_X9_10 gc_0 rfl rfl ?_
      refine x_get (pc := 25) dX9_become_25 lk_X9_36 gc_1 rfl rfl ?_
      refine x_iload_n (pc := 28) 1 dX9_become_28 rfl rfl ?_
      obtain ⟨c_9, h⟩ := aw_ck h
      refine x_aald (pc := 29) dX9_become_29 gc_6 (fun _ => rfl) c_9 (ga_6 (aw_lt c_9)) ?_
      refine x_get (pc := 30) dX9_become_30 lk_X9_115 (gc_cloth (i := p1.toNatClampNeg) (Nat.lt_of_lt_of_le (aw_lt c_9) (by decide))) rfl rfl ?_
      refine x_istore_n (pc := 33) 3 [(3, .int (M_7 (14 + p1.toNatClampNeg) 0)), (0, .ref (ad 0)), (1, .int p1), (2, .int p2)] dX9_become_33 rfl (by decide) rfl ?_
      refine x_aload_n (pc := 34) 0 dX9_become_34 rfl rfl ?_
      refine x_get (pc := 35) dX9_become_35 lk_X9_10 gc_0 rfl rfl ?_
      refine x_get (pc := 38) dX9_become_38 lk_X9_36 gc_1 rfl rfl ?_
      refine x_iload_n (pc := 41) 1 dX9_become_41 rfl rfl ?_
      obtain ⟨c_10, h⟩ := aw_ck h
      refine x_aald (pc := 42) dX9_become_42 gc_6 (fun _ => rfl) c_10 (ga_6 (aw_lt c_10)) ?_
      refine x_iload_n (pc := 43) 2 dX9_become_43 rfl rfl ?_
      obtain ⟨M_12, e_11, h⟩ := aw_bv_e h
      refine x_callV (pc := 44) (As := [.int p2]) (rest := []) (st' := []) (w := none) dX9_become_44 cw_X9_147 hd1 (gc_cloth (i := p1.toNatClampNeg) (Nat.lt_of_lt_of_le (aw_lt c_10) (by decide))) rfl rfl rfl (Nat.le_of_ble_eq_true rfl) (tc_Cl_makeOf (d - 1) hh_0 p1.toNatClampNeg (Nat.lt_of_lt_of_le (aw_lt c_10) (by decide)) p2 _  _ e_11) rfl ?_
      refine x_iload_n (pc := 47) 3 dX9_become_47 rfl rfl ?_
      obtain ⟨rfl, rfl⟩ := aw_so h
      exact x_iret (pc := 48) dX9_become_48
    · have h := aw_pos h c_8
      refine x_aload_n (pc := 15) 0 dX9_become_15 rfl rfl ?_
      refine x_iconst (pc := 16) (w := 1) dX9_become_16 ic_1 ?_
      refine x_callV (pc := 17) (As := [.int 1]) (rest := []) (st' := [.int r]) (w := (some (.int r))) dX9_become_17 cw_X9_84 hd1 gc_0 rfl rfl rfl (Nat.le_of_ble_eq_true rfl) (tc_LB_error (d - 1) hh_0 1 _ _ _ h) rfl ?_
      exact x_iret (pc := 20) dX9_become_20
def fc_LB_as (p1 : Int32) (p2 : Int32) (M : aw_M) : Option (Int32 × aw_M) :=
  aw_bi (fc_LB_hasCloth p1 M) fun r_2 M_3 => (
  if r_2 = 0 then (
    fc_LB_error 1 M_3
  ) else (
    if p2 < 0 then (
      fc_LB_error 1 M_3
    ) else (
      if p2 < 7 then (
        if aw_in p1 6 then none else (
        aw_bi (fc_Cl_isOf p1.toNatClampNeg p2 M_3) fun r_9 M_10 => (
        if r_9 = 0 then (
          fc_LB_error 5 M_10
        ) else (
          if aw_in p1 6 then none else (
          some ((M_10 (14 + p1.toNatClampNeg) 1), M_10)
          )
        )
        )
        )
      ) else (
        fc_LB_error 1 M_3
      )
    )
  )
  )
set_option maxRecDepth 20000 in
theorem tc_LB_as {l : Launch} {D : va_G} {cy : Nat → ClassId} {ad : Nat → Nat} {A : Nat → Prop} (d : Nat) (hd : 2 ≤ d) (p1 : Int32) (p2 : Int32) (M : aw_M) (r : Int32) (M1 : aw_M) (h : fc_LB_as p1 p2 M = some (r, M1)) : AX l D cy ad A gc_G yX9_as cX9_as 3 (some .int) d [.ref (ad 0), .int p1, .int p2] M (some (.int r)) M1 := by
  have hd1 : (d - 1) + 1 ≤ d := by omega
  have hm1 : 1 ≤ d := by omega
  have hh_0 : 0 ≤ d - 1 := by omega
  have hh_1 : 1 ≤ d - 1 := by omega
  refine AX.of (own := RX9) (by decide +kernel) rfl (Nat.le_of_ble_eq_true rfl) ?_
  unfold fc_LB_as at h
  show AW l D cy ad A gc_G RX9 cX9_as 3 (some .int) d (some (.int r)) M1 0 [(0, .ref (ad 0)), (1, .int p1), (2, .int p2)] [] M
  refine x_aload_n (pc := 0) 0 dX9_as_0 rfl rfl ?_
  refine x_iload_n (pc := 1) 1 dX9_as_1 rfl rfl ?_
  obtain ⟨r_2, M_3, e_1, h⟩ := aw_bi_e h
  refine x_callV (pc := 2) (As := [.int p1]) (rest := []) (st' := [.int r_2]) (w := (some (.int r_2))) dX9_as_2 cw_X9_112 hd1 gc_0 rfl rfl rfl (Nat.le_of_ble_eq_true rfl) (tc_LB_hasCloth (d - 1) hh_0 p1 _ _ _ e_1) rfl ?_
  refine x_if_eq (pc := 5) 18 dX9_as_5 (by decide) (fun c_4 => ?_) (fun c_4 => ?_)
  · have h := aw_pos h c_4
    refine x_aload_n (pc := 18) 0 dX9_as_18 rfl rfl ?_
    refine x_iconst (pc := 19) (w := 1) dX9_as_19 ic_1 ?_
    refine x_callV (pc := 20) (As := [.int 1]) (rest := []) (st' := [.int r]) (w := (some (.int r))) dX9_as_20 cw_X9_84 hd1 gc_0 rfl rfl rfl (Nat.le_of_ble_eq_true rfl) (tc_LB_error (d - 1) hh_0 1 _ _ _ h) rfl ?_
    exact x_iret (pc := 23) dX9_as_23
  · have h := aw_neg h c_4
    refine x_iload_n (pc := 8) 2 dX9_as_8 rfl rfl ?_
    refine x_if_lt (pc := 9) 18 dX9_as_9 (by decide) (fun c_5 => ?_) (fun c_5 => ?_)
    · have h := aw_pos h c_5
      refine x_aload_n (pc := 18) 0 dX9_as_18 rfl rfl ?_
      refine x_iconst (pc := 19) (w := 1) dX9_as_19 ic_1 ?_
      refine x_callV (pc := 20) (As := [.int 1]) (rest := []) (st' := [.int r]) (w := (some (.int r))) dX9_as_20 cw_X9_84 hd1 gc_0 rfl rfl rfl (Nat.le_of_ble_eq_true rfl) (tc_LB_error (d - 1) hh_0 1 _ _ _ h) rfl ?_
      exact x_iret (pc := 23) dX9_as_23
    · have h := aw_neg h c_5
      refine x_iload_n (pc := 12) 2 dX9_as_12 rfl rfl ?_
      refine x_bipush (pc := 13) (w := 7) dX9_as_13 bi_7 ?_
      refine x_icmp_lt (pc := 15) 24 dX9_as_15 (by decide) (fun c_6 => ?_) (fun c_6 => ?_)
      · have h := aw_pos h c_6
        refine x_aload_n (pc := 24) 0 dX9_as_24 rfl rfl ?_
        refine x_get (pc := 25) dX9_as_25 lk_X9_10 gc_0 rfl rfl ?_
        refine x_get (pc := 28) dX9_as_28 lk_X9_36 gc_1 rfl rfl ?_
        refine x_iload_n (pc := 31) 1 dX9_as_31 rfl rfl ?_
        obtain ⟨c_7, h⟩ := aw_ck h
        refine x_aald (pc := 32) dX9_as_32 gc_6 (fun _ => rfl) c_7 (ga_6 (aw_lt c_7)) ?_
        refine x_iload_n (pc := 33) 2 dX9_as_33 rfl rfl ?_
        obtain ⟨r_9, M_10, e_8, h⟩ := aw_bi_e h
        refine x_callV (pc := 34) (As := [.int p2]) (rest := []) (st' := [.int r_9]) (w := (some (.int r_9))) dX9_as_34 cw_X9_151 hd1 (gc_cloth (i := p1.toNatClampNeg) (Nat.lt_of_lt_of_le (aw_lt c_7) (by decide))) rfl rfl rfl (Nat.le_of_ble_eq_true rfl) (tc_Cl_isOf (d - 1) hh_1 p1.toNatClampNeg (Nat.lt_of_lt_of_le (aw_lt c_7) (by decide)) p2 _ _ _ e_8) rfl ?_
        refine x_if_ne (pc := 37) 46 dX9_as_37 (by decide) (fun c_11 => ?_) (fun c_11 => ?_)
        · have h := aw_neg h c_11
          refine x_aload_n (pc := 46) 0 dX9_as_46 rfl rfl ?_
          refine x_get (pc := 47) dX9_as_47 lk_X9_10 gc_0 rfl rfl ?_
          refine x_get (pc := 50) dX9_as_50 lk_X9_36 gc_1 rfl rfl ?_
          refine x_iload_n (pc := 53) 1 dX9_as_53 rfl rfl ?_
          obtain ⟨c_12, h⟩ := aw_ck h
          refine x_aald (pc := 54) dX9_as_54 gc_6 (fun _ => rfl) c_12 (ga_6 (aw_lt c_12)) ?_
          refine x_get (pc := 55) dX9_as_55 lk_X9_118 (gc_cloth (i := p1.toNatClampNeg) (Nat.lt_of_lt_of_le (aw_lt c_12) (by decide))) rfl rfl ?_
          obtain ⟨rfl, rfl⟩ := aw_so h
          exact x_iret (pc := 58) dX9_as_58
        · have h := aw_pos h c_11
          refine x_aload_n (pc := 40) 0 dX9_as_40 rfl rfl ?_
          refine x_iconst (pc := 41) (w := 5) dX9_as_41 ic_5 ?_
          refine x_callV (pc := 42) (As := [.int 5]) (rest := []) (st' := [.int r]) (w := (some (.int r))) dX9_as_42 cw_X9_84 hd1 gc_0 rfl rfl rfl (Nat.le_of_ble_eq_true rfl) (tc_LB_error (d - 1) hh_0 5 _ _ _ h) rfl ?_
          exact x_iret (pc := 45) dX9_as_45
      · have h := aw_neg h c_6
        refine x_aload_n (pc := 18) 0 dX9_as_18 rfl rfl ?_
        refine x_iconst (pc := 19) (w := 1) dX9_as_19 ic_1 ?_
        refine x_callV (pc := 20) (As := [.int 1]) (rest := []) (st' := [.int r]) (w := (some (.int r))) dX9_as_20 cw_X9_84 hd1 gc_0 rfl rfl rfl (Nat.le_of_ble_eq_true rfl) (tc_LB_error (d - 1) hh_0 1 _ _ _ h) rfl ?_
        exact x_iret (pc := 23) dX9_as_23
def fc_LB_feed_L40 : Nat → Int64 → Int32 → Int32 → aw_M → Option (Int32 × aw_M)
  | 0, _, _, _, _ => none
  | n + 1, p1, p3, p4, M =>
    if p3 ≤ p4 then (
      some (((aw_u M 1 6 ((M 1 6) + p3)) 1 6), (aw_u M 1 6 ((M 1 6) + p3)))
    ) else (
      if aw_in ((M 1 6) + p4) 50 then none else (
      fc_LB_feed_L40 n p1 p3 (p4 + 1) (aw_u M 10 ((M 1 6) + p4).toNatClampNeg (((aw_lush p1 (8 * p4)).toInt32).toInt8.toInt32).toInt8.toInt32)
      )
    )
theorem fc_LB_feed_L40_s (n : Nat) (p1 : Int64) (p3 : Int32) (p4 : Int32) (M : aw_M) : fc_LB_feed_L40 (n + 1) p1 p3 p4 M = (
    if p3 ≤ p4 then (
      some (((aw_u M 1 6 ((M 1 6) + p3)) 1 6), (aw_u M 1 6 ((M 1 6) + p3)))
    ) else (
      if aw_in ((M 1 6) + p4) 50 then none else (
      fc_LB_feed_L40 n p1 p3 (p4 + 1) (aw_u M 10 ((M 1 6) + p4).toNatClampNeg (((aw_lush p1 (8 * p4)).toInt32).toInt8.toInt32).toInt8.toInt32)
      )
    )
    ) := rfl
set_option maxRecDepth 20000 in
theorem tc_LB_feed_L40 {l : Launch} {D : va_G} {cy : Nat → ClassId} {ad : Nat → Nat} {A : Nat → Prop} (d : Nat) (hd : 1 ≤ d) : ∀ (n : Nat) (p1 : Int64) (p3 : Int32) (p4 : Int32) (M : aw_M) (r : Int32) (M1 : aw_M), fc_LB_feed_L40 n p1 p3 p4 M = some (r, M1) → AW l D cy ad A gc_G RX9 cX9_feed 5 (some .int) d (some (.int r)) M1 40 [(0, .ref (ad 0)), (1, .long p1), (3, .int p3), (4, .int p4)] [] M := by
  have hd1 : (d - 1) + 1 ≤ d := by omega
  have hm1 : 1 ≤ d := by omega
  have hh_0 : 0 ≤ d - 1 := by omega
  intro n
  induction n with
  | zero => intro p1 p3 p4 M r M1 h; cases h
  | succ n ih =>
    intro p1 p3 p4 M r M1 h
    rw [fc_LB_feed_L40_s] at h
    refine x_iload (pc := 40) dX9_feed_40 rfl ?_
    refine x_iload_n (pc := 42) 3 dX9_feed_42 rfl rfl ?_
    refine x_icmp_ge (pc := 43) 79 dX9_feed_43 (by decide) (fun c_4 => ?_) (fun c_4 => ?_)
    · have h := aw_pos h c_4
      refine x_aload_n (pc := 79) 0 dX9_feed_79 rfl rfl ?_
      refine x_get (pc := 80) dX9_feed_80 lk_X9_10 gc_0 rfl rfl ?_
      refine x_dup (pc := 83) dX9_feed_83 rfl ?_
      refine x_get (pc := 84) dX9_feed_84 lk_X9_154 gc_1 rfl rfl ?_
      refine x_iload_n (pc := 87) 3 dX9_feed_87 rfl rfl ?_
      refine x_iadd (pc := 88) dX9_feed_88 ?_
      refine x_put (pc := 89) (x := ((M 1 6) + p3)) dX9_feed_89 lk_X9_154 lp_X7_6 gc_1 rfl rfl rfl rfl ?_
      refine x_aload_n (pc := 92) 0 dX9_feed_92 rfl rfl ?_
      refine x_get (pc := 93) dX9_feed_93 lk_X9_10 gc_0 rfl rfl ?_
      refine x_get (pc := 96) dX9_feed_96 lk_X9_154 gc_1 rfl rfl ?_
      obtain ⟨rfl, rfl⟩ := aw_so h
      exact x_iret (pc := 99) dX9_feed_99
    · have h := aw_neg h c_4
      refine x_aload_n (pc := 46) 0 dX9_feed_46 rfl rfl ?_
      refine x_get (pc := 47) dX9_feed_47 lk_X9_10 gc_0 rfl rfl ?_
      refine x_get (pc := 50) dX9_feed_50 lk_X9_157 gc_1 rfl rfl ?_
      refine x_aload_n (pc := 53) 0 dX9_feed_53 rfl rfl ?_
      refine x_get (pc := 54) dX9_feed_54 lk_X9_10 gc_0 rfl rfl ?_
      refine x_get (pc := 57) dX9_feed_57 lk_X9_154 gc_1 rfl rfl ?_
      refine x_iload (pc := 60) dX9_feed_60 rfl ?_
      refine x_iadd (pc := 62) dX9_feed_62 ?_
      refine x_lload_n (pc := 63) 1 dX9_feed_63 rfl rfl ?_
      refine x_bipush (pc := 64) (w := 8) dX9_feed_64 bi_8 ?_
      refine x_iload (pc := 66) dX9_feed_66 rfl ?_
      refine x_imul (pc := 68) dX9_feed_68 ?_
      refine x_lushr (pc := 69) dX9_feed_69 ?_
      refine x_l2i (pc := 70) dX9_feed_70 ?_
      refine x_i2b (pc := 71) dX9_feed_71 ?_
      obtain ⟨c_5, h⟩ := aw_ck h
      refine x_bast (pc := 72) dX9_feed_72 gc_10 c_5 ?_
      refine x_iinc (pc := 73) (p4 + 1) [(4, .int (p4 + 1)), (0, .ref (ad 0)), (1, .long p1), (3, .int p3)] dX9_feed_73 rfl (congrArg (fun z => p4 + z) ic_1) (by decide) rfl ?_
      refine x_goto (pc := 76) 40 dX9_feed_76 (by decide) ?_
      refine x_lv [1, 2, 3, 0] [(0, .ref (ad 0)), (1, .long p1), (3, .int p3), (4, .int (p4 + 1))] rfl ?_
      exact ih p1 p3 (p4 + 1) _ _ _ h
def fc_LB_feed (p1 : Int64) (p3 : Int32) (M : aw_M) : Option (Int32 × aw_M) :=
  if p3 < 1 then (
    fc_LB_error 1 M
  ) else (
    if p3 ≤ 8 then (
      if ((M 1 6) + p3) ≤ 50 then (
        fc_LB_feed_L40  2000 p1 p3 0 M
      ) else (
        fc_LB_error 4 M
      )
    ) else (
      fc_LB_error 1 M
    )
  )
set_option maxRecDepth 20000 in
theorem tc_LB_feed {l : Launch} {D : va_G} {cy : Nat → ClassId} {ad : Nat → Nat} {A : Nat → Prop} (d : Nat) (hd : 1 ≤ d) (p1 : Int64) (p3 : Int32) (M : aw_M) (r : Int32) (M1 : aw_M) (h : fc_LB_feed p1 p3 M = some (r, M1)) : AX l D cy ad A gc_G yX9_feed cX9_feed 5 (some .int) d [.ref (ad 0), .long p1, .int p3] M (some (.int r)) M1 := by
  have hd1 : (d - 1) + 1 ≤ d := by omega
  have hm1 : 1 ≤ d := by omega
  have hh_0 : 0 ≤ d - 1 := by omega
  refine AX.of (own := RX9) (by decide +kernel) rfl (Nat.le_of_ble_eq_true rfl) ?_
  unfold fc_LB_feed at h
  show AW l D cy ad A gc_G RX9 cX9_feed 5 (some .int) d (some (.int r)) M1 0 [(0, .ref (ad 0)), (1, .long p1), (3, .int p3)] [] M
  refine x_iload_n (pc := 0) 3 dX9_feed_0 rfl rfl ?_
  refine x_iconst (pc := 1) (w := 1) dX9_feed_1 ic_1 ?_
  refine x_icmp_lt (pc := 2) 11 dX9_feed_2 (by decide) (fun c_1 => ?_) (fun c_1 => ?_)
  · have h := aw_pos h c_1
    refine x_aload_n (pc := 11) 0 dX9_feed_11 rfl rfl ?_
    refine x_iconst (pc := 12) (w := 1) dX9_feed_12 ic_1 ?_
    refine x_callV (pc := 13) (As := [.int 1]) (rest := []) (st' := [.int r]) (w := (some (.int r))) dX9_feed_13 cw_X9_84 hd1 gc_0 rfl rfl rfl (Nat.le_of_ble_eq_true rfl) (tc_LB_error (d - 1) hh_0 1 _ _ _ h) rfl ?_
    exact x_iret (pc := 16) dX9_feed_16
  · have h := aw_neg h c_1
    refine x_iload_n (pc := 5) 3 dX9_feed_5 rfl rfl ?_
    refine x_bipush (pc := 6) (w := 8) dX9_feed_6 bi_8 ?_
    refine x_icmp_le (pc := 8) 17 dX9_feed_8 (by decide) (fun c_2 => ?_) (fun c_2 => ?_)
    · have h := aw_pos h c_2
      refine x_aload_n (pc := 17) 0 dX9_feed_17 rfl rfl ?_
      refine x_get (pc := 18) dX9_feed_18 lk_X9_10 gc_0 rfl rfl ?_
      refine x_get (pc := 21) dX9_feed_21 lk_X9_154 gc_1 rfl rfl ?_
      refine x_iload_n (pc := 24) 3 dX9_feed_24 rfl rfl ?_
      refine x_iadd (pc := 25) dX9_feed_25 ?_
      refine x_bipush (pc := 26) (w := 50) dX9_feed_26 bi_50 ?_
      refine x_icmp_le (pc := 28) 37 dX9_feed_28 (by decide) (fun c_3 => ?_) (fun c_3 => ?_)
      · have h := aw_pos h c_3
        refine x_iconst (pc := 37) (w := 0) dX9_feed_37 ic_0 ?_
        refine x_istore (pc := 38) 4 [(4, .int 0), (0, .ref (ad 0)), (1, .long p1), (3, .int p3)] dX9_feed_38 (by decide) rfl ?_
        refine x_lv [1, 2, 3, 0] [(0, .ref (ad 0)), (1, .long p1), (3, .int p3), (4, .int 0)] rfl ?_
        exact tc_LB_feed_L40 d hd  2000 p1 p3 0 _ _ _ h
      · have h := aw_neg h c_3
        refine x_aload_n (pc := 31) 0 dX9_feed_31 rfl rfl ?_
        refine x_iconst (pc := 32) (w := 4) dX9_feed_32 ic_4 ?_
        refine x_callV (pc := 33) (As := [.int 4]) (rest := []) (st' := [.int r]) (w := (some (.int r))) dX9_feed_33 cw_X9_84 hd1 gc_0 rfl rfl rfl (Nat.le_of_ble_eq_true rfl) (tc_LB_error (d - 1) hh_0 4 _ _ _ h) rfl ?_
        exact x_iret (pc := 36) dX9_feed_36
    · have h := aw_neg h c_2
      refine x_aload_n (pc := 11) 0 dX9_feed_11 rfl rfl ?_
      refine x_iconst (pc := 12) (w := 1) dX9_feed_12 ic_1 ?_
      refine x_callV (pc := 13) (As := [.int 1]) (rest := []) (st' := [.int r]) (w := (some (.int r))) dX9_feed_13 cw_X9_84 hd1 gc_0 rfl rfl rfl (Nat.le_of_ble_eq_true rfl) (tc_LB_error (d - 1) hh_0 1 _ _ _ h) rfl ?_
      exact x_iret (pc := 16) dX9_feed_16
