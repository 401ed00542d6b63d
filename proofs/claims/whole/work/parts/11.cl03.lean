def fc_St_sewYard_J21 (i2 : Nat) (p100 : Int32) (M : aw_M) : Option (Int32 × aw_M) :=
    aw_bi (fc_Cl_lintOfYard i2 (aw_u (aw_u M (14 + i2) 4 (aw_min 9999 ((M (14 + i2) 4) + p100))) (14 + i2) 3 (aw_min 9999 (((aw_u M (14 + i2) 4 (aw_min 9999 ((M (14 + i2) 4) + p100))) (14 + i2) 3) + 1)))) fun r_6 M_7 => (
    aw_bv (fc_Ma_gather 0 r_6 M_7) fun M_9 => (
    aw_bi (fc_Ma_yardSeconds 0 M_9) fun r_11 M_12 => (
    some (p100, (aw_u M_12 1 8 ((M_9 1 8) + r_11)))
    )
    )
    )
set_option maxRecDepth 20000 in
theorem tc_St_sewYard_J21 {l : Launch} {D : va_G} {cy : Nat → ClassId} {ad : Nat → Nat} {A : Nat → Prop} (d : Nat) (hd : 5 ≤ d) (i2 : Nat) (h2 : i2 < 12) (p100 : Int32) (M : aw_M) (r : Int32) (M1 : aw_M) (h : fc_St_sewYard_J21 i2 p100 M = some (r, M1)) : AW l D cy ad A gc_G RX7 cX7_sewYard 4 (some .int) d (some (.int r)) M1 21 [(0, .ref (ad 1)), (2, .ref (ad (14 + i2)))] [.int p100] M := by
  have hd1 : (d - 1) + 1 ≤ d := by omega
  have hm1 : 1 ≤ d := by omega
  have hh_0 : 0 ≤ d - 1 := by omega
  have hh_1 : 1 ≤ d - 1 := by omega
  have hh_4 : 4 ≤ d - 1 := by omega
  unfold fc_St_sewYard_J21 at h
  refine x_istore_n (pc := 21) 3 [(3, .int p100), (0, .ref (ad 1)), (2, .ref (ad (14 + i2)))] dX7_sewYard_21 rfl (by decide) rfl ?_
  refine x_aload_n (pc := 22) 2 dX7_sewYard_22 rfl rfl ?_
  refine x_sipush (pc := 23) (w := 9999) dX7_sewYard_23 si_9999 ?_
  refine x_aload_n (pc := 26) 2 dX7_sewYard_26 rfl rfl ?_
  refine x_get (pc := 27) dX7_sewYard_27 lk_X7_103 (gc_cloth (i := i2) h2) rfl rfl ?_
  refine x_iload_n (pc := 30) 3 dX7_sewYard_30 rfl rfl ?_
  refine x_iadd (pc := 31) dX7_sewYard_31 ?_
  refine x_min (pc := 32) dX7_sewYard_32 (tb_in (i := 683) (by decide +kernel) rfl) hm1 (Nat.le_of_ble_eq_true rfl) ?_
  refine x_put (pc := 35) (x := (aw_min 9999 ((M (14 + i2) 4) + p100))) dX7_sewYard_35 lk_X7_103 lp_X1_4 (gc_cloth (i := i2) h2) rfl rfl rfl rfl ?_
  refine x_aload_n (pc := 38) 2 dX7_sewYard_38 rfl rfl ?_
  refine x_sipush (pc := 39) (w := 9999) dX7_sewYard_39 si_9999 ?_
  refine x_aload_n (pc := 42) 2 dX7_sewYard_42 rfl rfl ?_
  refine x_get (pc := 43) dX7_sewYard_43 lk_X7_112 (gc_cloth (i := i2) h2) rfl rfl ?_
  refine x_iconst (pc := 46) (w := 1) dX7_sewYard_46 ic_1 ?_
  refine x_iadd (pc := 47) dX7_sewYard_47 ?_
  refine x_min (pc := 48) dX7_sewYard_48 (tb_in (i := 683) (by decide +kernel) rfl) hm1 (Nat.le_of_ble_eq_true rfl) ?_
  refine x_put (pc := 51) (x := (aw_min 9999 (((aw_u M (14 + i2) 4 (aw_min 9999 ((M (14 + i2) 4) + p100))) (14 + i2) 3) + 1))) dX7_sewYard_51 lk_X7_112 lp_X1_3 (gc_cloth (i := i2) h2) rfl rfl rfl rfl ?_
  refine x_aload_n (pc := 54) 0 dX7_sewYard_54 rfl rfl ?_
  refine x_get (pc := 55) dX7_sewYard_55 lk_X7_12 gc_1 rfl rfl ?_
  refine x_aload_n (pc := 58) 2 dX7_sewYard_58 rfl rfl ?_
  obtain ⟨r_6, M_7, e_5, h⟩ := aw_bi_e h
  refine x_callV (pc := 59) (As := []) (rest := [.ref (ad 3)]) (st' := [.int r_6, .ref (ad 3)]) (w := (some (.int r_6))) dX7_sewYard_59 cw_X7_115 hd1 (gc_cloth (i := i2) h2) rfl rfl rfl (Nat.le_of_ble_eq_true rfl) (tc_Cl_lintOfYard (d - 1) hh_0 i2 h2 _ _ _ e_5) rfl ?_
  obtain ⟨M_9, e_8, h⟩ := aw_bv_e h
  refine x_callV (pc := 62) (As := [.int r_6]) (rest := []) (st' := []) (w := none) dX7_sewYard_62 cw_X7_119 hd1 (gc_mach (i := 0) (by decide)) rfl rfl rfl (Nat.le_of_ble_eq_true rfl) (tc_Ma_gather (d - 1) hh_1 0 (by decide) r_6 _  _ e_8) rfl ?_
  refine x_aload_n (pc := 65) 0 dX7_sewYard_65 rfl rfl ?_
  refine x_dup (pc := 66) dX7_sewYard_66 rfl ?_
  refine x_get (pc := 67) dX7_sewYard_67 lk_X7_48 gc_1 rfl rfl ?_
  refine x_aload_n (pc := 70) 0 dX7_sewYard_70 rfl rfl ?_
  refine x_get (pc := 71) dX7_sewYard_71 lk_X7_12 gc_1 rfl rfl ?_
  obtain ⟨r_11, M_12, e_10, h⟩ := aw_bi_e h
  refine x_callV (pc := 74) (As := []) (rest := [.int (M_9 1 8), .ref (ad 1)]) (st' := [.int r_11, .int (M_9 1 8), .ref (ad 1)]) (w := (some (.int r_11))) dX7_sewYard_74 cw_X7_122 hd1 (gc_mach (i := 0) (by decide)) rfl rfl rfl (Nat.le_of_ble_eq_true rfl) (tc_Ma_yardSeconds (d - 1) hh_0 0 (by decide) _ _ _ e_10) rfl ?_
  refine x_iadd (pc := 77) dX7_sewYard_77 ?_
  refine x_put (pc := 78) (x := ((M_9 1 8) + r_11)) dX7_sewYard_78 lk_X7_48 lp_X7_8 gc_1 rfl rfl rfl rfl ?_
  refine x_iload_n (pc := 81) 3 dX7_sewYard_81 rfl rfl ?_
  obtain ⟨rfl, rfl⟩ := aw_so h
  exact x_iret (pc := 82) dX7_sewYard_82
def fc_St_sewYard (i1 : Nat) (M : aw_M) : Option (Int32 × aw_M) :=
  aw_bi (fc_Ga_shows i1 0 M) fun r_2 M_3 => (
  if r_2 = 0 then (
    fc_St_sewYard_J21  i1 0 M_3
  ) else (
    fc_St_sewYard_J21  i1 1 M_3
  )
  )
set_option maxRecDepth 20000 in
theorem tc_St_sewYard {l : Launch} {D : va_G} {cy : Nat → ClassId} {ad : Nat → Nat} {A : Nat → Prop} (d : Nat) (hd : 5 ≤ d) (i1 : Nat) (h1 : i1 < 6) (M : aw_M) (r : Int32) (M1 : aw_M) (h : fc_St_sewYard i1 M = some (r, M1)) : AX l D cy ad A gc_G yX7_sewYard cX7_sewYard 4 (some .int) d [.ref (ad 1), .ref (ad (39 + i1))] M (some (.int r)) M1 := by
  have hd1 : (d - 1) + 1 ≤ d := by omega
  have hm1 : 1 ≤ d := by omega
  have hh_0 : 0 ≤ d - 1 := by omega
  have hh_1 : 1 ≤ d - 1 := by omega
  have hh_4 : 4 ≤ d - 1 := by omega
  refine AX.of (own := RX7) (by decide +kernel) rfl (Nat.le_of_ble_eq_true rfl) ?_
  unfold fc_St_sewYard at h
  show AW l D cy ad A gc_G RX7 cX7_sewYard 4 (some .int) d (some (.int r)) M1 0 [(0, .ref (ad 1)), (1, .ref (ad (39 + i1)))] [] M
  refine x_aload_n (pc := 0) 1 dX7_sewYard_0 rfl rfl ?_
  refine x_get (pc := 1) dX7_sewYard_1 lk_X7_93 (gc_gauge (i := i1) h1) rfl rfl ?_
  refine x_astore_n (pc := 4) 2 [(2, .ref (ad (14 + i1))), (0, .ref (ad 1)), (1, .ref (ad (39 + i1)))] dX7_sewYard_4 rfl (by decide) rfl ?_
  refine x_aload_n (pc := 5) 1 dX7_sewYard_5 rfl rfl ?_
  refine x_aload_n (pc := 6) 0 dX7_sewYard_6 rfl rfl ?_
  refine x_get (pc := 7) dX7_sewYard_7 lk_X7_12 gc_1 rfl rfl ?_
  obtain ⟨r_2, M_3, e_1, h⟩ := aw_bi_e h
  refine x_callV (pc := 10) (As := [.ref (ad 3)]) (rest := []) (st' := [.int r_2]) (w := (some (.int r_2))) dX7_sewYard_10 cw_X7_99 hd1 (gc_gauge (i := i1) h1) rfl rfl rfl (Nat.le_of_ble_eq_true rfl) (tc_Ga_shows (d - 1) hh_4 i1 h1 0 (by decide) _ _ _ e_1) rfl ?_
  refine x_if_ne (pc := 13) 20 dX7_sewYard_13 (by decide) (fun c_4 => ?_) (fun c_4 => ?_)
  · have h := aw_neg h c_4
    refine x_iconst (pc := 20) (w := 1) dX7_sewYard_20 ic_1 ?_
    refine x_lv [1, 0] [(0, .ref (ad 1)), (2, .ref (ad (14 + i1)))] rfl ?_
    exact tc_St_sewYard_J21 d hd  i1 (Nat.lt_of_lt_of_le h1 (by decide)) 1 _ _ _ h
  · have h := aw_pos h c_4
    refine x_iconst (pc := 16) (w := 0) dX7_sewYard_16 ic_0 ?_
    refine x_goto (pc := 17) 21 dX7_sewYard_17 (by decide) ?_
    refine x_lv [1, 0] [(0, .ref (ad 1)), (2, .ref (ad (14 + i1)))] rfl ?_
    exact tc_St_sewYard_J21 d hd  i1 (Nat.lt_of_lt_of_le h1 (by decide)) 0 _ _ _ h
def fc_St_draw  (M : aw_M) : Option (Int32 × aw_M) :=
  some ((aw_ush ((aw_u M 1 9 (((M 1 9) * 1103515245) + 12345)) 1 9) 8), (aw_u M 1 9 (((M 1 9) * 1103515245) + 12345)))
set_option maxRecDepth 20000 in
theorem tc_St_draw {l : Launch} {D : va_G} {cy : Nat → ClassId} {ad : Nat → Nat} {A : Nat → Prop} (d : Nat) (hd : 0 ≤ d)  (M : aw_M) (r : Int32) (M1 : aw_M) (h : fc_St_draw  M = some (r, M1)) : AX l D cy ad A gc_G yX7_draw cX7_draw 1 (some .int) d [.ref (ad 1)] M (some (.int r)) M1 := by
  refine AX.of (own := RX7) (by decide +kernel) rfl (Nat.le_of_ble_eq_true rfl) ?_
  unfold fc_St_draw at h
  show AW l D cy ad A gc_G RX7 cX7_draw 1 (some .int) d (some (.int r)) M1 0 [(0, .ref (ad 1))] [] M
  refine x_aload_n (pc := 0) 0 dX7_draw_0 rfl rfl ?_
  refine x_aload_n (pc := 1) 0 dX7_draw_1 rfl rfl ?_
  refine x_get (pc := 2) dX7_draw_2 lk_X7_51 gc_1 rfl rfl ?_
  refine x_ldc (pc := 5) dX7_draw_5 wk_X7_125 ?_
  refine x_imul (pc := 7) dX7_draw_7 ?_
  refine x_sipush (pc := 8) (w := 12345) dX7_draw_8 si_12345 ?_
  refine x_iadd (pc := 11) dX7_draw_11 ?_
  refine x_put (pc := 12) (x := (((M 1 9) * 1103515245) + 12345)) dX7_draw_12 lk_X7_51 lp_X7_9 gc_1 rfl rfl rfl rfl ?_
  refine x_aload_n (pc := 15) 0 dX7_draw_15 rfl rfl ?_
  refine x_get (pc := 16) dX7_draw_16 lk_X7_51 gc_1 rfl rfl ?_
  refine x_bipush (pc := 19) (w := 8) dX7_draw_19 bi_8 ?_
  refine x_iushr (pc := 21) dX7_draw_21 ?_
  obtain ⟨rfl, rfl⟩ := aw_so h
  exact x_iret (pc := 22) dX7_draw_22
def fc_St_allYards_L4 : Nat → Int32 → Int32 → aw_M → Option (Int32 × aw_M)
  | 0, _, _, _ => none
  | n + 1, p1, p2, M =>
    if (M 1 5) ≤ p2 then (
      some (p1, M)
    ) else (
      if aw_in p2 6 then none else (
      fc_St_allYards_L4 n (p1 + (M (14 + p2.toNatClampNeg) 3)) (p2 + 1) M
      )
    )
theorem fc_St_allYards_L4_s (n : Nat) (p1 : Int32) (p2 : Int32) (M : aw_M) : fc_St_allYards_L4 (n + 1) p1 p2 M = (
    if (M 1 5) ≤ p2 then (
      some (p1, M)
    ) else (
      if aw_in p2 6 then none else (
      fc_St_allYards_L4 n (p1 + (M (14 + p2.toNatClampNeg) 3)) (p2 + 1) M
      )
    )
    ) := rfl
set_option maxRecDepth 20000 in
theorem tc_St_allYards_L4 {l : Launch} {D : va_G} {cy : Nat → ClassId} {ad : Nat → Nat} {A : Nat → Prop} (d : Nat) (hd : 0 ≤ d) : ∀ (n : Nat) (p1 : Int32) (p2 : Int32) (M : aw_M) (r : Int32) (M1 : aw_M), fc_St_allYards_L4 n p1 p2 M = some (r, M1) → AW l D cy ad A gc_G RX7 cX7_allYards 3 (some .int) d (some (.int r)) M1 4 [(0, .ref (ad 1)), (1, .int p1), (2, .int p2)] [] M := by
  intro n
  induction n with
  | zero => intro p1 p2 M r M1 h; cases h
  | succ n ih =>
    intro p1 p2 M r M1 h
    rw [fc_St_allYards_L4_s] at h
    refine x_iload_n (pc := 4) 2 dX7_allYards_4 rfl rfl ?_
    refine x_aload_n (pc := 5) 0 dX7_allYards_5 rfl rfl ?_
    refine x_get (pc := 6) dX7_allYards_6 lk_X7_38 gc_1 rfl rfl ?_
    refine x_icmp_ge (pc := 9) 30 dX7_allYards_9 (by decide) (fun c_1 => ?_) (fun c_1 => ?_)
    · have h := aw_pos h c_1
      refine x_iload_n (pc := 30) 1 dX7_allYards_30 rfl rfl ?_
      obtain ⟨rfl, rfl⟩ := aw_so h
      exact x_iret (pc := 31) dX7_allYards_31
    · have h := aw_neg h c_1
      refine x_iload_n (pc := 12) 1 dX7_allYards_12 rfl rfl ?_
      refine x_aload_n (pc := 13) 0 dX7_allYards_13 rfl rfl ?_
      refine x_get (pc := 14) dX7_allYards_14 lk_X7_20 gc_1 rfl rfl ?_
      refine x_iload_n (pc := 17) 2 dX7_allYards_17 rfl rfl ?_
      obtain ⟨c_2, h⟩ := aw_ck h
      refine x_aald (pc := 18) dX7_allYards_18 gc_6 (fun _ => rfl) c_2 (ga_6 (aw_lt c_2)) ?_
      refine x_get (pc := 19) dX7_allYards_19 lk_X7_112 (gc_cloth (i := p2.toNatClampNeg) (Nat.lt_of_lt_of_le (aw_lt c_2) (by decide))) rfl rfl ?_
      refine x_iadd (pc := 22) dX7_allYards_22 ?_
      refine x_istore_n (pc := 23) 1 [(1, .int (p1 + (M (14 + p2.toNatClampNeg) 3))), (0, .ref (ad 1)), (2, .int p2)] dX7_allYards_23 rfl (by decide) rfl ?_
      refine x_iinc (pc := 24) (p2 + 1) [(2, .int (p2 + 1)), (1, .int (p1 + (M (14 + p2.toNatClampNeg) 3))), (0, .ref (ad 1))] dX7_allYards_24 rfl (congrArg (fun z => p2 + z) ic_1) (by decide) rfl ?_
      refine x_goto (pc := 27) 4 dX7_allYards_27 (by decide) ?_
      refine x_lv [2, 1, 0] [(0, .ref (ad 1)), (1, .int (p1 + (M (14 + p2.toNatClampNeg) 3))), (2, .int (p2 + 1))] rfl ?_
      exact ih (p1 + (M (14 + p2.toNatClampNeg) 3)) (p2 + 1) _ _ _ h
def fc_St_allYards  (M : aw_M) : Option (Int32 × aw_M) :=
  fc_St_allYards_L4  2000 0 0 M
set_option maxRecDepth 20000 in
theorem tc_St_allYards {l : Launch} {D : va_G} {cy : Nat → ClassId} {ad : Nat → Nat} {A : Nat → Prop} (d : Nat) (hd : 0 ≤ d)  (M : aw_M) (r : Int32) (M1 : aw_M) (h : fc_St_allYards  M = some (r, M1)) : AX l D cy ad A gc_G yX7_allYards cX7_allYards 3 (some .int) d [.ref (ad 1)] M (some (.int r)) M1 := by
  refine AX.of (own := RX7) (by decide +kernel) rfl (Nat.le_of_ble_eq_true rfl) ?_
  unfold fc_St_allYards at h
  show AW l D cy ad A gc_G RX7 cX7_allYards 3 (some .int) d (some (.int r)) M1 0 [(0, .ref (ad 1))] [] M
  refine x_iconst (pc := 0) (w := 0) dX7_allYards_0 ic_0 ?_
  refine x_istore_n (pc := 1) 1 [(1, .int 0), (0, .ref (ad 1))] dX7_allYards_1 rfl (by decide) rfl ?_
  refine x_iconst (pc := 2) (w := 0) dX7_allYards_2 ic_0 ?_
  refine x_istore_n (pc := 3) 2 [(2, .int 0), (1, .int 0), (0, .ref (ad 1))] dX7_allYards_3 rfl (by decide) rfl ?_
  refine x_lv [2, 1, 0] [(0, .ref (ad 1)), (1, .int 0), (2, .int 0)] rfl ?_
  exact tc_St_allYards_L4 d hd  2000 0 0 _ _ _ h
def fc_St_allSpoilt_L4 : Nat → Int32 → Int32 → aw_M → Option (Int32 × aw_M)
  | 0, _, _, _ => none
  | n + 1, p1, p2, M =>
    if (M 1 5) ≤ p2 then (
      some (p1, M)
    ) else (
      if aw_in p2 6 then none else (
      fc_St_allSpoilt_L4 n (p1 + (M (14 + p2.toNatClampNeg) 4)) (p2 + 1) M
      )
    )
theorem fc_St_allSpoilt_L4_s (n : Nat) (p1 : Int32) (p2 : Int32) (M : aw_M) : fc_St_allSpoilt_L4 (n + 1) p1 p2 M = (
    if (M 1 5) ≤ p2 then (
      some (p1, M)
    ) else (
      if aw_in p2 6 then none else (
      fc_St_allSpoilt_L4 n (p1 + (M (14 + p2.toNatClampNeg) 4)) (p2 + 1) M
      )
    )
    ) := rfl
set_option maxRecDepth 20000 in
theorem tc_St_allSpoilt_L4 {l : Launch} {D : va_G} {cy : Nat → ClassId} {ad : Nat → Nat} {A : Nat → Prop} (d : Nat) (hd : 0 ≤ d) : ∀ (n : Nat) (p1 : Int32) (p2 : Int32) (M : aw_M) (r : Int32) (M1 : aw_M), fc_St_allSpoilt_L4 n p1 p2 M = some (r, M1) → AW l D cy ad A gc_G RX7 cX7_allSpoilt 3 (some .int) d (some (.int r)) M1 4 [(0, .ref (ad 1)), (1, .int p1), (2, .int p2)] [] M := by
  intro n
  induction n with
  | zero => intro p1 p2 M r M1 h; cases h
  | succ n ih =>
    intro p1 p2 M r M1 h
    rw [fc_St_allSpoilt_L4_s] at h
    refine x_iload_n (pc := 4) 2 dX7_allSpoilt_4 rfl rfl ?_
    refine x_aload_n (pc := 5) 0 dX7_allSpoilt_5 rfl rfl ?_
    refine x_get (pc := 6) dX7_allSpoilt_6 lk_X7_38 gc_1 rfl rfl ?_
    refine x_icmp_ge (pc := 9) 30 dX7_allSpoilt_9 (by decide) (fun c_1 => ?_) (fun c_1 => ?_)
    · have h := aw_pos h c_1
      refine x_iload_n (pc := 30) 1 dX7_allSpoilt_30 rfl rfl ?_
      obtain ⟨rfl, rfl⟩ := aw_so h
      exact x_iret (pc := 31) dX7_allSpoilt_31
    · have h := aw_neg h c_1
      refine x_iload_n (pc := 12) 1 dX7_allSpoilt_12 rfl rfl ?_
      refine x_aload_n (pc := 13) 0 dX7_allSpoilt_13 rfl rfl ?_
      refine x_get (pc := 14) dX7_allSpoilt_14 lk_X7_20 gc_1 rfl rfl ?_
      refine x_iload_n (pc := 17) 2 dX7_allSpoilt_17 rfl rfl ?_
      obtain ⟨c_2, h⟩ := aw_ck h
      refine x_aald (pc := 18) dX7_allSpoilt_18 gc_6 (fun _ => rfl) c_2 (ga_6 (aw_lt c_2)) ?_
      refine x_get (pc := 19) dX7_allSpoilt_19 lk_X7_103 (gc_cloth (i := p2.toNatClampNeg) (Nat.lt_of_lt_of_le (aw_lt c_2) (by decide))) rfl rfl ?_
      refine x_iadd (pc := 22) dX7_allSpoilt_22 ?_
      refine x_istore_n (pc := 23) 1 [(1, .int (p1 + (M (14 + p2.toNatClampNeg) 4))), (0, .ref (ad 1)), (2, .int p2)] dX7_allSpoilt_23 rfl (by decide) rfl ?_
      refine x_iinc (pc := 24) (p2 + 1) [(2, .int (p2 + 1)), (1, .int (p1 + (M (14 + p2.toNatClampNeg) 4))), (0, .ref (ad 1))] dX7_allSpoilt_24 rfl (congrArg (fun z => p2 + z) ic_1) (by decide) rfl ?_
      refine x_goto (pc := 27) 4 dX7_allSpoilt_27 (by decide) ?_
      refine x_lv [2, 1, 0] [(0, .ref (ad 1)), (1, .int (p1 + (M (14 + p2.toNatClampNeg) 4))), (2, .int (p2 + 1))] rfl ?_
      exact ih (p1 + (M (14 + p2.toNatClampNeg) 4)) (p2 + 1) _ _ _ h
def fc_St_allSpoilt  (M : aw_M) : Option (Int32 × aw_M) :=
  fc_St_allSpoilt_L4  2000 0 0 M
set_option maxRecDepth 20000 in
theorem tc_St_allSpoilt {l : Launch} {D : va_G} {cy : Nat → ClassId} {ad : Nat → Nat} {A : Nat → Prop} (d : Nat) (hd : 0 ≤ d)  (M : aw_M) (r : Int32) (M1 : aw_M) (h : fc_St_allSpoilt  M = some (r, M1)) : AX l D cy ad A gc_G yX7_allSpoilt cX7_allSpoilt 3 (some .int) d [.ref (ad 1)] M (some (.int r)) M1 := by
  refine AX.of (own := RX7) (by decide +kernel) rfl (Nat.le_of_ble_eq_true rfl) ?_
  unfold fc_St_allSpoilt at h
  show AW l D cy ad A gc_G RX7 cX7_allSpoilt 3 (some .int) d (some (.int r)) M1 0 [(0, .ref (ad 1))] [] M
  refine x_iconst (pc := 0) (w := 0) dX7_allSpoilt_0 ic_0 ?_
  refine x_istore_n (pc := 1) 1 [(1, .int 0), (0, .ref (ad 1))] dX7_allSpoilt_1 rfl (by decide) rfl ?_
  refine x_iconst (pc := 2) (w := 0) dX7_allSpoilt_2 ic_0 ?_
  refine x_istore_n (pc := 3) 2 [(2, .int 0), (1, .int 0), (0, .ref (ad 1))] dX7_allSpoilt_3 rfl (by decide) rfl ?_
  refine x_lv [2, 1, 0] [(0, .ref (ad 1)), (1, .int 0), (2, .int 0)] rfl ?_
  exact tc_St_allSpoilt_L4 d hd  2000 0 0 _ _ _ h
def fc_Te_add (p1 : Int32) (M : aw_M) : Option aw_M :=
  if (50 : Int32) ≤ (M 53 2) then (
    some M
  ) else (
    if aw_in (M 53 2) 50 then none else (
    some (aw_u (aw_u M 54 (M 53 2).toNatClampNeg p1) 53 2 (((aw_u M 54 (M 53 2).toNatClampNeg p1) 53 2) + 1))
    )
  )
set_option maxRecDepth 20000 in
theorem tc_Te_add {l : Launch} {D : va_G} {cy : Nat → ClassId} {ad : Nat → Nat} {A : Nat → Prop} (d : Nat) (hd : 0 ≤ d) (p1 : Int32) (M : aw_M) (M1 : aw_M) (h : fc_Te_add p1 M = some M1) : AX l D cy ad A gc_G yX8_add cX8_add 2 none d [.ref (ad 53), .int p1] M none M1 := by
  refine AX.of (own := RX8) (by decide +kernel) rfl (Nat.le_of_ble_eq_true rfl) ?_
  unfold fc_Te_add at h
  show AW l D cy ad A gc_G RX8 cX8_add 2 none d none M1 0 [(0, .ref (ad 53)), (1, .int p1)] [] M
  refine x_aload_n (pc := 0) 0 dX8_add_0 rfl rfl ?_
  refine x_get (pc := 1) dX8_add_1 lk_X8_41 gc_53 rfl rfl ?_
  refine x_bipush (pc := 4) (w := 50) dX8_add_4 bi_50 ?_
  refine x_icmp_ge (pc := 6) 29 dX8_add_6 (by decide) (fun c_1 => ?_) (fun c_1 => ?_)
  · have h := aw_pos h c_1
    obtain rfl := aw_sv h
    exact x_vret (pc := 29) dX8_add_29
  · have h := aw_neg h c_1
    refine x_aload_n (pc := 9) 0 dX8_add_9 rfl rfl ?_
    refine x_get (pc := 10) dX8_add_10 lk_X8_9 gc_53 rfl rfl ?_
    refine x_aload_n (pc := 13) 0 dX8_add_13 rfl rfl ?_
    refine x_get (pc := 14) dX8_add_14 lk_X8_41 gc_53 rfl rfl ?_
    refine x_iload_n (pc := 17) 1 dX8_add_17 rfl rfl ?_
    obtain ⟨c_2, h⟩ := aw_ck h
    refine x_iast (pc := 18) dX8_add_18 gc_54 c_2 ?_
    refine x_aload_n (pc := 19) 0 dX8_add_19 rfl rfl ?_
    refine x_dup (pc := 20) dX8_add_20 rfl ?_
    refine x_get (pc := 21) dX8_add_21 lk_X8_41 gc_53 rfl rfl ?_
    refine x_iconst (pc := 24) (w := 1) dX8_add_24 ic_1 ?_
    refine x_iadd (pc := 25) dX8_add_25 ?_
    refine x_put (pc := 26) (x := (((aw_u M 54 (M 53 2).toNatClampNeg p1) 53 2) + 1)) dX8_add_26 lk_X8_41 lp_X8_2 gc_53 rfl rfl rfl rfl ?_
    obtain rfl := aw_sv h
    exact x_vret (pc := 29) dX8_add_29
def fc_Te_here  (M : aw_M) : Option (Int32 × aw_M) :=
  if (M 53 3) < 0 then (
    some ((-1), M)
  ) else (
    if (M 53 4) ≤ (M 53 3) then (
      some ((-1), M)
    ) else (
      if aw_in (M 53 3) 50 then none else (
      some ((M 55 (M 53 3).toNatClampNeg), M)
      )
    )
  )
set_option maxRecDepth 20000 in
theorem tc_Te_here {l : Launch} {D : va_G} {cy : Nat → ClassId} {ad : Nat → Nat} {A : Nat → Prop} (d : Nat) (hd : 0 ≤ d)  (M : aw_M) (r : Int32) (M1 : aw_M) (h : fc_Te_here  M = some (r, M1)) : AX l D cy ad A gc_G yX8_here cX8_here 1 (some .int) d [.ref (ad 53)] M (some (.int r)) M1 := by
  refine AX.of (own := RX8) (by decide +kernel) rfl (Nat.le_of_ble_eq_true rfl) ?_
  unfold fc_Te_here at h
  show AW l D cy ad A gc_G RX8 cX8_here 1 (some .int) d (some (.int r)) M1 0 [(0, .ref (ad 53))] [] M
  refine x_aload_n (pc := 0) 0 dX8_here_0 rfl rfl ?_
  refine x_get (pc := 1) dX8_here_1 lk_X8_38 gc_53 rfl rfl ?_
  refine x_if_lt (pc := 4) 30 dX8_here_4 (by decide) (fun c_1 => ?_) (fun c_1 => ?_)
  · have h := aw_pos h c_1
    refine x_iconst (pc := 30) (w := (-1)) dX8_here_30 ic_m1 ?_
    obtain ⟨rfl, rfl⟩ := aw_so h
    exact x_iret (pc := 31) dX8_here_31
  · have h := aw_neg h c_1
    refine x_aload_n (pc := 7) 0 dX8_here_7 rfl rfl ?_
    refine x_get (pc := 8) dX8_here_8 lk_X8_38 gc_53 rfl rfl ?_
    refine x_aload_n (pc := 11) 0 dX8_here_11 rfl rfl ?_
    refine x_get (pc := 12) dX8_here_12 lk_X8_34 gc_53 rfl rfl ?_
    refine x_icmp_ge (pc := 15) 30 dX8_here_15 (by decide) (fun c_2 => ?_) (fun c_2 => ?_)
    · have h := aw_pos h c_2
      refine x_iconst (pc := 30) (w := (-1)) dX8_here_30 ic_m1 ?_
      obtain ⟨rfl, rfl⟩ := aw_so h
      exact x_iret (pc := 31) dX8_here_31
    · have h := aw_neg h c_2
      refine x_aload_n (pc := 18) 0 dX8_here_18 rfl rfl ?_
      refine x_get (pc := 19) dX8_here_19 lk_X8_15 gc_53 rfl rfl ?_
      refine x_aload_n (pc := 22) 0 dX8_here_22 rfl rfl ?_
      refine x_get (pc := 23) dX8_here_23 lk_X8_38 gc_53 rfl rfl ?_
      obtain ⟨c_3, h⟩ := aw_ck h
      refine x_iald (pc := 26) dX8_here_26 gc_55 c_3 ?_
      refine x_goto (pc := 27) 31 dX8_here_27 (by decide) ?_
      obtain ⟨rfl, rfl⟩ := aw_so h
      exact x_iret (pc := 31) dX8_here_31
def fc_Te_readNumber_L4 : Nat → Int32 → Int32 → aw_M → Option aw_M
  | 0, _, _, _ => none
  | n + 1, p1, p2, M =>
    if (4 : Int32) ≤ p2 then (
      aw_bv (fc_Te_add p1 M) fun M_3 => (
      some M_3
      )
    ) else (
      aw_bi (fc_Te_here  M) fun r_5 M_6 => (
      if r_5 < 48 then (
        aw_bv (fc_Te_add p1 M_6) fun M_9 => (
        some M_9
        )
      ) else (
        aw_bi (fc_Te_here  M_6) fun r_11 M_12 => (
        if (57 : Int32) < r_11 then (
          aw_bv (fc_Te_add p1 M_12) fun M_15 => (
          some M_15
          )
        ) else (
          aw_bi (fc_Te_here  M_12) fun r_17 M_18 => (
          fc_Te_readNumber_L4 n (((p1 * 10) + r_17) - 48) (p2 + 1) (aw_u M_18 53 3 ((M_18 53 3) + 1))
          )
        )
        )
      )
      )
    )
theorem fc_Te_readNumber_L4_s (n : Nat) (p1 : Int32) (p2 : Int32) (M : aw_M) : fc_Te_readNumber_L4 (n + 1) p1 p2 M = (
    if (4 : Int32) ≤ p2 then (
      aw_bv (fc_Te_add p1 M) fun M_3 => (
      some M_3
      )
    ) else (
      aw_bi (fc_Te_here  M) fun r_5 M_6 => (
      if r_5 < 48 then (
        aw_bv (fc_Te_add p1 M_6) fun M_9 => (
        some M_9
        )
      ) else (
        aw_bi (fc_Te_here  M_6) fun r_11 M_12 => (
        if (57 : Int32) < r_11 then (
          aw_bv (fc_Te_add p1 M_12) fun M_15 => (
          some M_15
          )
        ) else (
          aw_bi (fc_Te_here  M_12) fun r_17 M_18 => (
          fc_Te_readNumber_L4 n (((p1 * 10) + r_17) - 48) (p2 + 1) (aw_u M_18 53 3 ((M_18 53 3) + 1))
          )
        )
        )
      )
      )
    )
    ) := rfl
set_option maxRecDepth 20000 in
theorem tc_Te_readNumber_L4 {l : Launch} {D : va_G} {cy : Nat → ClassId} {ad : Nat → Nat} {A : Nat → Prop} (d : Nat) (hd : 1 ≤ d) : ∀ (n : Nat) (p1 : Int32) (p2 : Int32) (M : aw_M) (M1 : aw_M), fc_Te_readNumber_L4 n p1 p2 M = some M1 → AW l D cy ad A gc_G RX8 cX8_readNumber 3 none d none M1 4 [(0, .ref (ad 53)), (1, .int p1), (2, .int p2)] [] M := by
  have hd1 : (d - 1) + 1 ≤ d := by omega
  have hm1 : 1 ≤ d := by omega
  have hh_0 : 0 ≤ d - 1 := by omega
  intro n
  induction n with
  | zero => intro p1 p2 M M1 h; cases h
  | succ n ih =>
    intro p1 p2 M M1 h
    rw [fc_Te_readNumber_L4_s] at h
    refine x_iload_n (pc := 4) 2 dX8_readNumber_4 rfl rfl ?_
    refine x_iconst (pc := 5) (w := 4) dX8_readNumber_5 ic_4 ?_
    refine x_icmp_ge (pc := 6) 56 dX8_readNumber_6 (by decide) (fun c_1 => ?_) (fun c_1 => ?_)
    · have h := aw_pos h c_1
      refine x_aload_n (pc := 56) 0 dX8_readNumber_56 rfl rfl ?_
      refine x_iload_n (pc := 57) 1 dX8_readNumber_57 rfl rfl ?_
      obtain ⟨M_3, e_2, h⟩ := aw_bv_e h
      refine x_callV (pc := 58) (As := [.int p1]) (rest := []) (st' := []) (w := none) dX8_readNumber_58 cw_X8_59 hd1 gc_53 rfl rfl rfl (Nat.le_of_ble_eq_true rfl) (tc_Te_add (d - 1) hh_0 p1 _  _ e_2) rfl ?_
      obtain rfl := aw_sv h
      exact x_vret (pc := 61) dX8_readNumber_61
    · have h := aw_neg h c_1
      refine x_aload_n (pc := 9) 0 dX8_readNumber_9 rfl rfl ?_
      obtain ⟨r_5, M_6, e_4, h⟩ := aw_bi_e h
      refine x_callV (pc := 10) (As := []) (rest := []) (st' := [.int r_5]) (w := (some (.int r_5))) dX8_readNumber_10 cw_X8_55 hd1 gc_53 rfl rfl rfl (Nat.le_of_ble_eq_true rfl) (tc_Te_here (d - 1) hh_0  _ _ _ e_4) rfl ?_
      refine x_bipush (pc := 13) (w := 48) dX8_readNumber_13 bi_48 ?_
      refine x_icmp_lt (pc := 15) 56 dX8_readNumber_15 (by decide) (fun c_7 => ?_) (fun c_7 => ?_)
      · have h := aw_pos h c_7
        refine x_aload_n (pc := 56) 0 dX8_readNumber_56 rfl rfl ?_
        refine x_iload_n (pc := 57) 1 dX8_readNumber_57 rfl rfl ?_
        obtain ⟨M_9, e_8, h⟩ := aw_bv_e h
        refine x_callV (pc := 58) (As := [.int p1]) (rest := []) (st' := []) (w := none) dX8_readNumber_58 cw_X8_59 hd1 gc_53 rfl rfl rfl (Nat.le_of_ble_eq_true rfl) (tc_Te_add (d - 1) hh_0 p1 _  _ e_8) rfl ?_
        obtain rfl := aw_sv h
        exact x_vret (pc := 61) dX8_readNumber_61
      · have h := aw_neg h c_7
        refine x_aload_n (pc := 18) 0 dX8_readNumber_18 rfl rfl ?_
        obtain ⟨r_11, M_12, e_10, h⟩ := aw_bi_e h
        refine x_callV (pc := 19) (As := []) (rest := []) (st' := [.int r_11]) (w := (some (.int r_11))) dX8_readNumber_19 cw_X8_55 hd1 gc_53 rfl rfl rfl (Nat.le_of_ble_eq_true rfl) (tc_Te_here (d - 1) hh_0  _ _ _ e_10) rfl ?_
        refine x_bipush (pc := 22) (w := 57) dX8_readNumber_22 bi_57 ?_
        refine x_icmp_gt (pc := 24) 56 dX8_readNumber_24 (by decide) (fun c_13 => ?_) (fun c_13 => ?_)
        · have h := aw_pos h c_13
          refine x_aload_n (pc := 56) 0 dX8_readNumber_56 rfl rfl ?_
          refine x_iload_n (pc := 57) 1 dX8_readNumber_57 rfl rfl ?_
          obtain ⟨M_15, e_14, h⟩ := aw_bv_e h
          refine x_callV (pc := 58) (As := [.int p1]) (rest := []) (st' := []) (w := none) dX8_readNumber_58 cw_X8_59 hd1 gc_53 rfl rfl rfl (Nat.le_of_ble_eq_true rfl) (tc_Te_add (d - 1) hh_0 p1 _  _ e_14) rfl ?_
          obtain rfl := aw_sv h
          exact x_vret (pc := 61) dX8_readNumber_61
        · have h := aw_neg h c_13
          refine x_iload_n (pc := 27) 1 dX8_readNumber_27 rfl rfl ?_
          refine x_bipush (pc := 28) (w := 10) dX8_readNumber_28 bi_10 ?_
          refine x_imul (pc := 30) dX8_readNumber_30 ?_
          refine x_aload_n (pc := 31) 0 dX8_readNumber_31 rfl rfl ?_
          obtain ⟨r_17, M_18, e_16, h⟩ := aw_bi_e h
          refine x_callV (pc := 32) (As := []) (rest := [.int (p1 * 10)]) (st' := [.int r_17, .int (p1 * 10)]) (w := (some (.int r_17))) dX8_readNumber_32 cw_X8_55 hd1 gc_53 rfl rfl rfl (Nat.le_of_ble_eq_true rfl) (tc_Te_here (d - 1) hh_0  _ _ _ e_16) rfl ?_
          refine x_iadd (pc := 35) dX8_readNumber_35 ?_
          refine x_bipush (pc := 36) (w := 48) dX8_readNumber_36 bi_48 ?_
          refine x_isub (pc := 38) dX8_readNumber_38 ?_
          refine x_istore_n (pc := 39) 1 [(1, .int (((p1 * 10) + r_17) - 48)), (0, .ref (ad 53)), (2, .int p2)] dX8_readNumber_39 rfl (by decide) rfl ?_
          refine x_aload_n (pc := 40) 0 dX8_readNumber_40 rfl rfl ?_
          refine x_dup (pc := 41) dX8_readNumber_41 rfl ?_
          refine x_get (pc := 42) dX8_readNumber_42 lk_X8_38 gc_53 rfl rfl ?_
          refine x_iconst (pc := 45) (w := 1) dX8_readNumber_45 ic_1 ?_
          refine x_iadd (pc := 46) dX8_readNumber_46 ?_
          refine x_put (pc := 47) (x := ((M_18 53 3) + 1)) dX8_readNumber_47 lk_X8_38 lp_X8_3 gc_53 rfl rfl rfl rfl ?_
          refine x_iinc (pc := 50) (p2 + 1) [(2, .int (p2 + 1)), (1, .int (((p1 * 10) + r_17) - 48)), (0, .ref (ad 53))] dX8_readNumber_50 rfl (congrArg (fun z => p2 + z) ic_1) (by decide) rfl ?_
          refine x_goto (pc := 53) 4 dX8_readNumber_53 (by decide) ?_
          refine x_lv [2, 1, 0] [(0, .ref (ad 53)), (1, .int (((p1 * 10) + r_17) - 48)), (2, .int (p2 + 1))] rfl ?_
          exact ih (((p1 * 10) + r_17) - 48) (p2 + 1) _ _ h
def fc_Te_readNumber  (M : aw_M) : Option aw_M :=
  fc_Te_readNumber_L4  2000 0 0 M
set_option maxRecDepth 20000 in
theorem tc_Te_readNumber {l : Launch} {D : va_G} {cy : Nat → ClassId} {ad : Nat → Nat} {A : Nat → Prop} (d : Nat) (hd : 1 ≤ d)  (M : aw_M) (M1 : aw_M) (h : fc_Te_readNumber  M = some M1) : AX l D cy ad A gc_G yX8_readNumber cX8_readNumber 3 none d [.ref (ad 53)] M none M1 := by
  have hd1 : (d - 1) + 1 ≤ d := by omega
  have hm1 : 1 ≤ d := by omega
  have hh_0 : 0 ≤ d - 1 := by omega
  refine AX.of (own := RX8) (by decide +kernel) rfl (Nat.le_of_ble_eq_true rfl) ?_
  unfold fc_Te_readNumber at h
  show AW l D cy ad A gc_G RX8 cX8_readNumber 3 none d none M1 0 [(0, .ref (ad 53))] [] M
  refine x_iconst (pc := 0) (w := 0) dX8_readNumber_0 ic_0 ?_
  refine x_istore_n (pc := 1) 1 [(1, .int 0), (0, .ref (ad 53))] dX8_readNumber_1 rfl (by decide) rfl ?_
  refine x_iconst (pc := 2) (w := 0) dX8_readNumber_2 ic_0 ?_
  refine x_istore_n (pc := 3) 2 [(2, .int 0), (1, .int 0), (0, .ref (ad 53))] dX8_readNumber_3 rfl (by decide) rfl ?_
  refine x_lv [2, 1, 0] [(0, .ref (ad 53)), (1, .int 0), (2, .int 0)] rfl ?_
  exact tc_Te_readNumber_L4 d hd  2000 0 0 _ _ h
def fc_Te_operatorIsOf (p1 : Int32) (M : aw_M) : Option (Int32 × aw_M) :=
  aw_bi (fc_Te_here  M) fun r_2 M_3 => (
  if r_2 = 37 then (
    if p1 = 4 then (
      some (1, M_3)
    ) else (
      some (0, M_3)
    )
  ) else (
    if r_2 = 38 then (
      if p1 = 1 then (
        some (1, M_3)
      ) else (
        some (0, M_3)
      )
    ) else (
      if r_2 = 42 then (
        if p1 = 4 then (
          some (1, M_3)
        ) else (
          some (0, M_3)
        )
      ) else (
        if r_2 = 43 then (
          if p1 = 3 then (
            some (1, M_3)
          ) else (
            some (0, M_3)
          )
        ) else (
          if r_2 = 45 then (
            if p1 = 3 then (
              some (1, M_3)
            ) else (
              some (0, M_3)
            )
          ) else (
            if r_2 = 47 then (
              if p1 = 4 then (
                some (1, M_3)
              ) else (
                some (0, M_3)
              )
            ) else (
              if r_2 = 60 then (
                if p1 = 2 then (
                  some (1, M_3)
                ) else (
                  some (0, M_3)
                )
              ) else (
                if r_2 = 61 then (
                  if p1 = 2 then (
                    some (1, M_3)
                  ) else (
                    some (0, M_3)
                  )
                ) else (
                  if r_2 = 62 then (
                    if p1 = 2 then (
                      some (1, M_3)
                    ) else (
                      some (0, M_3)
                    )
                  ) else (
                    if r_2 = 124 then (
                      if p1 = 0 then (
                        some (1, M_3)
                      ) else (
                        some (0, M_3)
                      )
                    ) else (
                      some (0, M_3)
                    )
                  )
                )
              )
            )
          )
        )
      )
    )
  )
  )
set_option maxRecDepth 20000 in
theorem tc_Te_operatorIsOf {l : Launch} {D : va_G} {cy : Nat → ClassId} {ad : Nat → Nat} {A : Nat → Prop} (d : Nat) (hd : 1 ≤ d) (p1 : Int32) (M : aw_M) (r : Int32) (M1 : aw_M) (h : fc_Te_operatorIsOf p1 M = some (r, M1)) : AX l D cy ad A gc_G yX8_operatorIsOf cX8_operatorIsOf 2 (some .boolean) d [.ref (ad 53), .int p1] M (some (.int r)) M1 := by
  have hd1 : (d - 1) + 1 ≤ d := by omega
  have hm1 : 1 ≤ d := by omega
  have hh_0 : 0 ≤ d - 1 := by omega
  refine AX.of (own := RX8) (by decide +kernel) rfl (Nat.le_of_ble_eq_true rfl) ?_
  unfold fc_Te_operatorIsOf at h
  show AW l D cy ad A gc_G RX8 cX8_operatorIsOf 2 (some .boolean) d (some (.int r)) M1 0 [(0, .ref (ad 53)), (1, .int p1)] [] M
  refine x_aload_n (pc := 0) 0 dX8_operatorIsOf_0 rfl rfl ?_
  obtain ⟨r_2, M_3, e_1, h⟩ := aw_bi_e h
  refine x_callV (pc := 1) (As := []) (rest := []) (st' := [.int r_2]) (w := (some (.int r_2))) dX8_operatorIsOf_1 cw_X8_55 hd1 gc_53 rfl rfl rfl (Nat.le_of_ble_eq_true rfl) (tc_Te_here (d - 1) hh_0  _ _ _ e_1) rfl ?_
  by_cases c_4 : r_2 = 37
  · have h := aw_pos h c_4
    refine x_lin (pc := 4) (off := 190) 37 194 dX8_operatorIsOf_4 (by decide) c_4 (by decide) (by decide) ?_
    refine x_iload_n (pc := 194) 1 dX8_operatorIsOf_194 rfl rfl ?_
    refine x_iconst (pc := 195) (w := 4) dX8_operatorIsOf_195 ic_4 ?_
    refine x_icmp_ne (pc := 196) 203 dX8_operatorIsOf_196 (by decide) (fun c_5 => ?_) (fun c_5 => ?_)
    · have h := aw_neg h c_5
      refine x_iconst (pc := 203) (w := 0) dX8_operatorIsOf_203 ic_0 ?_
      obtain ⟨rfl, rfl⟩ := aw_so h
      exact x_zret (pc := 204) aw_b0 dX8_operatorIsOf_204
    · have h := aw_pos h c_5
      refine x_iconst (pc := 199) (w := 1) dX8_operatorIsOf_199 ic_1 ?_
      refine x_goto (pc := 200) 204 dX8_operatorIsOf_200 (by decide) ?_
      obtain ⟨rfl, rfl⟩ := aw_so h
      exact x_zret (pc := 204) aw_b1 dX8_operatorIsOf_204
  · have h := aw_neg h c_4
    by_cases c_6 : r_2 = 38
    · have h := aw_pos h c_6
      refine x_lin (pc := 4) (off := 102) 38 106 dX8_operatorIsOf_4 (by decide) c_6 (by decide) (by decide) ?_
      refine x_iload_n (pc := 106) 1 dX8_operatorIsOf_106 rfl rfl ?_
      refine x_iconst (pc := 107) (w := 1) dX8_operatorIsOf_107 ic_1 ?_
      refine x_icmp_ne (pc := 108) 115 dX8_operatorIsOf_108 (by decide) (fun c_7 => ?_) (fun c_7 => ?_)
      · have h := aw_neg h c_7
        refine x_iconst (pc := 115) (w := 0) dX8_operatorIsOf_115 ic_0 ?_
        obtain ⟨rfl, rfl⟩ := aw_so h
        exact x_zret (pc := 116) aw_b0 dX8_operatorIsOf_116
      · have h := aw_pos h c_7
        refine x_iconst (pc := 111) (w := 1) dX8_operatorIsOf_111 ic_1 ?_
        refine x_goto (pc := 112) 116 dX8_operatorIsOf_112 (by decide) ?_
        obtain ⟨rfl, rfl⟩ := aw_so h
        exact x_zret (pc := 116) aw_b1 dX8_operatorIsOf_116
    · have h := aw_neg h c_6
      by_cases c_8 : r_2 = 42
      · have h := aw_pos h c_8
        refine x_lin (pc := 4) (off := 168) 42 172 dX8_operatorIsOf_4 (by decide) c_8 (by decide) (by decide) ?_
        refine x_iload_n (pc := 172) 1 dX8_operatorIsOf_172 rfl rfl ?_
        refine x_iconst (pc := 173) (w := 4) dX8_operatorIsOf_173 ic_4 ?_
        refine x_icmp_ne (pc := 174) 181 dX8_operatorIsOf_174 (by decide) (fun c_9 => ?_) (fun c_9 => ?_)
        · have h := aw_neg h c_9
          refine x_iconst (pc := 181) (w := 0) dX8_operatorIsOf_181 ic_0 ?_
          obtain ⟨rfl, rfl⟩ := aw_so h
          exact x_zret (pc := 182) aw_b0 dX8_operatorIsOf_182
        · have h := aw_pos h c_9
          refine x_iconst (pc := 177) (w := 1) dX8_operatorIsOf_177 ic_1 ?_
          refine x_goto (pc := 178) 182 dX8_operatorIsOf_178 (by decide) ?_
          obtain ⟨rfl, rfl⟩ := aw_so h
          exact x_zret (pc := 182) aw_b1 dX8_operatorIsOf_182
      · have h := aw_neg h c_8
        by_cases c_10 : r_2 = 43
        · have h := aw_pos h c_10
          refine x_lin (pc := 4) (off := 146) 43 150 dX8_operatorIsOf_4 (by decide) c_10 (by decide) (by decide) ?_
          refine x_iload_n (pc := 150) 1 dX8_operatorIsOf_150 rfl rfl ?_
          refine x_iconst (pc := 151) (w := 3) dX8_operatorIsOf_151 ic_3 ?_
          refine x_icmp_ne (pc := 152) 159 dX8_operatorIsOf_152 (by decide) (fun c_11 => ?_) (fun c_11 => ?_)
          · have h := aw_neg h c_11
            refine x_iconst (pc := 159) (w := 0) dX8_operatorIsOf_159 ic_0 ?_
            obtain ⟨rfl, rfl⟩ := aw_so h
            exact x_zret (pc := 160) aw_b0 dX8_operatorIsOf_160
          · have h := aw_pos h c_11
            refine x_iconst (pc := 155) (w := 1) dX8_operatorIsOf_155 ic_1 ?_
            refine x_goto (pc := 156) 160 dX8_operatorIsOf_156 (by decide) ?_
            obtain ⟨rfl, rfl⟩ := aw_so h
            exact x_zret (pc := 160) aw_b1 dX8_operatorIsOf_160
        · have h := aw_neg h c_10
          by_cases c_12 : r_2 = 45
          · have h := aw_pos h c_12
            refine x_lin (pc := 4) (off := 157) 45 161 dX8_operatorIsOf_4 (by decide) c_12 (by decide) (by decide) ?_
            refine x_iload_n (pc := 161) 1 dX8_operatorIsOf_161 rfl rfl ?_
            refine x_iconst (pc := 162) (w := 3) dX8_operatorIsOf_162 ic_3 ?_
            refine x_icmp_ne (pc := 163) 170 dX8_operatorIsOf_163 (by decide) (fun c_13 => ?_) (fun c_13 => ?_)
            · have h := aw_neg h c_13
              refine x_iconst (pc := 170) (w := 0) dX8_operatorIsOf_170 ic_0 ?_
              obtain ⟨rfl, rfl⟩ := aw_so h
              exact x_zret (pc := 171) aw_b0 dX8_operatorIsOf_171
            · have h := aw_pos h c_13
              refine x_iconst (pc := 166) (w := 1) dX8_operatorIsOf_166 ic_1 ?_
              refine x_goto (pc := 167) 171 dX8_operatorIsOf_167 (by decide) ?_
              obtain ⟨rfl, rfl⟩ := aw_so h
              exact x_zret (pc := 171) aw_b1 dX8_operatorIsOf_171
          · have h := aw_neg h c_12
            by_cases c_14 : r_2 = 47
            · have h := aw_pos h c_14
              refine x_lin (pc := 4) (off := 179) 47 183 dX8_operatorIsOf_4 (by decide) c_14 (by decide) (by decide) ?_
              refine x_iload_n (pc := 183) 1 dX8_operatorIsOf_183 rfl rfl ?_
              refine x_iconst (pc := 184) (w := 4) dX8_operatorIsOf_184 ic_4 ?_
              refine x_icmp_ne (pc := 185) 192 dX8_operatorIsOf_185 (by decide) (fun c_15 => ?_) (fun c_15 => ?_)
              · have h := aw_neg h c_15
                refine x_iconst (pc := 192) (w := 0) dX8_operatorIsOf_192 ic_0 ?_
                obtain ⟨rfl, rfl⟩ := aw_so h
                exact x_zret (pc := 193) aw_b0 dX8_operatorIsOf_193
              · have h := aw_pos h c_15
                refine x_iconst (pc := 188) (w := 1) dX8_operatorIsOf_188 ic_1 ?_
                refine x_goto (pc := 189) 193 dX8_operatorIsOf_189 (by decide) ?_
                obtain ⟨rfl, rfl⟩ := aw_so h
                exact x_zret (pc := 193) aw_b1 dX8_operatorIsOf_193
            · have h := aw_neg h c_14
              by_cases c_16 : r_2 = 60
              · have h := aw_pos h c_16
                refine x_lin (pc := 4) (off := 113) 60 117 dX8_operatorIsOf_4 (by decide) c_16 (by decide) (by decide) ?_
                refine x_iload_n (pc := 117) 1 dX8_operatorIsOf_117 rfl rfl ?_
                refine x_iconst (pc := 118) (w := 2) dX8_operatorIsOf_118 ic_2 ?_
                refine x_icmp_ne (pc := 119) 126 dX8_operatorIsOf_119 (by decide) (fun c_17 => ?_) (fun c_17 => ?_)
                · have h := aw_neg h c_17
                  refine x_iconst (pc := 126) (w := 0) dX8_operatorIsOf_126 ic_0 ?_
                  obtain ⟨rfl, rfl⟩ := aw_so h
                  exact x_zret (pc := 127) aw_b0 dX8_operatorIsOf_127
                · have h := aw_pos h c_17
                  refine x_iconst (pc := 122) (w := 1) dX8_operatorIsOf_122 ic_1 ?_
                  refine x_goto (pc := 123) 127 dX8_operatorIsOf_123 (by decide) ?_
                  obtain ⟨rfl, rfl⟩ := aw_so h
                  exact x_zret (pc := 127) aw_b1 dX8_operatorIsOf_127
              · have h := aw_neg h c_16
                by_cases c_18 : r_2 = 61
                · have h := aw_pos h c_18
                  refine x_lin (pc := 4) (off := 124) 61 128 dX8_operatorIsOf_4 (by decide) c_18 (by decide) (by decide) ?_
                  refine x_iload_n (pc := 128) 1 dX8_operatorIsOf_128 rfl rfl ?_
                  refine x_iconst (pc := 129) (w := 2) dX8_operatorIsOf_129 ic_2 ?_
                  refine x_icmp_ne (pc := 130) 137 dX8_operatorIsOf_130 (by decide) (fun c_19 => ?_) (fun c_19 => ?_)
                  · have h := aw_neg h c_19
                    refine x_iconst (pc := 137) (w := 0) dX8_operatorIsOf_137 ic_0 ?_
                    obtain ⟨rfl, rfl⟩ := aw_so h
                    exact x_zret (pc := 138) aw_b0 dX8_operatorIsOf_138
                  · have h := aw_pos h c_19
                    refine x_iconst (pc := 133) (w := 1) dX8_operatorIsOf_133 ic_1 ?_
                    refine x_goto (pc := 134) 138 dX8_operatorIsOf_134 (by decide) ?_
                    obtain ⟨rfl, rfl⟩ := aw_so h
                    exact x_zret (pc := 138) aw_b1 dX8_operatorIsOf_138
                · have h := aw_neg h c_18
                  by_cases c_20 : r_2 = 62
                  · have h := aw_pos h c_20
                    refine x_lin (pc := 4) (off := 135) 62 139 dX8_operatorIsOf_4 (by decide) c_20 (by decide) (by decide) ?_
                    refine x_iload_n (pc := 139) 1 dX8_operatorIsOf_139 rfl rfl ?_
                    refine x_iconst (pc := 140) (w := 2) dX8_operatorIsOf_140 ic_2 ?_
                    refine x_icmp_ne (pc := 141) 148 dX8_operatorIsOf_141 (by decide) (fun c_21 => ?_) (fun c_21 => ?_)
                    · have h := aw_neg h c_21
                      refine x_iconst (pc := 148) (w := 0) dX8_operatorIsOf_148 ic_0 ?_
                      obtain ⟨rfl, rfl⟩ := aw_so h
                      exact x_zret (pc := 149) aw_b0 dX8_operatorIsOf_149
                    · have h := aw_pos h c_21
                      refine x_iconst (pc := 144) (w := 1) dX8_operatorIsOf_144 ic_1 ?_
                      refine x_goto (pc := 145) 149 dX8_operatorIsOf_145 (by decide) ?_
                      obtain ⟨rfl, rfl⟩ := aw_so h
                      exact x_zret (pc := 149) aw_b1 dX8_operatorIsOf_149
                  · have h := aw_neg h c_20
                    by_cases c_22 : r_2 = 124
                    · have h := aw_pos h c_22
                      refine x_lin (pc := 4) (off := 92) 124 96 dX8_operatorIsOf_4 (by decide) c_22 (by decide) (by decide) ?_
                      refine x_iload_n (pc := 96) 1 dX8_operatorIsOf_96 rfl rfl ?_
                      refine x_if_ne (pc := 97) 104 dX8_operatorIsOf_97 (by decide) (fun c_23 => ?_) (fun c_23 => ?_)
                      · have h := aw_neg h c_23
                        refine x_iconst (pc := 104) (w := 0) dX8_operatorIsOf_104 ic_0 ?_
                        obtain ⟨rfl, rfl⟩ := aw_so h
                        exact x_zret (pc := 105) aw_b0 dX8_operatorIsOf_105
                      · have h := aw_pos h c_23
                        refine x_iconst (pc := 100) (w := 1) dX8_operatorIsOf_100 ic_1 ?_
                        refine x_goto (pc := 101) 105 dX8_operatorIsOf_101 (by decide) ?_
                        obtain ⟨rfl, rfl⟩ := aw_so h
                        exact x_zret (pc := 105) aw_b1 dX8_operatorIsOf_105
                    · have h := aw_neg h c_22
                      refine x_lout (pc := 4) (off := 201) 205 dX8_operatorIsOf_4 (by decide) (by show Op.lookupswitch.offset [(37, 190), (38, 102), (42, 168), (43, 146), (45, 157), (47, 179), (60, 113), (61, 124), (62, 135), (124, 92)] _ _ = _; rw [lv_osw c_4 (a := 37) rfl, lv_osw c_6 (a := 38) rfl, lv_osw c_8 (a := 42) rfl, lv_osw c_10 (a := 43) rfl, lv_osw c_12 (a := 45) rfl, lv_osw c_14 (a := 47) rfl, lv_osw c_16 (a := 60) rfl, lv_osw c_18 (a := 61) rfl, lv_osw c_20 (a := 62) rfl, lv_osw c_22 (a := 124) rfl]; rfl) (by decide) ?_
                      refine x_iconst (pc := 205) (w := 0) dX8_operatorIsOf_205 ic_0 ?_
                      obtain ⟨rfl, rfl⟩ := aw_so h
                      exact x_zret (pc := 206) aw_b0 dX8_operatorIsOf_206
def fc_Te_readDenied (g_tc_Te_readSingle : Int32 → aw_M → Option (Int32 × aw_M)) (p1 : Int32) (M : aw_M) : Option (Int32 × aw_M) :=
  aw_bi (g_tc_Te_readSingle p1 M) fun r_2 M_3 => (
  if r_2 = 0 then (
    some (0, M_3)
  ) else (
    aw_bv (fc_Te_add (-33) M_3) fun M_6 => (
    some (1, M_6)
    )
  )
  )
set_option maxRecDepth 20000 in
theorem tc_Te_readDenied {l : Launch} {D : va_G} {cy : Nat → ClassId} {ad : Nat → Nat} {A : Nat → Prop} (d0 : Nat) (g_tc_Te_readSingle : Int32 → aw_M → Option (Int32 × aw_M)) (hg_tc_Te_readSingle : ∀ (d : Nat), d0 + 0 ≤ d → ∀ (p1 : Int32) (M : aw_M) (r : Int32) (M1 : aw_M), g_tc_Te_readSingle  p1 M = some (r, M1) → AX l D cy ad A gc_G yX8_readSingle cX8_readSingle 4 (some .boolean) d [.ref (ad 53), .int p1] M (some (.int r)) M1) (d : Nat) (hd : d0 + 1 ≤ d) (p1 : Int32) (M : aw_M) (r : Int32) (M1 : aw_M) (h : fc_Te_readDenied g_tc_Te_readSingle p1 M = some (r, M1)) : AX l D cy ad A gc_G yX8_readDenied cX8_readDenied 2 (some .boolean) d [.ref (ad 53), .int p1] M (some (.int r)) M1 := by
  have hd1 : (d - 1) + 1 ≤ d := by omega
  have hm1 : 1 ≤ d := by omega
  have hh_0 : 0 ≤ d - 1 := by omega
  have ho_0 : d0 + 0 ≤ d - 1 := by omega
  refine AX.of (own := RX8) (by decide +kernel) rfl (Nat.le_of_ble_eq_true rfl) ?_
  unfold fc_Te_readDenied at h
  show AW l D cy ad A gc_G RX8 cX8_readDenied 2 (some .boolean) d (some (.int r)) M1 0 [(0, .ref (ad 53)), (1, .int p1)] [] M
  refine x_aload_n (pc := 0) 0 dX8_readDenied_0 rfl rfl ?_
  refine x_iload_n (pc := 1) 1 dX8_readDenied_1 rfl rfl ?_
  obtain ⟨r_2, M_3, e_1, h⟩ := aw_bi_e h
  refine x_callV (pc := 2) (As := [.int p1]) (rest := []) (st' := [.int r_2]) (w := (some (.int r_2))) dX8_readDenied_2 cw_X8_48 hd1 gc_53 rfl rfl rfl (Nat.le_of_ble_eq_true rfl) (hg_tc_Te_readSingle (d - 1) ho_0 p1 _ _ _ e_1) rfl ?_
  refine x_if_ne (pc := 5) 10 dX8_readDenied_5 (by decide) (fun c_4 => ?_) (fun c_4 => ?_)
  · have h := aw_neg h c_4
    refine x_aload_n (pc := 10) 0 dX8_readDenied_10 rfl rfl ?_
    refine x_bipush (pc := 11) (w := (-33)) dX8_readDenied_11 bi_m33 ?_
    obtain ⟨M_6, e_5, h⟩ := aw_bv_e h
    refine x_callV (pc := 13) (As := [.int (-33)]) (rest := []) (st' := []) (w := none) dX8_readDenied_13 cw_X8_59 hd1 gc_53 rfl rfl rfl (Nat.le_of_ble_eq_true rfl) (tc_Te_add (d - 1) hh_0 (-33) _  _ e_5) rfl ?_
    refine x_iconst (pc := 16) (w := 1) dX8_readDenied_16 ic_1 ?_
    obtain ⟨rfl, rfl⟩ := aw_so h
    exact x_zret (pc := 17) aw_b1 dX8_readDenied_17
  · have h := aw_pos h c_4
    refine x_iconst (pc := 8) (w := 0) dX8_readDenied_8 ic_0 ?_
    obtain ⟨rfl, rfl⟩ := aw_so h
    exact x_zret (pc := 9) aw_b0 dX8_readDenied_9
def fc_Te_readEnclosed (g_tc_Te_readLevel : Int32 → Int32 → aw_M → Option (Int32 × aw_M)) (p1 : Int32) (M : aw_M) : Option (Int32 × aw_M) :=
  aw_bi (g_tc_Te_readLevel 0 p1 M) fun r_2 M_3 => (
  if r_2 = 0 then (
    some (0, M_3)
  ) else (
    aw_bi (fc_Te_here  M_3) fun r_6 M_7 => (
    if r_6 = 41 then (
      some (1, (aw_u M_7 53 3 ((M_7 53 3) + 1)))
    ) else (
      some (0, M_7)
    )
    )
  )
  )
set_option maxRecDepth 20000 in
theorem tc_Te_readEnclosed {l : Launch} {D : va_G} {cy : Nat → ClassId} {ad : Nat → Nat} {A : Nat → Prop} (d0 : Nat) (g_tc_Te_readLevel : Int32 → Int32 → aw_M → Option (Int32 × aw_M)) (hg_tc_Te_readLevel : ∀ (d : Nat), d0 + 0 ≤ d → ∀ (p1 : Int32) (p2 : Int32) (M : aw_M) (r : Int32) (M1 : aw_M), g_tc_Te_readLevel  p1 p2 M = some (r, M1) → AX l D cy ad A gc_G yX8_readLevel cX8_readLevel 6 (some .boolean) d [.ref (ad 53), .int p1, .int p2] M (some (.int r)) M1) (d : Nat) (hd : d0 + 1 ≤ d) (p1 : Int32) (M : aw_M) (r : Int32) (M1 : aw_M) (h : fc_Te_readEnclosed g_tc_Te_readLevel p1 M = some (r, M1)) : AX l D cy ad A gc_G yX8_readEnclosed cX8_readEnclosed 2 (some .boolean) d [.ref (ad 53), .int p1] M (some (.int r)) M1 := by
  have hd1 : (d - 1) + 1 ≤ d := by omega
  have hm1 : 1 ≤ d := by omega
  have hh_0 : 0 ≤ d - 1 := by omega
  have ho_0 : d0 + 0 ≤ d - 1 := by omega
  refine AX.of (own := RX8) (by decide +kernel) rfl (Nat.le_of_ble_eq_true rfl) ?_
  unfold fc_Te_readEnclosed at h
  show AW l D cy ad A gc_G RX8 cX8_readEnclosed 2 (some .boolean) d (some (.int r)) M1 0 [(0, .ref (ad 53)), (1, .int p1)] [] M
  refine x_aload_n (pc := 0) 0 dX8_readEnclosed_0 rfl rfl ?_
  refine x_iconst (pc := 1) (w := 0) dX8_readEnclosed_1 ic_0 ?_
  refine x_iload_n (pc := 2) 1 dX8_readEnclosed_2 rfl rfl ?_
  obtain ⟨r_2, M_3, e_1, h⟩ := aw_bi_e h
  refine x_callV (pc := 3) (As := [.int 0, .int p1]) (rest := []) (st' := [.int r_2]) (w := (some (.int r_2))) dX8_readEnclosed_3 cw_X8_44 hd1 gc_53 rfl rfl rfl (Nat.le_of_ble_eq_true rfl) (hg_tc_Te_readLevel (d - 1) ho_0 0 p1 _ _ _ e_1) rfl ?_
  refine x_if_eq (pc := 6) 18 dX8_readEnclosed_6 (by decide) (fun c_4 => ?_) (fun c_4 => ?_)
  · have h := aw_pos h c_4
    refine x_iconst (pc := 18) (w := 0) dX8_readEnclosed_18 ic_0 ?_
    obtain ⟨rfl, rfl⟩ := aw_so h
    exact x_zret (pc := 19) aw_b0 dX8_readEnclosed_19
  · have h := aw_neg h c_4
    refine x_aload_n (pc := 9) 0 dX8_readEnclosed_9 rfl rfl ?_
    obtain ⟨r_6, M_7, e_5, h⟩ := aw_bi_e h
    refine x_callV (pc := 10) (As := []) (rest := []) (st' := [.int r_6]) (w := (some (.int r_6))) dX8_readEnclosed_10 cw_X8_55 hd1 gc_53 rfl rfl rfl (Nat.le_of_ble_eq_true rfl) (tc_Te_here (d - 1) hh_0  _ _ _ e_5) rfl ?_
    refine x_bipush (pc := 13) (w := 41) dX8_readEnclosed_13 bi_41 ?_
    refine x_icmp_eq (pc := 15) 20 dX8_readEnclosed_15 (by decide) (fun c_8 => ?_) (fun c_8 => ?_)
    · have h := aw_pos h c_8
      refine x_aload_n (pc := 20) 0 dX8_readEnclosed_20 rfl rfl ?_
      refine x_dup (pc := 21) dX8_readEnclosed_21 rfl ?_
      refine x_get (pc := 22) dX8_readEnclosed_22 lk_X8_38 gc_53 rfl rfl ?_
      refine x_iconst (pc := 25) (w := 1) dX8_readEnclosed_25 ic_1 ?_
      refine x_iadd (pc := 26) dX8_readEnclosed_26 ?_
      refine x_put (pc := 27) (x := ((M_7 53 3) + 1)) dX8_readEnclosed_27 lk_X8_38 lp_X8_3 gc_53 rfl rfl rfl rfl ?_
      refine x_iconst (pc := 30) (w := 1) dX8_readEnclosed_30 ic_1 ?_
      obtain ⟨rfl, rfl⟩ := aw_so h
      exact x_zret (pc := 31) aw_b1 dX8_readEnclosed_31
    · have h := aw_neg h c_8
      refine x_iconst (pc := 18) (w := 0) dX8_readEnclosed_18 ic_0 ?_
      obtain ⟨rfl, rfl⟩ := aw_so h
      exact x_zret (pc := 19) aw_b0 dX8_readEnclosed_19
def fc_Te_readSingle_J40 (g_tc_Te_readLevel : Int32 → Int32 → aw_M → Option (Int32 × aw_M)) (g_tc_Te_readSingle : Int32 → aw_M → Option (Int32 × aw_M)) (p1 : Int32) (p2 : Int32) (p100 : Int32) (M : aw_M) : Option (Int32 × aw_M) :=
    if p100 < 0 then (
      if (5 : Int32) ≤ p1 then (
        some (0, M)
      ) else (
        if p2 = 33 then (
          if p2 = 33 then (
            aw_bi (fc_Te_readDenied g_tc_Te_readSingle (p1 + 1) (aw_u M 53 3 ((M 53 3) + 1))) fun r_25 M_26 => (
            if ¬ (r_25 = 0 ∨ r_25 = 1) then none else (
            some (r_25, M_26)
            )
            )
          ) else (
            aw_bi (fc_Te_readEnclosed g_tc_Te_readLevel (p1 + 1) (aw_u M 53 3 ((M 53 3) + 1))) fun r_21 M_22 => (
            if ¬ (r_21 = 0 ∨ r_21 = 1) then none else (
            some (r_21, M_22)
            )
            )
          )
        ) else (
          if p2 = 40 then (
            if p2 = 33 then (
              aw_bi (fc_Te_readDenied g_tc_Te_readSingle (p1 + 1) (aw_u M 53 3 ((M 53 3) + 1))) fun r_35 M_36 => (
              if ¬ (r_35 = 0 ∨ r_35 = 1) then none else (
              some (r_35, M_36)
              )
              )
            ) else (
              aw_bi (fc_Te_readEnclosed g_tc_Te_readLevel (p1 + 1) (aw_u M 53 3 ((M 53 3) + 1))) fun r_31 M_32 => (
              if ¬ (r_31 = 0 ∨ r_31 = 1) then none else (
              some (r_31, M_32)
              )
              )
            )
          ) else (
            some (0, M)
          )
        )
      )
    ) else (
      aw_bv (fc_Te_add ((-1) - p100) M) fun M_39 => (
      some (1, (aw_u M_39 53 3 ((M_39 53 3) + 1)))
      )
    )
set_option maxRecDepth 20000 in
theorem tc_Te_readSingle_J40 {l : Launch} {D : va_G} {cy : Nat → ClassId} {ad : Nat → Nat} {A : Nat → Prop} (d0 : Nat) (g_tc_Te_readLevel : Int32 → Int32 → aw_M → Option (Int32 × aw_M)) (g_tc_Te_readSingle : Int32 → aw_M → Option (Int32 × aw_M)) (hg_tc_Te_readLevel : ∀ (d : Nat), d0 + 0 ≤ d → ∀ (p1 : Int32) (p2 : Int32) (M : aw_M) (r : Int32) (M1 : aw_M), g_tc_Te_readLevel  p1 p2 M = some (r, M1) → AX l D cy ad A gc_G yX8_readLevel cX8_readLevel 6 (some .boolean) d [.ref (ad 53), .int p1, .int p2] M (some (.int r)) M1) (hg_tc_Te_readSingle : ∀ (d : Nat), d0 + 0 ≤ d → ∀ (p1 : Int32) (M : aw_M) (r : Int32) (M1 : aw_M), g_tc_Te_readSingle  p1 M = some (r, M1) → AX l D cy ad A gc_G yX8_readSingle cX8_readSingle 4 (some .boolean) d [.ref (ad 53), .int p1] M (some (.int r)) M1) (d : Nat) (hd : d0 + 7 ≤ d) (p1 : Int32) (p2 : Int32) (p100 : Int32) (M : aw_M) (r : Int32) (M1 : aw_M) (h : fc_Te_readSingle_J40 g_tc_Te_readLevel g_tc_Te_readSingle p1 p2 p100 M = some (r, M1)) : AW l D cy ad A gc_G RX8 cX8_readSingle 4 (some .boolean) d (some (.int r)) M1 40 [(0, .ref (ad 53)), (1, .int p1), (2, .int p2)] [.int p100] M := by
  have hd1 : (d - 1) + 1 ≤ d := by omega
  have hm1 : 1 ≤ d := by omega
  have hh_0 : 0 ≤ d - 1 := by omega
  have hh_1 : 1 ≤ d - 1 := by omega
  have hh_6 : 6 ≤ d - 1 := by omega
  have ho_1 : d0 + 1 ≤ d - 1 := by omega
  unfold fc_Te_readSingle_J40 at h
  refine x_istore_n (pc := 40) 3 [(3, .int p100), (0, .ref (ad 53)), (1, .int p1), (2, .int p2)] dX8_readSingle_40 rfl (by decide) rfl ?_
  refine x_iload_n (pc := 41) 3 dX8_readSingle_41 rfl rfl ?_
  refine x_if_lt (pc := 42) 64 dX8_readSingle_42 (by decide) (fun c_16 => ?_) (fun c_16 => ?_)
  · have h := aw_pos h c_16
    refine x_iload_n (pc := 64) 1 dX8_readSingle_64 rfl rfl ?_
    refine x_iconst (pc := 65) (w := 5) dX8_readSingle_65 ic_5 ?_
    refine x_icmp_ge (pc := 66) 81 dX8_readSingle_66 (by decide) (fun c_17 => ?_) (fun c_17 => ?_)
    · have h := aw_pos h c_17
      refine x_iconst (pc := 81) (w := 0) dX8_readSingle_81 ic_0 ?_
      obtain ⟨rfl, rfl⟩ := aw_so h
      exact x_zret (pc := 82) aw_b0 dX8_readSingle_82
    · have h := aw_neg h c_17
      refine x_iload_n (pc := 69) 2 dX8_readSingle_69 rfl rfl ?_
      refine x_bipush (pc := 70) (w := 33) dX8_readSingle_70 bi_33 ?_
      refine x_icmp_eq (pc := 72) 83 dX8_readSingle_72 (by decide) (fun c_18 => ?_) (fun c_18 => ?_)
      · have h := aw_pos h c_18
        refine x_aload_n (pc := 83) 0 dX8_readSingle_83 rfl rfl ?_
        refine x_dup (pc := 84) dX8_readSingle_84 rfl ?_
        refine x_get (pc := 85) dX8_readSingle_85 lk_X8_38 gc_53 rfl rfl ?_
        refine x_iconst (pc := 88) (w := 1) dX8_readSingle_88 ic_1 ?_
        refine x_iadd (pc := 89) dX8_readSingle_89 ?_
        refine x_put (pc := 90) (x := ((M 53 3) + 1)) dX8_readSingle_90 lk_X8_38 lp_X8_3 gc_53 rfl rfl rfl rfl ?_
        refine x_iload_n (pc := 93) 2 dX8_readSingle_93 rfl rfl ?_
        refine x_bipush (pc := 94) (w := 33) dX8_readSingle_94 bi_33 ?_
        refine x_icmp_ne (pc := 96) 109 dX8_readSingle_96 (by decide) (fun c_19 => ?_) (fun c_19 => ?_)
        · have h := aw_neg h c_19
          refine x_aload_n (pc := 109) 0 dX8_readSingle_109 rfl rfl ?_
          refine x_iload_n (pc := 110) 1 dX8_readSingle_110 rfl rfl ?_
          refine x_iconst (pc := 111) (w := 1) dX8_readSingle_111 ic_1 ?_
          refine x_iadd (pc := 112) dX8_readSingle_112 ?_
          obtain ⟨r_21, M_22, e_20, h⟩ := aw_bi_e h
          refine x_callV (pc := 113) (As := [.int (p1 + 1)]) (rest := []) (st' := [.int r_21]) (w := (some (.int r_21))) dX8_readSingle_113 cw_X8_75 hd1 gc_53 rfl rfl rfl (Nat.le_of_ble_eq_true rfl) (tc_Te_readEnclosed d0 g_tc_Te_readLevel hg_tc_Te_readLevel (d - 1) ho_1 (p1 + 1) _ _ _ e_20) rfl ?_
          obtain ⟨c_23, h⟩ := aw_ck h
          obtain ⟨rfl, rfl⟩ := aw_so h
          exact x_zret (pc := 116) (aw_bo c_23) dX8_readSingle_116
        · have h := aw_pos h c_19
          refine x_aload_n (pc := 99) 0 dX8_readSingle_99 rfl rfl ?_
          refine x_iload_n (pc := 100) 1 dX8_readSingle_100 rfl rfl ?_
          refine x_iconst (pc := 101) (w := 1) dX8_readSingle_101 ic_1 ?_
          refine x_iadd (pc := 102) dX8_readSingle_102 ?_
          obtain ⟨r_25, M_26, e_24, h⟩ := aw_bi_e h
          refine x_callV (pc := 103) (As := [.int (p1 + 1)]) (rest := []) (st' := [.int r_25]) (w := (some (.int r_25))) dX8_readSingle_103 cw_X8_72 hd1 gc_53 rfl rfl rfl (Nat.le_of_ble_eq_true rfl) (tc_Te_readDenied d0 g_tc_Te_readSingle hg_tc_Te_readSingle (d - 1) ho_1 (p1 + 1) _ _ _ e_24) rfl ?_
          refine x_goto (pc := 106) 116 dX8_readSingle_106 (by decide) ?_
          obtain ⟨c_27, h⟩ := aw_ck h
          obtain ⟨rfl, rfl⟩ := aw_so h
          exact x_zret (pc := 116) (aw_bo c_27) dX8_readSingle_116
      · have h := aw_neg h c_18
        refine x_iload_n (pc := 75) 2 dX8_readSingle_75 rfl rfl ?_
        refine x_bipush (pc := 76) (w := 40) dX8_readSingle_76 bi_40 ?_
        refine x_icmp_eq (pc := 78) 83 dX8_readSingle_78 (by decide) (fun c_28 => ?_) (fun c_28 => ?_)
        · have h := aw_pos h c_28
          refine x_aload_n (pc := 83) 0 dX8_readSingle_83 rfl rfl ?_
          refine x_dup (pc := 84) dX8_readSingle_84 rfl ?_
          refine x_get (pc := 85) dX8_readSingle_85 lk_X8_38 gc_53 rfl rfl ?_
          refine x_iconst (pc := 88) (w := 1) dX8_readSingle_88 ic_1 ?_
          refine x_iadd (pc := 89) dX8_readSingle_89 ?_
          refine x_put (pc := 90) (x := ((M 53 3) + 1)) dX8_readSingle_90 lk_X8_38 lp_X8_3 gc_53 rfl rfl rfl rfl ?_
          refine x_iload_n (pc := 93) 2 dX8_readSingle_93 rfl rfl ?_
          refine x_bipush (pc := 94) (w := 33) dX8_readSingle_94 bi_33 ?_
          refine x_icmp_ne (pc := 96) 109 dX8_readSingle_96 (by decide) (fun c_29 => ?_) (fun c_29 => ?_)
          · have h := aw_neg h c_29
            refine x_aload_n (pc := 109) 0 dX8_readSingle_109 rfl rfl ?_
            refine x_iload_n (pc := 110) 1 dX8_readSingle_110 rfl rfl ?_
            refine x_iconst (pc := 111) (w := 1) dX8_readSingle_111 ic_1 ?_
            refine x_iadd (pc := 112) dX8_readSingle_112 ?_
            obtain ⟨r_31, M_32, e_30, h⟩ := aw_bi_e h
            refine x_callV (pc := 113) (As := [.int (p1 + 1)]) (rest := []) (st' := [.int r_31]) (w := (some (.int r_31))) dX8_readSingle_113 cw_X8_75 hd1 gc_53 rfl rfl rfl (Nat.le_of_ble_eq_true rfl) (tc_Te_readEnclosed d0 g_tc_Te_readLevel hg_tc_Te_readLevel (d - 1) ho_1 (p1 + 1) _ _ _ e_30) rfl ?_
            obtain ⟨c_33, h⟩ := aw_ck h
            obtain ⟨rfl, rfl⟩ := aw_so h
            exact x_zret (pc := 116) (aw_bo c_33) dX8_readSingle_116
          · have h := aw_pos h c_29
            refine x_aload_n (pc := 99) 0 dX8_readSingle_99 rfl rfl ?_
            refine x_iload_n (pc := 100) 1 dX8_readSingle_100 rfl rfl ?_
            refine x_iconst (pc := 101) (w := 1) dX8_readSingle_101 ic_1 ?_
            refine x_iadd (pc := 102) dX8_readSingle_102 ?_
            obtain ⟨r_35, M_36, e_34, h⟩ := aw_bi_e h
            refine x_callV (pc := 103) (As := [.int (p1 + 1)]) (rest := []) (st' := [.int r_35]) (w := (some (.int r_35))) dX8_readSingle_103 cw_X8_72 hd1 gc_53 rfl rfl rfl (Nat.le_of_ble_eq_true rfl) (tc_Te_readDenied d0 g_tc_Te_readSingle hg_tc_Te_readSingle (d - 1) ho_1 (p1 + 1) _ _ _ e_34) rfl ?_
            refine x_goto (pc := 106) 116 dX8_readSingle_106 (by decide) ?_
            obtain ⟨c_37, h⟩ := aw_ck h
            obtain ⟨rfl, rfl⟩ := aw_so h
            exact x_zret (pc := 116) (aw_bo c_37) dX8_readSingle_116
        · have h := aw_neg h c_28
          refine x_iconst (pc := 81) (w := 0) dX8_readSingle_81 ic_0 ?_
          obtain ⟨rfl, rfl⟩ := aw_so h
          exact x_zret (pc := 82) aw_b0 dX8_readSingle_82
  · have h := aw_neg h c_16
    refine x_aload_n (pc := 45) 0 dX8_readSingle_45 rfl rfl ?_
    refine x_iconst (pc := 46) (w := (-1)) dX8_readSingle_46 ic_m1 ?_
    refine x_iload_n (pc := 47) 3 dX8_readSingle_47 rfl rfl ?_
    refine x_isub (pc := 48) dX8_readSingle_48 ?_
    obtain ⟨M_39, e_38, h⟩ := aw_bv_e h
    refine x_callV (pc := 49) (As := [.int ((-1) - p100)]) (rest := []) (st' := []) (w := none) dX8_readSingle_49 cw_X8_59 hd1 gc_53 rfl rfl rfl (Nat.le_of_ble_eq_true rfl) (tc_Te_add (d - 1) hh_0 ((-1) - p100) _  _ e_38) rfl ?_
    refine x_aload_n (pc := 52) 0 dX8_readSingle_52 rfl rfl ?_
    refine x_dup (pc := 53) dX8_readSingle_53 rfl ?_
    refine x_get (pc := 54) dX8_readSingle_54 lk_X8_38 gc_53 rfl rfl ?_
    refine x_iconst (pc := 57) (w := 1) dX8_readSingle_57 ic_1 ?_
    refine x_iadd (pc := 58) dX8_readSingle_58 ?_
    refine x_put (pc := 59) (x := ((M_39 53 3) + 1)) dX8_readSingle_59 lk_X8_38 lp_X8_3 gc_53 rfl rfl rfl rfl ?_
    refine x_iconst (pc := 62) (w := 1) dX8_readSingle_62 ic_1 ?_
    obtain ⟨rfl, rfl⟩ := aw_so h
    exact x_zret (pc := 63) aw_b1 dX8_readSingle_63
def fc_Te_readSingle (g_tc_Te_readLevel : Int32 → Int32 → aw_M → Option (Int32 × aw_M)) (g_tc_Te_readSingle : Int32 → aw_M → Option (Int32 × aw_M)) (p1 : Int32) (M : aw_M) : Option (Int32 × aw_M) :=
  aw_bi (fc_Te_here  M) fun r_2 M_3 => (
  if r_2 < 48 then (
    if (0 : Int32) ≤ r_2 then (
      aw_bi (fc_Js_indexOf (M_3 53 5) (aw_ch r_2) M_3) fun r_7 M_8 => (
      fc_Te_readSingle_J40 g_tc_Te_readLevel g_tc_Te_readSingle  p1 r_2 r_7 M_8
      )
    ) else (
      fc_Te_readSingle_J40 g_tc_Te_readLevel g_tc_Te_readSingle  p1 r_2 (-1) M_3
    )
  ) else (
    if (57 : Int32) < r_2 then (
      if (0 : Int32) ≤ r_2 then (
        aw_bi (fc_Js_indexOf (M_3 53 5) (aw_ch r_2) M_3) fun r_12 M_13 => (
        fc_Te_readSingle_J40 g_tc_Te_readLevel g_tc_Te_readSingle  p1 r_2 r_12 M_13
        )
      ) else (
        fc_Te_readSingle_J40 g_tc_Te_readLevel g_tc_Te_readSingle  p1 r_2 (-1) M_3
      )
    ) else (
      aw_bv (fc_Te_readNumber  M_3) fun M_15 => (
      some (1, M_15)
      )
    )
  )
  )
set_option maxRecDepth 20000 in
theorem tc_Te_readSingle {l : Launch} {D : va_G} {cy : Nat → ClassId} {ad : Nat → Nat} {A : Nat → Prop} (d0 : Nat) (g_tc_Te_readLevel : Int32 → Int32 → aw_M → Option (Int32 × aw_M)) (g_tc_Te_readSingle : Int32 → aw_M → Option (Int32 × aw_M)) (hg_tc_Te_readLevel : ∀ (d : Nat), d0 + 0 ≤ d → ∀ (p1 : Int32) (p2 : Int32) (M : aw_M) (r : Int32) (M1 : aw_M), g_tc_Te_readLevel  p1 p2 M = some (r, M1) → AX l D cy ad A gc_G yX8_readLevel cX8_readLevel 6 (some .boolean) d [.ref (ad 53), .int p1, .int p2] M (some (.int r)) M1) (hg_tc_Te_readSingle : ∀ (d : Nat), d0 + 0 ≤ d → ∀ (p1 : Int32) (M : aw_M) (r : Int32) (M1 : aw_M), g_tc_Te_readSingle  p1 M = some (r, M1) → AX l D cy ad A gc_G yX8_readSingle cX8_readSingle 4 (some .boolean) d [.ref (ad 53), .int p1] M (some (.int r)) M1) (d : Nat) (hd : d0 + 7 ≤ d) (p1 : Int32) (M : aw_M) (r : Int32) (M1 : aw_M) (h : fc_Te_readSingle g_tc_Te_readLevel g_tc_Te_readSingle p1 M = some (r, M1)) : AX l D cy ad A gc_G yX8_readSingle cX8_readSingle 4 (some .boolean) d [.ref (ad 53), .int p1] M (some (.int r)) M1 := by
  have hd1 : (d - 1) + 1 ≤ d := by omega
  have hm1 : 1 ≤ d := by omega
  have hh_0 : 0 ≤ d - 1 := by omega
  have hh_1 : 1 ≤ d - 1 := by omega
  have hh_6 : 6 ≤ d - 1 := by omega
  have ho_1 : d0 + 1 ≤ d - 1 := by omega
  refine AX.of (own := RX8) (by decide +kernel) rfl (Nat.le_of_ble_eq_true rfl) ?_
  unfold fc_Te_readSingle at h
  show AW l D cy ad A gc_G RX8 cX8_readSingle 4 (some .boolean) d (some (.int r)) M1 0 [(0, .ref (ad 53)), (1, .int p1)] [] M
  refine x_aload_n (pc := 0) 0 dX8_readSingle_0 rfl rfl ?_
  obtain ⟨r_2, M_3, e_1, h⟩ := aw_bi_e h
  refine x_callV (pc := 1) (As := []) (rest := []) (st' := [.int r_2]) (w := (some (.int r_2))) dX8_readSingle_1 cw_X8_55 hd1 gc_53 rfl rfl rfl (Nat.le_of_ble_eq_true rfl) (tc_Te_here (d - 1) hh_0  _ _ _ e_1) rfl ?_
  refine x_istore_n (pc := 4) 2 [(2, .int r_2), (0, .ref (ad 53)), (1, .int p1)] dX8_readSingle_4 rfl (by decide) rfl ?_
  refine x_iload_n (pc := 5) 2 dX8_readSingle_5 rfl rfl ?_
  refine x_bipush (pc := 6) (w := 48) dX8_readSingle_6 bi_48 ?_
  refine x_icmp_lt (pc := 8) 23 dX8_readSingle_8 (by decide) (fun c_4 => ?_) (fun c_4 => ?_)
  · have h := aw_pos h c_4
    refine x_iload_n (pc := 23) 2 dX8_readSingle_23 rfl rfl ?_
    refine x_if_ge (pc := 24) 31 dX8_readSingle_24 (by decide) (fun c_5 => ?_) (fun c_5 => ?_)
    · have h := aw_pos h c_5
      refine x_aload_n (pc := 31) 0 dX8_readSingle_31 rfl rfl ?_
      refine x_get (pc := 32) dX8_readSingle_32 lk_X8_20 gc_53 rfl rfl ?_
      refine x_iload_n (pc := 35) 2 dX8_readSingle_35 rfl rfl ?_
      refine x_i2c (pc := 36) dX8_readSingle_36 ?_
      obtain ⟨r_7, M_8, e_6, h⟩ := aw_bi_e h
      refine x_callJ (pc := 37) dX8_readSingle_37 cw_X8_66 (by omega) (Nat.le_of_ble_eq_true rfl) e_6 ?_
      refine x_lv [1, 2, 0] [(0, .ref (ad 53)), (1, .int p1), (2, .int r_2)] rfl ?_
      exact tc_Te_readSingle_J40 d0  g_tc_Te_readLevel g_tc_Te_readSingle hg_tc_Te_readLevel hg_tc_Te_readSingle d hd  p1 r_2 r_7 _ _ _ h
    · have h := aw_neg h c_5
      refine x_iconst (pc := 27) (w := (-1)) dX8_readSingle_27 ic_m1 ?_
      refine x_goto (pc := 28) 40 dX8_readSingle_28 (by decide) ?_
      refine x_lv [1, 2, 0] [(0, .ref (ad 53)), (1, .int p1), (2, .int r_2)] rfl ?_
      exact tc_Te_readSingle_J40 d0  g_tc_Te_readLevel g_tc_Te_readSingle hg_tc_Te_readLevel hg_tc_Te_readSingle d hd  p1 r_2 (-1) _ _ _ h
  · have h := aw_neg h c_4
    refine x_iload_n (pc := 11) 2 dX8_readSingle_11 rfl rfl ?_
    refine x_bipush (pc := 12) (w := 57) dX8_readSingle_12 bi_57 ?_
    refine x_icmp_gt (pc := 14) 23 dX8_readSingle_14 (by decide) (fun c_9 => ?_) (fun c_9 => ?_)
    · have h := aw_pos h c_9
      refine x_iload_n (pc := 23) 2 dX8_readSingle_23 rfl rfl ?_
      refine x_if_ge (pc := 24) 31 dX8_readSingle_24 (by decide) (fun c_10 => ?_) (fun c_10 => ?_)
      · have h := aw_pos h c_10
        refine x_aload_n (pc := 31) 0 dX8_readSingle_31 rfl rfl ?_
        refine x_get (pc := 32) dX8_readSingle_32 lk_X8_20 gc_53 rfl rfl ?_
        refine x_iload_n (pc := 35) 2 dX8_readSingle_35 rfl rfl ?_
        refine x_i2c (pc := 36) dX8_readSingle_36 ?_
        obtain ⟨r_12, M_13, e_11, h⟩ := aw_bi_e h
        refine x_callJ (pc := 37) dX8_readSingle_37 cw_X8_66 (by omega) (Nat.le_of_ble_eq_true rfl) e_11 ?_
        refine x_lv [1, 2, 0] [(0, .ref (ad 53)), (1, .int p1), (2, .int r_2)] rfl ?_
        exact tc_Te_readSingle_J40 d0  g_tc_Te_readLevel g_tc_Te_readSingle hg_tc_Te_readLevel hg_tc_Te_readSingle d hd  p1 r_2 r_12 _ _ _ h
      · have h := aw_neg h c_10
        refine x_iconst (pc := 27) (w := (-1)) dX8_readSingle_27 ic_m1 ?_
        refine x_goto (pc := 28) 40 dX8_readSingle_28 (by decide) ?_
        refine x_lv [1, 2, 0] [(0, .ref (ad 53)), (1, .int p1), (2, .int r_2)] rfl ?_
        exact tc_Te_readSingle_J40 d0  g_tc_Te_readLevel g_tc_Te_readSingle hg_tc_Te_readLevel hg_tc_Te_readSingle d hd  p1 r_2 (-1) _ _ _ h
    · have h := aw_neg h c_9
      refine x_aload_n (pc := 17) 0 dX8_readSingle_17 rfl rfl ?_
      obtain ⟨M_15, e_14, h⟩ := aw_bv_e h
      refine x_callV (pc := 18) (As := []) (rest := []) (st' := []) (w := none) dX8_readSingle_18 cw_X8_63 hd1 gc_53 rfl rfl rfl (Nat.le_of_ble_eq_true rfl) (tc_Te_readNumber (d - 1) hh_1  _  _ e_14) rfl ?_
      refine x_iconst (pc := 21) (w := 1) dX8_readSingle_21 ic_1 ?_
      obtain ⟨rfl, rfl⟩ := aw_so h
      exact x_zret (pc := 22) aw_b1 dX8_readSingle_22
def fc_Te_readLevel_L33 (g_tc_Te_readLevel : Int32 → Int32 → aw_M → Option (Int32 × aw_M)) (g_tc_Te_readSingle : Int32 → aw_M → Option (Int32 × aw_M)) : Nat → Int32 → Int32 → Int32 → Int32 → aw_M → Option (Int32 × aw_M)
  | 0, _, _, _, _, _ => none
  | n + 1, p1, p2, p3, p4, M =>
    if (50 : Int32) ≤ p4 then (
      some (1, M)
    ) else (
      if p3 = 0 then (
        some (1, M)
      ) else (
        aw_bi (fc_Te_here  M) fun r_16 M_17 => (
        aw_bi (g_tc_Te_readLevel (p1 + 1) p2 (aw_u M_17 53 3 ((M_17 53 3) + 1))) fun r_19 M_20 => (
        if r_19 = 0 then (
          some (0, M_20)
        ) else (
          aw_bv (fc_Te_add (-r_16) M_20) fun M_23 => (
          if p1 = 2 then (
            fc_Te_readLevel_L33 g_tc_Te_readLevel g_tc_Te_readSingle n p1 p2 0 (p4 + 1) M_23
          ) else (
            aw_bi (fc_Te_operatorIsOf p1 M_23) fun r_26 M_27 => (
            if r_26 = 0 then (
              fc_Te_readLevel_L33 g_tc_Te_readLevel g_tc_Te_readSingle n p1 p2 0 (p4 + 1) M_27
            ) else (
              fc_Te_readLevel_L33 g_tc_Te_readLevel g_tc_Te_readSingle n p1 p2 1 (p4 + 1) M_27
            )
            )
          )
          )
        )
        )
        )
      )
    )
theorem fc_Te_readLevel_L33_s (g_tc_Te_readLevel : Int32 → Int32 → aw_M → Option (Int32 × aw_M)) (g_tc_Te_readSingle : Int32 → aw_M → Option (Int32 × aw_M)) (n : Nat) (p1 : Int32) (p2 : Int32) (p3 : Int32) (p4 : Int32) (M : aw_M) : fc_Te_readLevel_L33 g_tc_Te_readLevel g_tc_Te_readSingle (n + 1) p1 p2 p3 p4 M = (
    if (50 : Int32) ≤ p4 then (
      some (1, M)
    ) else (
      if p3 = 0 then (
        some (1, M)
      ) else (
        aw_bi (fc_Te_here  M) fun r_16 M_17 => (
        aw_bi (g_tc_Te_readLevel (p1 + 1) p2 (aw_u M_17 53 3 ((M_17 53 3) + 1))) fun r_19 M_20 => (
        if r_19 = 0 then (
          some (0, M_20)
        ) else (
          aw_bv (fc_Te_add (-r_16) M_20) fun M_23 => (
          if p1 = 2 then (
            fc_Te_readLevel_L33 g_tc_Te_readLevel g_tc_Te_readSingle n p1 p2 0 (p4 + 1) M_23
          ) else (
            aw_bi (fc_Te_operatorIsOf p1 M_23) fun r_26 M_27 => (
            if r_26 = 0 then (
              fc_Te_readLevel_L33 g_tc_Te_readLevel g_tc_Te_readSingle n p1 p2 0 (p4 + 1) M_27
            ) else (
              fc_Te_readLevel_L33 g_tc_Te_readLevel g_tc_Te_readSingle n p1 p2 1 (p4 + 1) M_27
            )
            )
          )
          )
        )
        )
        )
      )
    )
    ) := rfl
set_option maxRecDepth 20000 in
theorem tc_Te_readLevel_L33 {l : Launch} {D : va_G} {cy : Nat → ClassId} {ad : Nat → Nat} {A : Nat → Prop} (d0 : Nat) (g_tc_Te_readLevel : Int32 → Int32 → aw_M → Option (Int32 × aw_M)) (g_tc_Te_readSingle : Int32 → aw_M → Option (Int32 × aw_M)) (hg_tc_Te_readLevel : ∀ (d : Nat), d0 + 0 ≤ d → ∀ (p1 : Int32) (p2 : Int32) (M : aw_M) (r : Int32) (M1 : aw_M), g_tc_Te_readLevel  p1 p2 M = some (r, M1) → AX l D cy ad A gc_G yX8_readLevel cX8_readLevel 6 (some .boolean) d [.ref (ad 53), .int p1, .int p2] M (some (.int r)) M1) (hg_tc_Te_readSingle : ∀ (d : Nat), d0 + 0 ≤ d → ∀ (p1 : Int32) (M : aw_M) (r : Int32) (M1 : aw_M), g_tc_Te_readSingle  p1 M = some (r, M1) → AX l D cy ad A gc_G yX8_readSingle cX8_readSingle 4 (some .boolean) d [.ref (ad 53), .int p1] M (some (.int r)) M1) (d : Nat) (hd : d0 + 2 ≤ d) : ∀ (n : Nat) (p1 : Int32) (p2 : Int32) (p3 : Int32) (p4 : Int32) (M : aw_M) (r : Int32) (M1 : aw_M), fc_Te_readLevel_L33 g_tc_Te_readLevel g_tc_Te_readSingle n p1 p2 p3 p4 M = some (r, M1) → AW l D cy ad A gc_G RX8 cX8_readLevel 6 (some .boolean) d (some (.int r)) M1 33 [(0, .ref (ad 53)), (1, .int p1), (2, .int p2), (3, .int p3), (4, .int p4)] [] M := by
  have hd1 : (d - 1) + 1 ≤ d := by omega
  have hm1 : 1 ≤ d := by omega
  have hh_0 : 0 ≤ d - 1 := by omega
  have hh_1 : 1 ≤ d - 1 := by omega
  have ho_0 : d0 + 0 ≤ d - 1 := by omega
  intro n
  induction n with
  | zero => intro p1 p2 p3 p4 M r M1 h; cases h
  | succ n ih =>
    intro p1 p2 p3 p4 M r M1 h
    rw [fc_Te_readLevel_L33_s] at h
    refine x_iload (pc := 33) dX8_readLevel_33 rfl ?_
    refine x_bipush (pc := 35) (w := 50) dX8_readLevel_35 bi_50 ?_
    refine x_icmp_ge (pc := 37) 105 dX8_readLevel_37 (by decide) (fun c_13 => ?_) (fun c_13 => ?_)
    · have h := aw_pos h c_13
      refine x_iconst (pc := 105) (w := 1) dX8_readLevel_105 ic_1 ?_
      obtain ⟨rfl, rfl⟩ := aw_so h
      exact x_zret (pc := 106) aw_b1 dX8_readLevel_106
    · have h := aw_neg h c_13
      refine x_iload_n (pc := 40) 3 dX8_readLevel_40 rfl rfl ?_
      refine x_if_eq (pc := 41) 105 dX8_readLevel_41 (by decide) (fun c_14 => ?_) (fun c_14 => ?_)
      · have h := aw_pos h c_14
        refine x_iconst (pc := 105) (w := 1) dX8_readLevel_105 ic_1 ?_
        obtain ⟨rfl, rfl⟩ := aw_so h
        exact x_zret (pc := 106) aw_b1 dX8_readLevel_106
      · have h := aw_neg h c_14
        refine x_aload_n (pc := 44) 0 dX8_readLevel_44 rfl rfl ?_
        obtain ⟨r_16, M_17, e_15, h⟩ := aw_bi_e h
        refine x_callV (pc := 45) (As := []) (rest := []) (st' := [.int r_16]) (w := (some (.int r_16))) dX8_readLevel_45 cw_X8_55 hd1 gc_53 rfl rfl rfl (Nat.le_of_ble_eq_true rfl) (tc_Te_here (d - 1) hh_0  _ _ _ e_15) rfl ?_
        refine x_istore (pc := 48) 5 [(5, .int r_16), (0, .ref (ad 53)), (1, .int p1), (2, .int p2), (3, .int p3), (4, .int p4)] dX8_readLevel_48 (by decide) rfl ?_
        refine x_aload_n (pc := 50) 0 dX8_readLevel_50 rfl rfl ?_
        refine x_dup (pc := 51) dX8_readLevel_51 rfl ?_
        refine x_get (pc := 52) dX8_readLevel_52 lk_X8_38 gc_53 rfl rfl ?_
        refine x_iconst (pc := 55) (w := 1) dX8_readLevel_55 ic_1 ?_
        refine x_iadd (pc := 56) dX8_readLevel_56 ?_
        refine x_put (pc := 57) (x := ((M_17 53 3) + 1)) dX8_readLevel_57 lk_X8_38 lp_X8_3 gc_53 rfl rfl rfl rfl ?_
        refine x_aload_n (pc := 60) 0 dX8_readLevel_60 rfl rfl ?_
        refine x_iload_n (pc := 61) 1 dX8_readLevel_61 rfl rfl ?_
        refine x_iconst (pc := 62) (w := 1) dX8_readLevel_62 ic_1 ?_
        refine x_iadd (pc := 63) dX8_readLevel_63 ?_
        refine x_iload_n (pc := 64) 2 dX8_readLevel_64 rfl rfl ?_
        obtain ⟨r_19, M_20, e_18, h⟩ := aw_bi_e h
        refine x_callV (pc := 65) (As := [.int (p1 + 1), .int p2]) (rest := []) (st' := [.int r_19]) (w := (some (.int r_19))) dX8_readLevel_65 cw_X8_44 hd1 gc_53 rfl rfl rfl (Nat.le_of_ble_eq_true rfl) (hg_tc_Te_readLevel (d - 1) ho_0 (p1 + 1) p2 _ _ _ e_18) rfl ?_
        refine x_if_ne (pc := 68) 73 dX8_readLevel_68 (by decide) (fun c_21 => ?_) (fun c_21 => ?_)
        · have h := aw_neg h c_21
          refine x_aload_n (pc := 73) 0 dX8_readLevel_73 rfl rfl ?_
          refine x_iload (pc := 74) dX8_readLevel_74 rfl ?_
          refine x_ineg (pc := 76) dX8_readLevel_76 ?_
          obtain ⟨M_23, e_22, h⟩ := aw_bv_e h
          refine x_callV (pc := 77) (As := [.int (-r_16)]) (rest := []) (st' := []) (w := none) dX8_readLevel_77 cw_X8_59 hd1 gc_53 rfl rfl rfl (Nat.le_of_ble_eq_true rfl) (tc_Te_add (d - 1) hh_0 (-r_16) _  _ e_22) rfl ?_
          refine x_iload_n (pc := 80) 1 dX8_readLevel_80 rfl rfl ?_
          refine x_iconst (pc := 81) (w := 2) dX8_readLevel_81 ic_2 ?_
          refine x_icmp_eq (pc := 82) 97 dX8_readLevel_82 (by decide) (fun c_24 => ?_) (fun c_24 => ?_)
          · have h := aw_pos h c_24
            refine x_iconst (pc := 97) (w := 0) dX8_readLevel_97 ic_0 ?_
            refine x_istore_n (pc := 98) 3 [(3, .int 0), (5, .int r_16), (0, .ref (ad 53)), (1, .int p1), (2, .int p2), (4, .int p4)] dX8_readLevel_98 rfl (by decide) rfl ?_
            refine x_iinc (pc := 99) (p4 + 1) [(4, .int (p4 + 1)), (3, .int 0), (5, .int r_16), (0, .ref (ad 53)), (1, .int p1), (2, .int p2)] dX8_readLevel_99 rfl (congrArg (fun z => p4 + z) ic_1) (by decide) rfl ?_
            refine x_goto (pc := 102) 33 dX8_readLevel_102 (by decide) ?_
            refine x_lv [3, 4, 5, 1, 0] [(0, .ref (ad 53)), (1, .int p1), (2, .int p2), (3, .int 0), (4, .int (p4 + 1))] rfl ?_
            exact ih p1 p2 0 (p4 + 1) _ _ _ h
          · have h := aw_neg h c_24
            refine x_aload_n (pc := 85) 0 dX8_readLevel_85 rfl rfl ?_
            refine x_iload_n (pc := 86) 1 dX8_readLevel_86 rfl rfl ?_
            obtain ⟨r_26, M_27, e_25, h⟩ := aw_bi_e h
            refine x_callV (pc := 87) (As := [.int p1]) (rest := []) (st' := [.int r_26]) (w := (some (.int r_26))) dX8_readLevel_87 cw_X8_52 hd1 gc_53 rfl rfl rfl (Nat.le_of_ble_eq_true rfl) (tc_Te_operatorIsOf (d - 1) hh_1 p1 _ _ _ e_25) rfl ?_
            refine x_if_eq (pc := 90) 97 dX8_readLevel_90 (by decide) (fun c_28 => ?_) (fun c_28 => ?_)
            · have h := aw_pos h c_28
              refine x_iconst (pc := 97) (w := 0) dX8_readLevel_97 ic_0 ?_
              refine x_istore_n (pc := 98) 3 [(3, .int 0), (5, .int r_16), (0, .ref (ad 53)), (1, .int p1), (2, .int p2), (4, .int p4)] dX8_readLevel_98 rfl (by decide) rfl ?_
              refine x_iinc (pc := 99) (p4 + 1) [(4, .int (p4 + 1)), (3, .int 0), (5, .int r_16), (0, .ref (ad 53)), (1, .int p1), (2, .int p2)] dX8_readLevel_99 rfl (congrArg (fun z => p4 + z) ic_1) (by decide) rfl ?_
              refine x_goto (pc := 102) 33 dX8_readLevel_102 (by decide) ?_
              refine x_lv [3, 4, 5, 1, 0] [(0, .ref (ad 53)), (1, .int p1), (2, .int p2), (3, .int 0), (4, .int (p4 + 1))] rfl ?_
              exact ih p1 p2 0 (p4 + 1) _ _ _ h
            · have h := aw_neg h c_28
              refine x_iconst (pc := 93) (w := 1) dX8_readLevel_93 ic_1 ?_
              refine x_goto (pc := 94) 98 dX8_readLevel_94 (by decide) ?_
              refine x_istore_n (pc := 98) 3 [(3, .int 1), (5, .int r_16), (0, .ref (ad 53)), (1, .int p1), (2, .int p2), (4, .int p4)] dX8_readLevel_98 rfl (by decide) rfl ?_
              refine x_iinc (pc := 99) (p4 + 1) [(4, .int (p4 + 1)), (3, .int 1), (5, .int r_16), (0, .ref (ad 53)), (1, .int p1), (2, .int p2)] dX8_readLevel_99 rfl (congrArg (fun z => p4 + z) ic_1) (by decide) rfl ?_
              refine x_goto (pc := 102) 33 dX8_readLevel_102 (by decide) ?_
              refine x_lv [3, 4, 5, 1, 0] [(0, .ref (ad 53)), (1, .int p1), (2, .int p2), (3, .int 1), (4, .int (p4 + 1))] rfl ?_
              exact ih p1 p2 1 (p4 + 1) _ _ _ h
        · have h := aw_pos h c_21
          refine x_iconst (pc := 71) (w := 0) dX8_readLevel_71 ic_0 ?_
          obtain ⟨rfl, rfl⟩ := aw_so h
          exact x_zret (pc := 72) aw_b0 dX8_readLevel_72
def fc_Te_readLevel (g_tc_Te_readLevel : Int32 → Int32 → aw_M → Option (Int32 × aw_M)) (g_tc_Te_readSingle : Int32 → aw_M → Option (Int32 × aw_M)) (p1 : Int32) (p2 : Int32) (M : aw_M) : Option (Int32 × aw_M) :=
  if p1 < 5 then (
    aw_bi (g_tc_Te_readLevel (p1 + 1) p2 M) fun r_3 M_4 => (
    if r_3 = 0 then (
      some (0, M_4)
    ) else (
      aw_bi (fc_Te_operatorIsOf p1 M_4) fun r_7 M_8 => (
      fc_Te_readLevel_L33 g_tc_Te_readLevel g_tc_Te_readSingle  2000 p1 p2 r_7 0 M_8
      )
    )
    )
  ) else (
    aw_bi (g_tc_Te_readSingle p2 M) fun r_10 M_11 => (
    if ¬ (r_10 = 0 ∨ r_10 = 1) then none else (
    some (r_10, M_11)
    )
    )
  )
set_option maxRecDepth 20000 in
theorem tc_Te_readLevel {l : Launch} {D : va_G} {cy : Nat → ClassId} {ad : Nat → Nat} {A : Nat → Prop} (d0 : Nat) (g_tc_Te_readLevel : Int32 → Int32 → aw_M → Option (Int32 × aw_M)) (g_tc_Te_readSingle : Int32 → aw_M → Option (Int32 × aw_M)) (hg_tc_Te_readLevel : ∀ (d : Nat), d0 + 0 ≤ d → ∀ (p1 : Int32) (p2 : Int32) (M : aw_M) (r : Int32) (M1 : aw_M), g_tc_Te_readLevel  p1 p2 M = some (r, M1) → AX l D cy ad A gc_G yX8_readLevel cX8_readLevel 6 (some .boolean) d [.ref (ad 53), .int p1, .int p2] M (some (.int r)) M1) (hg_tc_Te_readSingle : ∀ (d : Nat), d0 + 0 ≤ d → ∀ (p1 : Int32) (M : aw_M) (r : Int32) (M1 : aw_M), g_tc_Te_readSingle  p1 M = some (r, M1) → AX l D cy ad A gc_G yX8_readSingle cX8_readSingle 4 (some .boolean) d [.ref (ad 53), .int p1] M (some (.int r)) M1) (d : Nat) (hd : d0 + 2 ≤ d) (p1 : Int32) (p2 : Int32) (M : aw_M) (r : Int32) (M1 : aw_M) (h : fc_Te_readLevel g_tc_Te_readLevel g_tc_Te_readSingle p1 p2 M = some (r, M1)) : AX l D cy ad A gc_G yX8_readLevel cX8_readLevel 6 (some .boolean) d [.ref (ad 53), .int p1, .int p2] M (some (.int r)) M1 := by
  have hd1 : (d - 1) + 1 ≤ d := by omega
  have hm1 : 1 ≤ d := by omega
  have hh_0 : 0 ≤ d - 1 := by omega
  have hh_1 : 1 ≤ d - 1 := by omega
  have ho_0 : d0 + 0 ≤ d - 1 := by omega
  refine AX.of (own := RX8) (by decide +kernel) rfl (Nat.le_of_ble_eq_true rfl) ?_
  unfold fc_Te_readLevel at h
  show AW l D cy ad A gc_G RX8 cX8_readLevel 6 (some .boolean) d (some (.int r)) M1 0 [(0, .ref (ad 53)), (1, .int p1), (2, .int p2)] [] M
  refine x_iload_n (pc := 0) 1 dX8_readLevel_0 rfl rfl ?_
  refine x_iconst (pc := 1) (w := 5) dX8_readLevel_1 ic_5 ?_
  refine x_icmp_lt (pc := 2) 11 dX8_readLevel_2 (by decide) (fun c_1 => ?_) (fun c_1 => ?_)
  · have h := aw_pos h c_1
    refine x_aload_n (pc := 11) 0 dX8_readLevel_11 rfl rfl ?_
    refine x_iload_n (pc := 12) 1 dX8_readLevel_12 rfl rfl ?_
    refine x_iconst (pc := 13) (w := 1) dX8_readLevel_13 ic_1 ?_
    refine x_iadd (pc := 14) dX8_readLevel_14 ?_
    refine x_iload_n (pc := 15) 2 dX8_readLevel_15 rfl rfl ?_
    obtain ⟨r_3, M_4, e_2, h⟩ := aw_bi_e h
    refine x_callV (pc := 16) (As := [.int (p1 + 1), .int p2]) (rest := []) (st' := [.int r_3]) (w := (some (.int r_3))) dX8_readLevel_16 cw_X8_44 hd1 gc_53 rfl rfl rfl (Nat.le_of_ble_eq_true rfl) (hg_tc_Te_readLevel (d - 1) ho_0 (p1 + 1) p2 _ _ _ e_2) rfl ?_
    refine x_if_ne (pc := 19) 24 dX8_readLevel_19 (by decide) (fun c_5 => ?_) (fun c_5 => ?_)
    · have h := aw_neg h c_5
      refine x_aload_n (pc := 24) 0 dX8_readLevel_24 rfl rfl ?_
      refine x_iload_n (pc := 25) 1 dX8_readLevel_25 rfl rfl ?_
      obtain ⟨r_7, M_8, e_6, h⟩ := aw_bi_e h
      refine x_callV (pc := 26) (As := [.int p1]) (rest := []) (st' := [.int r_7]) (w := (some (.int r_7))) dX8_readLevel_26 cw_X8_52 hd1 gc_53 rfl rfl rfl (Nat.le_of_ble_eq_true rfl) (tc_Te_operatorIsOf (d - 1) hh_1 p1 _ _ _ e_6) rfl ?_
      refine x_istore_n (pc := 29) 3 [(3, .int r_7), (0, .ref (ad 53)), (1, .int p1), (2, .int p2)] dX8_readLevel_29 rfl (by decide) rfl ?_
      refine x_iconst (pc := 30) (w := 0) dX8_readLevel_30 ic_0 ?_
      refine x_istore (pc := 31) 4 [(4, .int 0), (3, .int r_7), (0, .ref (ad 53)), (1, .int p1), (2, .int p2)] dX8_readLevel_31 (by decide) rfl ?_
      refine x_lv [2, 3, 4, 1, 0] [(0, .ref (ad 53)), (1, .int p1), (2, .int p2), (3, .int r_7), (4, .int 0)] rfl ?_
      exact tc_Te_readLevel_L33 d0  g_tc_Te_readLevel g_tc_Te_readSingle hg_tc_Te_readLevel hg_tc_Te_readSingle d hd  2000 p1 p2 r_7 0 _ _ _ h
    · have h := aw_pos h c_5
      refine x_iconst (pc := 22) (w := 0) dX8_readLevel_22 ic_0 ?_
      obtain ⟨rfl, rfl⟩ := aw_so h
      exact x_zret (pc := 23) aw_b0 dX8_readLevel_23
  · have h := aw_neg h c_1
    refine x_aload_n (pc := 5) 0 dX8_readLevel_5 rfl rfl ?_
    refine x_iload_n (pc := 6) 2 dX8_readLevel_6 rfl rfl ?_
    obtain ⟨r_10, M_11, e_9, h⟩ := aw_bi_e h
    refine x_callV (pc := 7) (As := [.int p2]) (rest := []) (st' := [.int r_10]) (w := (some (.int r_10))) dX8_readLevel_7 cw_X8_48 hd1 gc_53 rfl rfl rfl (Nat.le_of_ble_eq_true rfl) (hg_tc_Te_readSingle (d - 1) ho_0 p2 _ _ _ e_9) rfl ?_
    obtain ⟨c_12, h⟩ := aw_ck h
    obtain ⟨rfl, rfl⟩ := aw_so h
    exact x_zret (pc := 10) (aw_bo c_12) dX8_readLevel_10
