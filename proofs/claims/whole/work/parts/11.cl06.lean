def fc_LB_cheapestCure_L23 (K7 : Nat → Int32 → Int32 → Int32 → aw_M → Option (Int32 × aw_M)) : Nat → Nat → Int32 → Int32 → Int32 → Int32 → aw_M → Option (Int32 × aw_M)
  | 0, _, _, _, _, _, _ => none
  | n + 1, i1, p2, p3, p4, p5, M =>
    if (100 : Int32) ≤ p5 then (
      K7 i1 p2 p3 (p4 + 1) M
    ) else (
      aw_bi (fc_LB_cureSeconds p4 ((aw_u (aw_u M 5 1 (p5 / 10)) 5 2 (aw_rem p5 10)) 5 1) ((aw_u (aw_u M 5 1 (p5 / 10)) 5 2 (aw_rem p5 10)) 5 2) (aw_u (aw_u M 5 1 (p5 / 10)) 5 2 (aw_rem p5 10))) fun r_6 M_7 => (
      if p2 < 0 then (
        aw_bi (fc_Ga_shows i1 2 M_7) fun r_10 M_11 => (
        if r_10 = 0 then (
          fc_LB_cheapestCure_L23 K7 n i1 ((1000 * p4) + p5) r_6 p4 (p5 + 1) M_11
        ) else (
          fc_LB_cheapestCure_L23 K7 n i1 p2 p3 p4 (p5 + 1) M_11
        )
        )
      ) else (
        if p3 ≤ r_6 then (
          fc_LB_cheapestCure_L23 K7 n i1 p2 p3 p4 (p5 + 1) M_7
        ) else (
          aw_bi (fc_Ga_shows i1 2 M_7) fun r_15 M_16 => (
          if r_15 = 0 then (
            fc_LB_cheapestCure_L23 K7 n i1 ((1000 * p4) + p5) r_6 p4 (p5 + 1) M_16
          ) else (
            fc_LB_cheapestCure_L23 K7 n i1 p2 p3 p4 (p5 + 1) M_16
          )
          )
        )
      )
      )
    )
theorem fc_LB_cheapestCure_L23_s (K7 : Nat → Int32 → Int32 → Int32 → aw_M → Option (Int32 × aw_M)) (n : Nat) (i1 : Nat) (p2 : Int32) (p3 : Int32) (p4 : Int32) (p5 : Int32) (M : aw_M) : fc_LB_cheapestCure_L23 K7 (n + 1) i1 p2 p3 p4 p5 M = (
    if (100 : Int32) ≤ p5 then (
      K7 i1 p2 p3 (p4 + 1) M
    ) else (
      aw_bi (fc_LB_cureSeconds p4 ((aw_u (aw_u M 5 1 (p5 / 10)) 5 2 (aw_rem p5 10)) 5 1) ((aw_u (aw_u M 5 1 (p5 / 10)) 5 2 (aw_rem p5 10)) 5 2) (aw_u (aw_u M 5 1 (p5 / 10)) 5 2 (aw_rem p5 10))) fun r_6 M_7 => (
      if p2 < 0 then (
        aw_bi (fc_Ga_shows i1 2 M_7) fun r_10 M_11 => (
        if r_10 = 0 then (
          fc_LB_cheapestCure_L23 K7 n i1 ((1000 * p4) + p5) r_6 p4 (p5 + 1) M_11
        ) else (
          fc_LB_cheapestCure_L23 K7 n i1 p2 p3 p4 (p5 + 1) M_11
        )
        )
      ) else (
        if p3 ≤ r_6 then (
          fc_LB_cheapestCure_L23 K7 n i1 p2 p3 p4 (p5 + 1) M_7
        ) else (
          aw_bi (fc_Ga_shows i1 2 M_7) fun r_15 M_16 => (
          if r_15 = 0 then (
            fc_LB_cheapestCure_L23 K7 n i1 ((1000 * p4) + p5) r_6 p4 (p5 + 1) M_16
          ) else (
            fc_LB_cheapestCure_L23 K7 n i1 p2 p3 p4 (p5 + 1) M_16
          )
          )
        )
      )
      )
    )
    ) := rfl
set_option maxRecDepth 20000 in
theorem tc_LB_cheapestCure_L23 {l : Launch} {D : va_G} {cy : Nat → ClassId} {ad : Nat → Nat} {A : Nat → Prop} (d : Nat) (hd : 5 ≤ d) (K7 : Nat → Int32 → Int32 → Int32 → aw_M → Option (Int32 × aw_M)) (hK7 : ∀ (i1 : Nat) (h1 : i1 < 6) (p2 : Int32) (p3 : Int32) (p4 : Int32) (M : aw_M) (r : Int32) (M1 : aw_M), K7  i1 p2 p3 p4 M = some (r, M1) → AW l D cy ad A gc_G RX9 cX9_cheapestCure 7 (some .int) d (some (.int r)) M1 7 [(0, .ref (ad 0)), (1, .ref (ad (39 + i1))), (2, .int p2), (3, .int p3), (4, .int p4)] [] M) : ∀ (n : Nat) (i1 : Nat) (h1 : i1 < 6) (p2 : Int32) (p3 : Int32) (p4 : Int32) (p5 : Int32) (M : aw_M) (r : Int32) (M1 : aw_M), fc_LB_cheapestCure_L23 K7 n i1 p2 p3 p4 p5 M = some (r, M1) → AW l D cy ad A gc_G RX9 cX9_cheapestCure 7 (some .int) d (some (.int r)) M1 23 [(0, .ref (ad 0)), (1, .ref (ad (39 + i1))), (2, .int p2), (3, .int p3), (4, .int p4), (5, .int p5)] [] M := by
  have hd1 : (d - 1) + 1 ≤ d := by omega
  have hm1 : 1 ≤ d := by omega
  have hh_1 : 1 ≤ d - 1 := by omega
  have hh_4 : 4 ≤ d - 1 := by omega
  intro n
  induction n with
  | zero => intro i1 h1 p2 p3 p4 p5 M r M1 h; cases h
  | succ n ih =>
    intro i1 h1 p2 p3 p4 p5 M r M1 h
    rw [fc_LB_cheapestCure_L23_s] at h
    refine x_iload (pc := 23) dX9_cheapestCure_23 rfl ?_
    refine x_bipush (pc := 25) (w := 100) dX9_cheapestCure_25 bi_100 ?_
    refine x_icmp_ge (pc := 27) 116 dX9_cheapestCure_27 (by decide) (fun c_4 => ?_) (fun c_4 => ?_)
    · have h := aw_pos h c_4
      refine x_iinc (pc := 116) (p4 + 1) [(4, .int (p4 + 1)), (0, .ref (ad 0)), (1, .ref (ad (39 + i1))), (2, .int p2), (3, .int p3), (5, .int p5)] dX9_cheapestCure_116 rfl (congrArg (fun z => p4 + z) ic_1) (by decide) rfl ?_
      refine x_goto (pc := 119) 7 dX9_cheapestCure_119 (by decide) ?_
      refine x_lv [1, 2, 3, 4, 0] [(0, .ref (ad 0)), (1, .ref (ad (39 + i1))), (2, .int p2), (3, .int p3), (4, .int (p4 + 1))] rfl ?_
      exact hK7 i1 h1 p2 p3 (p4 + 1) _ _ _ h
    · have h := aw_neg h c_4
      refine x_aload_n (pc := 30) 0 dX9_cheapestCure_30 rfl rfl ?_
      refine x_get (pc := 31) dX9_cheapestCure_31 lk_X9_26 gc_0 rfl rfl ?_
      refine x_iload (pc := 34) dX9_cheapestCure_34 rfl ?_
      refine x_bipush (pc := 36) (w := 10) dX9_cheapestCure_36 bi_10 ?_
      refine x_idiv (pc := 38) dX9_cheapestCure_38 (by decide) ?_
      refine x_put (pc := 39) (x := (p5 / 10)) dX9_cheapestCure_39 lk_X9_270 lp_X4_1 (gc_mach (i := 2) (by decide)) rfl rfl rfl rfl ?_
      refine x_aload_n (pc := 42) 0 dX9_cheapestCure_42 rfl rfl ?_
      refine x_get (pc := 43) dX9_cheapestCure_43 lk_X9_26 gc_0 rfl rfl ?_
      refine x_iload (pc := 46) dX9_cheapestCure_46 rfl ?_
      refine x_bipush (pc := 48) (w := 10) dX9_cheapestCure_48 bi_10 ?_
      refine x_irem (pc := 50) dX9_cheapestCure_50 (by decide) ?_
      refine x_put (pc := 51) (x := (aw_rem p5 10)) dX9_cheapestCure_51 lk_X9_364 lp_X4_2 (gc_mach (i := 2) (by decide)) rfl rfl rfl rfl ?_
      refine x_aload_n (pc := 54) 0 dX9_cheapestCure_54 rfl rfl ?_
      refine x_iload (pc := 55) dX9_cheapestCure_55 rfl ?_
      refine x_aload_n (pc := 57) 0 dX9_cheapestCure_57 rfl rfl ?_
      refine x_get (pc := 58) dX9_cheapestCure_58 lk_X9_26 gc_0 rfl rfl ?_
      refine x_get (pc := 61) dX9_cheapestCure_61 lk_X9_270 (gc_mach (i := 2) (by decide)) rfl rfl ?_
      refine x_aload_n (pc := 64) 0 dX9_cheapestCure_64 rfl rfl ?_
      refine x_get (pc := 65) dX9_cheapestCure_65 lk_X9_26 gc_0 rfl rfl ?_
      refine x_get (pc := 68) dX9_cheapestCure_68 lk_X9_364 (gc_mach (i := 2) (by decide)) rfl rfl ?_
      obtain ⟨r_6, M_7, e_5, h⟩ := aw_bi_e h
      refine x_callV (pc := 71) (As := [.int p4, .int ((aw_u (aw_u M 5 1 (p5 / 10)) 5 2 (aw_rem p5 10)) 5 1), .int ((aw_u (aw_u M 5 1 (p5 / 10)) 5 2 (aw_rem p5 10)) 5 2)]) (rest := []) (st' := [.int r_6]) (w := (some (.int r_6))) dX9_cheapestCure_71 cw_X9_238 hd1 gc_0 rfl rfl rfl (Nat.le_of_ble_eq_true rfl) (tc_LB_cureSeconds (d - 1) hh_1 p4 ((aw_u (aw_u M 5 1 (p5 / 10)) 5 2 (aw_rem p5 10)) 5 1) ((aw_u (aw_u M 5 1 (p5 / 10)) 5 2 (aw_rem p5 10)) 5 2) _ _ _ e_5) rfl ?_
      refine x_istore (pc := 74) 6 [(6, .int r_6), (0, .ref (ad 0)), (1, .ref (ad (39 + i1))), (2, .int p2), (3, .int p3), (4, .int p4), (5, .int p5)] dX9_cheapestCure_74 (by decide) rfl ?_
      refine x_iload_n (pc := 76) 2 dX9_cheapestCure_76 rfl rfl ?_
      refine x_if_lt (pc := 77) 86 dX9_cheapestCure_77 (by decide) (fun c_8 => ?_) (fun c_8 => ?_)
      · have h := aw_pos h c_8
        refine x_aload_n (pc := 86) 1 dX9_cheapestCure_86 rfl rfl ?_
        refine x_aload_n (pc := 87) 0 dX9_cheapestCure_87 rfl rfl ?_
        refine x_get (pc := 88) dX9_cheapestCure_88 lk_X9_26 gc_0 rfl rfl ?_
        obtain ⟨r_10, M_11, e_9, h⟩ := aw_bi_e h
        refine x_callV (pc := 91) (As := [.ref (ad 5)]) (rest := []) (st' := [.int r_10]) (w := (some (.int r_10))) dX9_cheapestCure_91 cw_X9_144 hd1 (gc_gauge (i := i1) h1) rfl rfl rfl (Nat.le_of_ble_eq_true rfl) (tc_Ga_shows (d - 1) hh_4 i1 h1 2 (by decide) _ _ _ e_9) rfl ?_
        refine x_if_ne (pc := 94) 110 dX9_cheapestCure_94 (by decide) (fun c_12 => ?_) (fun c_12 => ?_)
        · have h := aw_neg h c_12
          refine x_iinc (pc := 110) (p5 + 1) [(5, .int (p5 + 1)), (6, .int r_6), (0, .ref (ad 0)), (1, .ref (ad (39 + i1))), (2, .int p2), (3, .int p3), (4, .int p4)] dX9_cheapestCure_110 rfl (congrArg (fun z => p5 + z) ic_1) (by decide) rfl ?_
          refine x_goto (pc := 113) 23 dX9_cheapestCure_113 (by decide) ?_
          refine x_lv [2, 3, 4, 5, 6, 0] [(0, .ref (ad 0)), (1, .ref (ad (39 + i1))), (2, .int p2), (3, .int p3), (4, .int p4), (5, .int (p5 + 1))] rfl ?_
          exact ih i1 h1 p2 p3 p4 (p5 + 1) _ _ _ h
        · have h := aw_pos h c_12
          refine x_sipush (pc := 97) (w := 1000) dX9_cheapestCure_97 si_1000 ?_
          refine x_iload (pc := 100) dX9_cheapestCure_100 rfl ?_
          refine x_imul (pc := 102) dX9_cheapestCure_102 ?_
          refine x_iload (pc := 103) dX9_cheapestCure_103 rfl ?_
          refine x_iadd (pc := 105) dX9_cheapestCure_105 ?_
          refine x_istore_n (pc := 106) 2 [(2, .int ((1000 * p4) + p5)), (6, .int r_6), (0, .ref (ad 0)), (1, .ref (ad (39 + i1))), (3, .int p3), (4, .int p4), (5, .int p5)] dX9_cheapestCure_106 rfl (by decide) rfl ?_
          refine x_iload (pc := 107) dX9_cheapestCure_107 rfl ?_
          refine x_istore_n (pc := 109) 3 [(3, .int r_6), (2, .int ((1000 * p4) + p5)), (6, .int r_6), (0, .ref (ad 0)), (1, .ref (ad (39 + i1))), (4, .int p4), (5, .int p5)] dX9_cheapestCure_109 rfl (by decide) rfl ?_
          refine x_iinc (pc := 110) (p5 + 1) [(5, .int (p5 + 1)), (3, .int r_6), (2, .int ((1000 * p4) + p5)), (6, .int r_6), (0, .ref (ad 0)), (1, .ref (ad (39 + i1))), (4, .int p4)] dX9_cheapestCure_110 rfl (congrArg (fun z => p5 + z) ic_1) (by decide) rfl ?_
          refine x_goto (pc := 113) 23 dX9_cheapestCure_113 (by decide) ?_
          refine x_lv [4, 5, 2, 1, 6, 0] [(0, .ref (ad 0)), (1, .ref (ad (39 + i1))), (2, .int ((1000 * p4) + p5)), (3, .int r_6), (4, .int p4), (5, .int (p5 + 1))] rfl ?_
          exact ih i1 h1 ((1000 * p4) + p5) r_6 p4 (p5 + 1) _ _ _ h
      · have h := aw_neg h c_8
        refine x_iload (pc := 80) dX9_cheapestCure_80 rfl ?_
        refine x_iload_n (pc := 82) 3 dX9_cheapestCure_82 rfl rfl ?_
        refine x_icmp_ge (pc := 83) 110 dX9_cheapestCure_83 (by decide) (fun c_13 => ?_) (fun c_13 => ?_)
        · have h := aw_pos h c_13
          refine x_iinc (pc := 110) (p5 + 1) [(5, .int (p5 + 1)), (6, .int r_6), (0, .ref (ad 0)), (1, .ref (ad (39 + i1))), (2, .int p2), (3, .int p3), (4, .int p4)] dX9_cheapestCure_110 rfl (congrArg (fun z => p5 + z) ic_1) (by decide) rfl ?_
          refine x_goto (pc := 113) 23 dX9_cheapestCure_113 (by decide) ?_
          refine x_lv [2, 3, 4, 5, 6, 0] [(0, .ref (ad 0)), (1, .ref (ad (39 + i1))), (2, .int p2), (3, .int p3), (4, .int p4), (5, .int (p5 + 1))] rfl ?_
          exact ih i1 h1 p2 p3 p4 (p5 + 1) _ _ _ h
        · have h := aw_neg h c_13
          refine x_aload_n (pc := 86) 1 dX9_cheapestCure_86 rfl rfl ?_
          refine x_aload_n (pc := 87) 0 dX9_cheapestCure_87 rfl rfl ?_
          refine x_get (pc := 88) dX9_cheapestCure_88 lk_X9_26 gc_0 rfl rfl ?_
          obtain ⟨r_15, M_16, e_14, h⟩ := aw_bi_e h
          refine x_callV (pc := 91) (As := [.ref (ad 5)]) (rest := []) (st' := [.int r_15]) (w := (some (.int r_15))) dX9_cheapestCure_91 cw_X9_144 hd1 (gc_gauge (i := i1) h1) rfl rfl rfl (Nat.le_of_ble_eq_true rfl) (tc_Ga_shows (d - 1) hh_4 i1 h1 2 (by decide) _ _ _ e_14) rfl ?_
          refine x_if_ne (pc := 94) 110 dX9_cheapestCure_94 (by decide) (fun c_17 => ?_) (fun c_17 => ?_)
          · have h := aw_neg h c_17
            refine x_iinc (pc := 110) (p5 + 1) [(5, .int (p5 + 1)), (6, .int r_6), (0, .ref (ad 0)), (1, .ref (ad (39 + i1))), (2, .int p2), (3, .int p3), (4, .int p4)] dX9_cheapestCure_110 rfl (congrArg (fun z => p5 + z) ic_1) (by decide) rfl ?_
            refine x_goto (pc := 113) 23 dX9_cheapestCure_113 (by decide) ?_
            refine x_lv [2, 3, 4, 5, 6, 0] [(0, .ref (ad 0)), (1, .ref (ad (39 + i1))), (2, .int p2), (3, .int p3), (4, .int p4), (5, .int (p5 + 1))] rfl ?_
            exact ih i1 h1 p2 p3 p4 (p5 + 1) _ _ _ h
          · have h := aw_pos h c_17
            refine x_sipush (pc := 97) (w := 1000) dX9_cheapestCure_97 si_1000 ?_
            refine x_iload (pc := 100) dX9_cheapestCure_100 rfl ?_
            refine x_imul (pc := 102) dX9_cheapestCure_102 ?_
            refine x_iload (pc := 103) dX9_cheapestCure_103 rfl ?_
            refine x_iadd (pc := 105) dX9_cheapestCure_105 ?_
            refine x_istore_n (pc := 106) 2 [(2, .int ((1000 * p4) + p5)), (6, .int r_6), (0, .ref (ad 0)), (1, .ref (ad (39 + i1))), (3, .int p3), (4, .int p4), (5, .int p5)] dX9_cheapestCure_106 rfl (by decide) rfl ?_
            refine x_iload (pc := 107) dX9_cheapestCure_107 rfl ?_
            refine x_istore_n (pc := 109) 3 [(3, .int r_6), (2, .int ((1000 * p4) + p5)), (6, .int r_6), (0, .ref (ad 0)), (1, .ref (ad (39 + i1))), (4, .int p4), (5, .int p5)] dX9_cheapestCure_109 rfl (by decide) rfl ?_
            refine x_iinc (pc := 110) (p5 + 1) [(5, .int (p5 + 1)), (3, .int r_6), (2, .int ((1000 * p4) + p5)), (6, .int r_6), (0, .ref (ad 0)), (1, .ref (ad (39 + i1))), (4, .int p4)] dX9_cheapestCure_110 rfl (congrArg (fun z => p5 + z) ic_1) (by decide) rfl ?_
            refine x_goto (pc := 113) 23 dX9_cheapestCure_113 (by decide) ?_
            refine x_lv [4, 5, 2, 1, 6, 0] [(0, .ref (ad 0)), (1, .ref (ad (39 + i1))), (2, .int ((1000 * p4) + p5)), (3, .int r_6), (4, .int p4), (5, .int (p5 + 1))] rfl ?_
            exact ih i1 h1 ((1000 * p4) + p5) r_6 p4 (p5 + 1) _ _ _ h
def fc_LB_cheapestCure_L7 : Nat → Nat → Int32 → Int32 → Int32 → aw_M → Option (Int32 × aw_M)
  | 0, _, _, _, _, _ => none
  | n + 1, i1, p2, p3, p4, M =>
    if (8 : Int32) ≤ p4 then (
      some (p2, M)
    ) else (
      aw_bv (fc_LB_thinkOfDeeds p4 M) fun M_3 => (
      fc_LB_cheapestCure_L23 (fc_LB_cheapestCure_L7 n) 2000 i1 p2 p3 p4 0 M_3
      )
    )
theorem fc_LB_cheapestCure_L7_s (n : Nat) (i1 : Nat) (p2 : Int32) (p3 : Int32) (p4 : Int32) (M : aw_M) : fc_LB_cheapestCure_L7 (n + 1) i1 p2 p3 p4 M = (
    if (8 : Int32) ≤ p4 then (
      some (p2, M)
    ) else (
      aw_bv (fc_LB_thinkOfDeeds p4 M) fun M_3 => (
      fc_LB_cheapestCure_L23 (fc_LB_cheapestCure_L7 n) 2000 i1 p2 p3 p4 0 M_3
      )
    )
    ) := rfl
set_option maxRecDepth 20000 in
theorem tc_LB_cheapestCure_L7 {l : Launch} {D : va_G} {cy : Nat → ClassId} {ad : Nat → Nat} {A : Nat → Prop} (d : Nat) (hd : 5 ≤ d) : ∀ (n : Nat) (i1 : Nat) (h1 : i1 < 6) (p2 : Int32) (p3 : Int32) (p4 : Int32) (M : aw_M) (r : Int32) (M1 : aw_M), fc_LB_cheapestCure_L7 n i1 p2 p3 p4 M = some (r, M1) → AW l D cy ad A gc_G RX9 cX9_cheapestCure 7 (some .int) d (some (.int r)) M1 7 [(0, .ref (ad 0)), (1, .ref (ad (39 + i1))), (2, .int p2), (3, .int p3), (4, .int p4)] [] M := by
  have hd1 : (d - 1) + 1 ≤ d := by omega
  have hm1 : 1 ≤ d := by omega
  have hh_1 : 1 ≤ d - 1 := by omega
  have hh_4 : 4 ≤ d - 1 := by omega
  intro n
  induction n with
  | zero => intro i1 h1 p2 p3 p4 M r M1 h; cases h
  | succ n ih =>
    intro i1 h1 p2 p3 p4 M r M1 h
    rw [fc_LB_cheapestCure_L7_s] at h
    refine x_iload (pc := 7) dX9_cheapestCure_7 rfl ?_
    refine x_bipush (pc := 9) (w := 8) dX9_cheapestCure_9 bi_8 ?_
    refine x_icmp_ge (pc := 11) 122 dX9_cheapestCure_11 (by decide) (fun c_1 => ?_) (fun c_1 => ?_)
    · have h := aw_pos h c_1
      refine x_iload_n (pc := 122) 2 dX9_cheapestCure_122 rfl rfl ?_
      obtain ⟨rfl, rfl⟩ := aw_so h
      exact x_iret (pc := 123) dX9_cheapestCure_123
    · have h := aw_neg h c_1
      refine x_aload_n (pc := 14) 0 dX9_cheapestCure_14 rfl rfl ?_
      refine x_iload (pc := 15) dX9_cheapestCure_15 rfl ?_
      obtain ⟨M_3, e_2, h⟩ := aw_bv_e h
      refine x_callV (pc := 17) (As := [.int p4]) (rest := []) (st' := []) (w := none) dX9_cheapestCure_17 cw_X9_361 hd1 gc_0 rfl rfl rfl (Nat.le_of_ble_eq_true rfl) (tc_LB_thinkOfDeeds (d - 1) hh_1 p4 _  _ e_2) rfl ?_
      refine x_iconst (pc := 20) (w := 0) dX9_cheapestCure_20 ic_0 ?_
      refine x_istore (pc := 21) 5 [(5, .int 0), (0, .ref (ad 0)), (1, .ref (ad (39 + i1))), (2, .int p2), (3, .int p3), (4, .int p4)] dX9_cheapestCure_21 (by decide) rfl ?_
      refine x_lv [1, 2, 3, 4, 5, 0] [(0, .ref (ad 0)), (1, .ref (ad (39 + i1))), (2, .int p2), (3, .int p3), (4, .int p4), (5, .int 0)] rfl ?_
      exact tc_LB_cheapestCure_L23 d hd _ ih 2000 i1 h1 p2 p3 p4 0 _ _ _ h
def fc_LB_cheapestCure (i1 : Nat) (M : aw_M) : Option (Int32 × aw_M) :=
  fc_LB_cheapestCure_L7  2000 i1 (-1) 0 0 M
set_option maxRecDepth 20000 in
theorem tc_LB_cheapestCure {l : Launch} {D : va_G} {cy : Nat → ClassId} {ad : Nat → Nat} {A : Nat → Prop} (d : Nat) (hd : 5 ≤ d) (i1 : Nat) (h1 : i1 < 6) (M : aw_M) (r : Int32) (M1 : aw_M) (h : fc_LB_cheapestCure i1 M = some (r, M1)) : AX l D cy ad A gc_G yX9_cheapestCure cX9_cheapestCure 7 (some .int) d [.ref (ad 0), .ref (ad (39 + i1))] M (some (.int r)) M1 := by
  have hd1 : (d - 1) + 1 ≤ d := by omega
  have hm1 : 1 ≤ d := by omega
  have hh_1 : 1 ≤ d - 1 := by omega
  have hh_4 : 4 ≤ d - 1 := by omega
  refine AX.of (own := RX9) (by decide +kernel) rfl (Nat.le_of_ble_eq_true rfl) ?_
  unfold fc_LB_cheapestCure at h
  show AW l D cy ad A gc_G RX9 cX9_cheapestCure 7 (some .int) d (some (.int r)) M1 0 [(0, .ref (ad 0)), (1, .ref (ad (39 + i1)))] [] M
  refine x_iconst (pc := 0) (w := (-1)) dX9_cheapestCure_0 ic_m1 ?_
  refine x_istore_n (pc := 1) 2 [(2, .int (-1)), (0, .ref (ad 0)), (1, .ref (ad (39 + i1)))] dX9_cheapestCure_1 rfl (by decide) rfl ?_
  refine x_iconst (pc := 2) (w := 0) dX9_cheapestCure_2 ic_0 ?_
  refine x_istore_n (pc := 3) 3 [(3, .int 0), (2, .int (-1)), (0, .ref (ad 0)), (1, .ref (ad (39 + i1)))] dX9_cheapestCure_3 rfl (by decide) rfl ?_
  refine x_iconst (pc := 4) (w := 0) dX9_cheapestCure_4 ic_0 ?_
  refine x_istore (pc := 5) 4 [(4, .int 0), (3, .int 0), (2, .int (-1)), (0, .ref (ad 0)), (1, .ref (ad (39 + i1)))] dX9_cheapestCure_5 (by decide) rfl ?_
  refine x_lv [3, 4, 2, 1, 0] [(0, .ref (ad 0)), (1, .ref (ad (39 + i1))), (2, .int (-1)), (3, .int 0), (4, .int 0)] rfl ?_
  exact tc_LB_cheapestCure_L7 d hd  2000 i1 h1 (-1) 0 0 _ _ _ h
def fc_LB_isPart (p0 : Int32) (M : aw_M) : Option (Int32 × aw_M) :=
  if p0 = 0 then (
    some (1, M)
  ) else (
    if p0 = 1 then (
      some (1, M)
    ) else (
      some (0, M)
    )
  )
set_option maxRecDepth 20000 in
theorem tc_LB_isPart {l : Launch} {D : va_G} {cy : Nat → ClassId} {ad : Nat → Nat} {A : Nat → Prop} (d : Nat) (hd : 0 ≤ d) (p0 : Int32) (M : aw_M) (r : Int32) (M1 : aw_M) (h : fc_LB_isPart p0 M = some (r, M1)) : AX l D cy ad A gc_G yX9_isPart cX9_isPart 1 (some .boolean) d [.int p0] M (some (.int r)) M1 := by
  refine AX.of (own := RX9) (by decide +kernel) rfl (Nat.le_of_ble_eq_true rfl) ?_
  unfold fc_LB_isPart at h
  show AW l D cy ad A gc_G RX9 cX9_isPart 1 (some .boolean) d (some (.int r)) M1 0 [(0, .int p0)] [] M
  refine x_iload_n (pc := 0) 0 dX9_isPart_0 rfl rfl ?_
  refine x_if_eq (pc := 1) 9 dX9_isPart_1 (by decide) (fun c_1 => ?_) (fun c_1 => ?_)
  · have h := aw_pos h c_1
    refine x_iconst (pc := 9) (w := 1) dX9_isPart_9 ic_1 ?_
    refine x_goto (pc := 10) 14 dX9_isPart_10 (by decide) ?_
    obtain ⟨rfl, rfl⟩ := aw_so h
    exact x_zret (pc := 14) aw_b1 dX9_isPart_14
  · have h := aw_neg h c_1
    refine x_iload_n (pc := 4) 0 dX9_isPart_4 rfl rfl ?_
    refine x_iconst (pc := 5) (w := 1) dX9_isPart_5 ic_1 ?_
    refine x_icmp_ne (pc := 6) 13 dX9_isPart_6 (by decide) (fun c_2 => ?_) (fun c_2 => ?_)
    · have h := aw_neg h c_2
      refine x_iconst (pc := 13) (w := 0) dX9_isPart_13 ic_0 ?_
      obtain ⟨rfl, rfl⟩ := aw_so h
      exact x_zret (pc := 14) aw_b0 dX9_isPart_14
    · have h := aw_pos h c_2
      refine x_iconst (pc := 9) (w := 1) dX9_isPart_9 ic_1 ?_
      refine x_goto (pc := 10) 14 dX9_isPart_10 (by decide) ?_
      obtain ⟨rfl, rfl⟩ := aw_so h
      exact x_zret (pc := 14) aw_b1 dX9_isPart_14
def fc_LB_cure (p1 : Int32) (p2 : Int32) (M : aw_M) : Option (Int32 × aw_M) :=
  aw_bi (fc_LB_hasCloth p1 M) fun r_2 M_3 => (
  if r_2 = 0 then (
    fc_LB_error 1 M_3
  ) else (
    aw_bi (fc_LB_isPart p2 M_3) fun r_6 M_7 => (
    if r_6 = 0 then (
      fc_LB_error 1 M_7
    ) else (
      aw_br (fc_LB_gaugeOf p1 M_7) fun i_10 M_11 => (
      if 6 ≤ i_10 then none else (
      aw_bi (fc_LB_cheapestCure i_10 M_11) fun r_14 M_15 => (
      if (0 : Int32) ≤ r_14 then (
        if p2 = 1 then (
          some (r_14, M_15)
        ) else (
          fc_LB_cureSeconds (r_14 / 1000) (aw_rem (r_14 / 10) 10) (aw_rem r_14 10) M_15
        )
      ) else (
        fc_LB_error 2 M_15
      )
      )
      )
      )
    )
    )
  )
  )
set_option maxRecDepth 20000 in
theorem tc_LB_cure {l : Launch} {D : va_G} {cy : Nat → ClassId} {ad : Nat → Nat} {A : Nat → Prop} (d : Nat) (hd : 6 ≤ d) (p1 : Int32) (p2 : Int32) (M : aw_M) (r : Int32) (M1 : aw_M) (h : fc_LB_cure p1 p2 M = some (r, M1)) : AX l D cy ad A gc_G yX9_cure cX9_cure 4 (some .int) d [.ref (ad 0), .int p1, .int p2] M (some (.int r)) M1 := by
  have hd1 : (d - 1) + 1 ≤ d := by omega
  have hm1 : 1 ≤ d := by omega
  have hh_0 : 0 ≤ d - 1 := by omega
  have hh_1 : 1 ≤ d - 1 := by omega
  have hh_4 : 4 ≤ d - 1 := by omega
  have hh_5 : 5 ≤ d - 1 := by omega
  refine AX.of (own := RX9) (by decide +kernel) rfl (Nat.le_of_ble_eq_true rfl) ?_
  unfold fc_LB_cure at h
  show AW l D cy ad A gc_G RX9 cX9_cure 4 (some .int) d (some (.int r)) M1 0 [(0, .ref (ad 0)), (1, .int p1), (2, .int p2)] [] M
  refine x_aload_n (pc := 0) 0 dX9_cure_0 rfl rfl ?_
  refine x_iload_n (pc := 1) 1 dX9_cure_1 rfl rfl ?_
  obtain ⟨r_2, M_3, e_1, h⟩ := aw_bi_e h
  refine x_callV (pc := 2) (As := [.int p1]) (rest := []) (st' := [.int r_2]) (w := (some (.int r_2))) dX9_cure_2 cw_X9_112 hd1 gc_0 rfl rfl rfl (Nat.le_of_ble_eq_true rfl) (tc_LB_hasCloth (d - 1) hh_0 p1 _ _ _ e_1) rfl ?_
  refine x_if_eq (pc := 5) 15 dX9_cure_5 (by decide) (fun c_4 => ?_) (fun c_4 => ?_)
  · have h := aw_pos h c_4
    refine x_aload_n (pc := 15) 0 dX9_cure_15 rfl rfl ?_
    refine x_iconst (pc := 16) (w := 1) dX9_cure_16 ic_1 ?_
    refine x_callV (pc := 17) (As := [.int 1]) (rest := []) (st' := [.int r]) (w := (some (.int r))) dX9_cure_17 cw_X9_84 hd1 gc_0 rfl rfl rfl (Nat.le_of_ble_eq_true rfl) (tc_LB_error (d - 1) hh_0 1 _ _ _ h) rfl ?_
    exact x_iret (pc := 20) dX9_cure_20
  · have h := aw_neg h c_4
    refine x_iload_n (pc := 8) 2 dX9_cure_8 rfl rfl ?_
    obtain ⟨r_6, M_7, e_5, h⟩ := aw_bi_e h
    refine x_callS (pc := 9) (As := [.int p2]) (rest := []) (st' := [.int r_6]) (w := (some (.int r_6))) dX9_cure_9 cw_X9_232 hd1 rfl rfl (Nat.le_of_ble_eq_true rfl) (tc_LB_isPart (d - 1) hh_0 p2 _ _ _ e_5) rfl ?_
    refine x_if_ne (pc := 12) 21 dX9_cure_12 (by decide) (fun c_8 => ?_) (fun c_8 => ?_)
    · have h := aw_neg h c_8
      refine x_aload_n (pc := 21) 0 dX9_cure_21 rfl rfl ?_
      refine x_aload_n (pc := 22) 0 dX9_cure_22 rfl rfl ?_
      refine x_iload_n (pc := 23) 1 dX9_cure_23 rfl rfl ?_
      obtain ⟨i_10, M_11, e_9, h⟩ := aw_br_e h
      obtain ⟨c_12, h⟩ := aw_ck h
      refine x_callV (pc := 24) (As := [.int p1]) (rest := [.ref (ad 0)]) (st' := [.ref (ad (39 + i_10)), .ref (ad 0)]) (w := (some (.ref (ad (39 + i_10))))) dX9_cure_24 cw_X9_130 hd1 gc_0 rfl rfl rfl (Nat.le_of_ble_eq_true rfl) (tc_LB_gaugeOf (d - 1) hh_4 p1 _ _ _ e_9) rfl ?_
      obtain ⟨r_14, M_15, e_13, h⟩ := aw_bi_e h
      refine x_callV (pc := 27) (As := [.ref (ad (39 + i_10))]) (rest := []) (st' := [.int r_14]) (w := (some (.int r_14))) dX9_cure_27 cw_X9_235 hd1 gc_0 rfl rfl rfl (Nat.le_of_ble_eq_true rfl) (tc_LB_cheapestCure (d - 1) hh_5 i_10 (Nat.lt_of_not_le c_12) _ _ _ e_13) rfl ?_
      refine x_istore_n (pc := 30) 3 [(3, .int r_14), (0, .ref (ad 0)), (1, .int p1), (2, .int p2)] dX9_cure_30 rfl (by decide) rfl ?_
      refine x_iload_n (pc := 31) 3 dX9_cure_31 rfl rfl ?_
      refine x_if_ge (pc := 32) 41 dX9_cure_32 (by decide) (fun c_16 => ?_) (fun c_16 => ?_)
      · have h := aw_pos h c_16
        refine x_iload_n (pc := 41) 2 dX9_cure_41 rfl rfl ?_
        refine x_iconst (pc := 42) (w := 1) dX9_cure_42 ic_1 ?_
        refine x_icmp_ne (pc := 43) 50 dX9_cure_43 (by decide) (fun c_17 => ?_) (fun c_17 => ?_)
        · have h := aw_neg h c_17
          refine x_aload_n (pc := 50) 0 dX9_cure_50 rfl rfl ?_
          refine x_iload_n (pc := 51) 3 dX9_cure_51 rfl rfl ?_
          refine x_sipush (pc := 52) (w := 1000) dX9_cure_52 si_1000 ?_
          refine x_idiv (pc := 55) dX9_cure_55 (by decide) ?_
          refine x_iload_n (pc := 56) 3 dX9_cure_56 rfl rfl ?_
          refine x_bipush (pc := 57) (w := 10) dX9_cure_57 bi_10 ?_
          refine x_idiv (pc := 59) dX9_cure_59 (by decide) ?_
          refine x_bipush (pc := 60) (w := 10) dX9_cure_60 bi_10 ?_
          refine x_irem (pc := 62) dX9_cure_62 (by decide) ?_
          refine x_iload_n (pc := 63) 3 dX9_cure_63 rfl rfl ?_
          refine x_bipush (pc := 64) (w := 10) dX9_cure_64 bi_10 ?_
          refine x_irem (pc := 66) dX9_cure_66 (by decide) ?_
          refine x_callV (pc := 67) (As := [.int (r_14 / 1000), .int (aw_rem (r_14 / 10) 10), .int (aw_rem r_14 10)]) (rest := []) (st' := [.int r]) (w := (some (.int r))) dX9_cure_67 cw_X9_238 hd1 gc_0 rfl rfl rfl (Nat.le_of_ble_eq_true rfl) (tc_LB_cureSeconds (d - 1) hh_1 (r_14 / 1000) (aw_rem (r_14 / 10) 10) (aw_rem r_14 10) _ _ _ h) rfl ?_
          exact x_iret (pc := 70) dX9_cure_70
        · have h := aw_pos h c_17
          refine x_iload_n (pc := 46) 3 dX9_cure_46 rfl rfl ?_
          refine x_goto (pc := 47) 70 dX9_cure_47 (by decide) ?_
          obtain ⟨rfl, rfl⟩ := aw_so h
          exact x_iret (pc := 70) dX9_cure_70
      · have h := aw_neg h c_16
        refine x_aload_n (pc := 35) 0 dX9_cure_35 rfl rfl ?_
        refine x_iconst (pc := 36) (w := 2) dX9_cure_36 ic_2 ?_
        refine x_callV (pc := 37) (As := [.int 2]) (rest := []) (st' := [.int r]) (w := (some (.int r))) dX9_cure_37 cw_X9_84 hd1 gc_0 rfl rfl rfl (Nat.le_of_ble_eq_true rfl) (tc_LB_error (d - 1) hh_0 2 _ _ _ h) rfl ?_
        exact x_iret (pc := 40) dX9_cure_40
    · have h := aw_pos h c_8
      refine x_aload_n (pc := 15) 0 dX9_cure_15 rfl rfl ?_
      refine x_iconst (pc := 16) (w := 1) dX9_cure_16 ic_1 ?_
      refine x_callV (pc := 17) (As := [.int 1]) (rest := []) (st' := [.int r]) (w := (some (.int r))) dX9_cure_17 cw_X9_84 hd1 gc_0 rfl rfl rfl (Nat.le_of_ble_eq_true rfl) (tc_LB_error (d - 1) hh_0 1 _ _ _ h) rfl ?_
      exact x_iret (pc := 20) dX9_cure_20
def fc_LB_alone_L25 : Nat → Nat → Int32 → Int32 → aw_M → Option (Int32 × aw_M)
  | 0, _, _, _, _ => none
  | n + 1, i2, p3, p4, M =>
    if (7 : Int32) ≤ p4 then (
      some (p3, M)
    ) else (
      aw_bv (fc_Ma_copyFrom 2 0 M) fun M_11 => (
      aw_bi (fc_Ma_hasRoomFor 2 p4 M_11) fun r_13 M_14 => (
      if r_13 = 0 then (
        fc_LB_alone_L25 n i2 p3 (p4 + 1) M_14
      ) else (
        aw_bv (fc_Ma_follow 2 p4 M_14) fun M_17 => (
        aw_bi (fc_Ga_shows i2 2 M_17) fun r_19 M_20 => (
        if r_19 = 0 then (
          fc_LB_alone_L25 n i2 (p3 ||| (1 <<< (p4 &&& 31))) (p4 + 1) M_20
        ) else (
          fc_LB_alone_L25 n i2 p3 (p4 + 1) M_20
        )
        )
        )
      )
      )
      )
    )
theorem fc_LB_alone_L25_s (n : Nat) (i2 : Nat) (p3 : Int32) (p4 : Int32) (M : aw_M) : fc_LB_alone_L25 (n + 1) i2 p3 p4 M = (
    if (7 : Int32) ≤ p4 then (
      some (p3, M)
    ) else (
      aw_bv (fc_Ma_copyFrom 2 0 M) fun M_11 => (
      aw_bi (fc_Ma_hasRoomFor 2 p4 M_11) fun r_13 M_14 => (
      if r_13 = 0 then (
        fc_LB_alone_L25 n i2 p3 (p4 + 1) M_14
      ) else (
        aw_bv (fc_Ma_follow 2 p4 M_14) fun M_17 => (
        aw_bi (fc_Ga_shows i2 2 M_17) fun r_19 M_20 => (
        if r_19 = 0 then (
          fc_LB_alone_L25 n i2 (p3 ||| (1 <<< (p4 &&& 31))) (p4 + 1) M_20
        ) else (
          fc_LB_alone_L25 n i2 p3 (p4 + 1) M_20
        )
        )
        )
      )
      )
      )
    )
    ) := rfl
set_option maxRecDepth 20000 in
theorem tc_LB_alone_L25 {l : Launch} {D : va_G} {cy : Nat → ClassId} {ad : Nat → Nat} {A : Nat → Prop} (d : Nat) (hd : 5 ≤ d) : ∀ (n : Nat) (i2 : Nat) (h2 : i2 < 6) (p3 : Int32) (p4 : Int32) (M : aw_M) (r : Int32) (M1 : aw_M), fc_LB_alone_L25 n i2 p3 p4 M = some (r, M1) → AW l D cy ad A gc_G RX9 cX9_alone 5 (some .int) d (some (.int r)) M1 25 [(0, .ref (ad 0)), (2, .ref (ad (39 + i2))), (3, .int p3), (4, .int p4)] [] M := by
  have hd1 : (d - 1) + 1 ≤ d := by omega
  have hm1 : 1 ≤ d := by omega
  have hh_0 : 0 ≤ d - 1 := by omega
  have hh_4 : 4 ≤ d - 1 := by omega
  intro n
  induction n with
  | zero => intro i2 h2 p3 p4 M r M1 h; cases h
  | succ n ih =>
    intro i2 h2 p3 p4 M r M1 h
    rw [fc_LB_alone_L25_s] at h
    refine x_iload (pc := 25) dX9_alone_25 rfl ?_
    refine x_bipush (pc := 27) (w := 7) dX9_alone_27 bi_7 ?_
    refine x_icmp_ge (pc := 29) 91 dX9_alone_29 (by decide) (fun c_9 => ?_) (fun c_9 => ?_)
    · have h := aw_pos h c_9
      refine x_iload_n (pc := 91) 3 dX9_alone_91 rfl rfl ?_
      obtain ⟨rfl, rfl⟩ := aw_so h
      exact x_iret (pc := 92) dX9_alone_92
    · have h := aw_neg h c_9
      refine x_aload_n (pc := 32) 0 dX9_alone_32 rfl rfl ?_
      refine x_get (pc := 33) dX9_alone_33 lk_X9_26 gc_0 rfl rfl ?_
      refine x_aload_n (pc := 36) 0 dX9_alone_36 rfl rfl ?_
      refine x_get (pc := 37) dX9_alone_37 lk_X9_10 gc_0 rfl rfl ?_
      refine x_get (pc := 40) dX9_alone_40 lk_X9_87 gc_1 rfl rfl ?_
      obtain ⟨M_11, e_10, h⟩ := aw_bv_e h
      refine x_callV (pc := 43) (As := [.ref (ad 3)]) (rest := []) (st' := []) (w := none) dX9_alone_43 cw_X9_222 hd1 (gc_mach (i := 2) (by decide)) rfl rfl rfl (Nat.le_of_ble_eq_true rfl) (tc_Ma_copyFrom (d - 1) hh_0 2 (by decide) 0 (by decide) _  _ e_10) rfl ?_
      refine x_aload_n (pc := 46) 0 dX9_alone_46 rfl rfl ?_
      refine x_get (pc := 47) dX9_alone_47 lk_X9_26 gc_0 rfl rfl ?_
      refine x_iload (pc := 50) dX9_alone_50 rfl ?_
      obtain ⟨r_13, M_14, e_12, h⟩ := aw_bi_e h
      refine x_callV (pc := 52) (As := [.int p4]) (rest := []) (st' := [.int r_13]) (w := (some (.int r_13))) dX9_alone_52 cw_X9_207 hd1 (gc_mach (i := 2) (by decide)) rfl rfl rfl (Nat.le_of_ble_eq_true rfl) (tc_Ma_hasRoomFor (d - 1) hh_0 2 (by decide) p4 _ _ _ e_12) rfl ?_
      refine x_if_eq (pc := 55) 85 dX9_alone_55 (by decide) (fun c_15 => ?_) (fun c_15 => ?_)
      · have h := aw_pos h c_15
        refine x_iinc (pc := 85) (p4 + 1) [(4, .int (p4 + 1)), (0, .ref (ad 0)), (2, .ref (ad (39 + i2))), (3, .int p3)] dX9_alone_85 rfl (congrArg (fun z => p4 + z) ic_1) (by decide) rfl ?_
        refine x_goto (pc := 88) 25 dX9_alone_88 (by decide) ?_
        refine x_lv [1, 2, 3, 0] [(0, .ref (ad 0)), (2, .ref (ad (39 + i2))), (3, .int p3), (4, .int (p4 + 1))] rfl ?_
        exact ih i2 h2 p3 (p4 + 1) _ _ _ h
      · have h := aw_neg h c_15
        refine x_aload_n (pc := 58) 0 dX9_alone_58 rfl rfl ?_
        refine x_get (pc := 59) dX9_alone_59 lk_X9_26 gc_0 rfl rfl ?_
        refine x_iload (pc := 62) dX9_alone_62 rfl ?_
        obtain ⟨M_17, e_16, h⟩ := aw_bv_e h
        refine x_callV (pc := 64) (As := [.int p4]) (rest := []) (st' := []) (w := none) dX9_alone_64 cw_X9_242 hd1 (gc_mach (i := 2) (by decide)) rfl rfl rfl (Nat.le_of_ble_eq_true rfl) (tc_Ma_follow (d - 1) hh_0 2 (by decide) p4 _  _ e_16) rfl ?_
        refine x_aload_n (pc := 67) 2 dX9_alone_67 rfl rfl ?_
        refine x_aload_n (pc := 68) 0 dX9_alone_68 rfl rfl ?_
        refine x_get (pc := 69) dX9_alone_69 lk_X9_26 gc_0 rfl rfl ?_
        obtain ⟨r_19, M_20, e_18, h⟩ := aw_bi_e h
        refine x_callV (pc := 72) (As := [.ref (ad 5)]) (rest := []) (st' := [.int r_19]) (w := (some (.int r_19))) dX9_alone_72 cw_X9_144 hd1 (gc_gauge (i := i2) h2) rfl rfl rfl (Nat.le_of_ble_eq_true rfl) (tc_Ga_shows (d - 1) hh_4 i2 h2 2 (by decide) _ _ _ e_18) rfl ?_
        refine x_if_ne (pc := 75) 85 dX9_alone_75 (by decide) (fun c_21 => ?_) (fun c_21 => ?_)
        · have h := aw_neg h c_21
          refine x_iinc (pc := 85) (p4 + 1) [(4, .int (p4 + 1)), (0, .ref (ad 0)), (2, .ref (ad (39 + i2))), (3, .int p3)] dX9_alone_85 rfl (congrArg (fun z => p4 + z) ic_1) (by decide) rfl ?_
          refine x_goto (pc := 88) 25 dX9_alone_88 (by decide) ?_
          refine x_lv [1, 2, 3, 0] [(0, .ref (ad 0)), (2, .ref (ad (39 + i2))), (3, .int p3), (4, .int (p4 + 1))] rfl ?_
          exact ih i2 h2 p3 (p4 + 1) _ _ _ h
        · have h := aw_pos h c_21
          refine x_iload_n (pc := 78) 3 dX9_alone_78 rfl rfl ?_
          refine x_iconst (pc := 79) (w := 1) dX9_alone_79 ic_1 ?_
          refine x_iload (pc := 80) dX9_alone_80 rfl ?_
          refine x_ishl (pc := 82) dX9_alone_82 ?_
          refine x_ior (pc := 83) dX9_alone_83 ?_
          refine x_istore_n (pc := 84) 3 [(3, .int (p3 ||| (1 <<< (p4 &&& 31)))), (0, .ref (ad 0)), (2, .ref (ad (39 + i2))), (4, .int p4)] dX9_alone_84 rfl (by decide) rfl ?_
          refine x_iinc (pc := 85) (p4 + 1) [(4, .int (p4 + 1)), (3, .int (p3 ||| (1 <<< (p4 &&& 31)))), (0, .ref (ad 0)), (2, .ref (ad (39 + i2)))] dX9_alone_85 rfl (congrArg (fun z => p4 + z) ic_1) (by decide) rfl ?_
          refine x_goto (pc := 88) 25 dX9_alone_88 (by decide) ?_
          refine x_lv [2, 3, 1, 0] [(0, .ref (ad 0)), (2, .ref (ad (39 + i2))), (3, .int (p3 ||| (1 <<< (p4 &&& 31)))), (4, .int (p4 + 1))] rfl ?_
          exact ih i2 h2 (p3 ||| (1 <<< (p4 &&& 31))) (p4 + 1) _ _ _ h
def fc_LB_alone (p1 : Int32) (M : aw_M) : Option (Int32 × aw_M) :=
  aw_bi (fc_LB_hasCloth p1 M) fun r_2 M_3 => (
  if r_2 = 0 then (
    fc_LB_error 1 M_3
  ) else (
    aw_br (fc_LB_gaugeOf p1 M_3) fun i_6 M_7 => (
    if 6 ≤ i_6 then none else (
    fc_LB_alone_L25  2000 i_6 0 0 M_7
    )
    )
  )
  )
set_option maxRecDepth 20000 in
theorem tc_LB_alone {l : Launch} {D : va_G} {cy : Nat → ClassId} {ad : Nat → Nat} {A : Nat → Prop} (d : Nat) (hd : 5 ≤ d) (p1 : Int32) (M : aw_M) (r : Int32) (M1 : aw_M) (h : fc_LB_alone p1 M = some (r, M1)) : AX l D cy ad A gc_G yX9_alone cX9_alone 5 (some .int) d [.ref (ad 0), .int p1] M (some (.int r)) M1 := by
  have hd1 : (d - 1) + 1 ≤ d := by omega
  have hm1 : 1 ≤ d := by omega
  have hh_0 : 0 ≤ d - 1 := by omega
  have hh_4 : 4 ≤ d - 1 := by omega
  refine AX.of (own := RX9) (by decide +kernel) rfl (Nat.le_of_ble_eq_true rfl) ?_
  unfold fc_LB_alone at h
  show AW l D cy ad A gc_G RX9 cX9_alone 5 (some .int) d (some (.int r)) M1 0 [(0, .ref (ad 0)), (1, .int p1)] [] M
  refine x_aload_n (pc := 0) 0 dX9_alone_0 rfl rfl ?_
  refine x_iload_n (pc := 1) 1 dX9_alone_1 rfl rfl ?_
  obtain ⟨r_2, M_3, e_1, h⟩ := aw_bi_e h
  refine x_callV (pc := 2) (As := [.int p1]) (rest := []) (st' := [.int r_2]) (w := (some (.int r_2))) dX9_alone_2 cw_X9_112 hd1 gc_0 rfl rfl rfl (Nat.le_of_ble_eq_true rfl) (tc_LB_hasCloth (d - 1) hh_0 p1 _ _ _ e_1) rfl ?_
  refine x_if_ne (pc := 5) 14 dX9_alone_5 (by decide) (fun c_4 => ?_) (fun c_4 => ?_)
  · have h := aw_neg h c_4
    refine x_aload_n (pc := 14) 0 dX9_alone_14 rfl rfl ?_
    refine x_iload_n (pc := 15) 1 dX9_alone_15 rfl rfl ?_
    obtain ⟨i_6, M_7, e_5, h⟩ := aw_br_e h
    obtain ⟨c_8, h⟩ := aw_ck h
    refine x_callV (pc := 16) (As := [.int p1]) (rest := []) (st' := [.ref (ad (39 + i_6))]) (w := (some (.ref (ad (39 + i_6))))) dX9_alone_16 cw_X9_130 hd1 gc_0 rfl rfl rfl (Nat.le_of_ble_eq_true rfl) (tc_LB_gaugeOf (d - 1) hh_4 p1 _ _ _ e_5) rfl ?_
    refine x_astore_n (pc := 19) 2 [(2, .ref (ad (39 + i_6))), (0, .ref (ad 0)), (1, .int p1)] dX9_alone_19 rfl (by decide) rfl ?_
    refine x_iconst (pc := 20) (w := 0) dX9_alone_20 ic_0 ?_
    refine x_istore_n (pc := 21) 3 [(3, .int 0), (2, .ref (ad (39 + i_6))), (0, .ref (ad 0)), (1, .int p1)] dX9_alone_21 rfl (by decide) rfl ?_
    refine x_iconst (pc := 22) (w := 0) dX9_alone_22 ic_0 ?_
    refine x_istore (pc := 23) 4 [(4, .int 0), (3, .int 0), (2, .ref (ad (39 + i_6))), (0, .ref (ad 0)), (1, .int p1)] dX9_alone_23 (by decide) rfl ?_
    refine x_lv [3, 2, 1, 0] [(0, .ref (ad 0)), (2, .ref (ad (39 + i_6))), (3, .int 0), (4, .int 0)] rfl ?_
    exact tc_LB_alone_L25 d hd  2000 i_6 (Nat.lt_of_not_le c_8) 0 0 _ _ _ h
  · have h := aw_pos h c_4
    refine x_aload_n (pc := 8) 0 dX9_alone_8 rfl rfl ?_
    refine x_iconst (pc := 9) (w := 1) dX9_alone_9 ic_1 ?_
    refine x_callV (pc := 10) (As := [.int 1]) (rest := []) (st' := [.int r]) (w := (some (.int r))) dX9_alone_10 cw_X9_84 hd1 gc_0 rfl rfl rfl (Nat.le_of_ble_eq_true rfl) (tc_LB_error (d - 1) hh_0 1 _ _ _ h) rfl ?_
    exact x_iret (pc := 13) dX9_alone_13
def fc_LB_isSheet (p0 : Int32) (M : aw_M) : Option (Int32 × aw_M) :=
  if p0 < 0 then (
    some (0, M)
  ) else (
    if (4 : Int32) ≤ p0 then (
      some (0, M)
    ) else (
      some (1, M)
    )
  )
set_option maxRecDepth 20000 in
theorem tc_LB_isSheet {l : Launch} {D : va_G} {cy : Nat → ClassId} {ad : Nat → Nat} {A : Nat → Prop} (d : Nat) (hd : 0 ≤ d) (p0 : Int32) (M : aw_M) (r : Int32) (M1 : aw_M) (h : fc_LB_isSheet p0 M = some (r, M1)) : AX l D cy ad A gc_G yX9_isSheet cX9_isSheet 1 (some .boolean) d [.int p0] M (some (.int r)) M1 := by
  refine AX.of (own := RX9) (by decide +kernel) rfl (Nat.le_of_ble_eq_true rfl) ?_
  unfold fc_LB_isSheet at h
  show AW l D cy ad A gc_G RX9 cX9_isSheet 1 (some .boolean) d (some (.int r)) M1 0 [(0, .int p0)] [] M
  refine x_iload_n (pc := 0) 0 dX9_isSheet_0 rfl rfl ?_
  refine x_if_lt (pc := 1) 13 dX9_isSheet_1 (by decide) (fun c_1 => ?_) (fun c_1 => ?_)
  · have h := aw_pos h c_1
    refine x_iconst (pc := 13) (w := 0) dX9_isSheet_13 ic_0 ?_
    obtain ⟨rfl, rfl⟩ := aw_so h
    exact x_zret (pc := 14) aw_b0 dX9_isSheet_14
  · have h := aw_neg h c_1
    refine x_iload_n (pc := 4) 0 dX9_isSheet_4 rfl rfl ?_
    refine x_iconst (pc := 5) (w := 4) dX9_isSheet_5 ic_4 ?_
    refine x_icmp_ge (pc := 6) 13 dX9_isSheet_6 (by decide) (fun c_2 => ?_) (fun c_2 => ?_)
    · have h := aw_pos h c_2
      refine x_iconst (pc := 13) (w := 0) dX9_isSheet_13 ic_0 ?_
      obtain ⟨rfl, rfl⟩ := aw_so h
      exact x_zret (pc := 14) aw_b0 dX9_isSheet_14
    · have h := aw_neg h c_2
      refine x_iconst (pc := 9) (w := 1) dX9_isSheet_9 ic_1 ?_
      refine x_goto (pc := 10) 14 dX9_isSheet_10 (by decide) ?_
      obtain ⟨rfl, rfl⟩ := aw_so h
      exact x_zret (pc := 14) aw_b1 dX9_isSheet_14
def fc_LB_prepareGuesses  (M : aw_M) : Option aw_M :=
  aw_bv (fc_LB_refreshGauges  M) fun M_2 => (
  aw_bv (fc_Ma_copyFrom 2 0 M_2) fun M_4 => (
  some M_4
  )
  )
set_option maxRecDepth 20000 in
theorem tc_LB_prepareGuesses {l : Launch} {D : va_G} {cy : Nat → ClassId} {ad : Nat → Nat} {A : Nat → Prop} (d : Nat) (hd : 5 ≤ d)  (M : aw_M) (M1 : aw_M) (h : fc_LB_prepareGuesses  M = some M1) : AX l D cy ad A gc_G yX9_prepareGuesses cX9_prepareGuesses 1 none d [.ref (ad 0)] M none M1 := by
  have hd1 : (d - 1) + 1 ≤ d := by omega
  have hm1 : 1 ≤ d := by omega
  have hh_0 : 0 ≤ d - 1 := by omega
  have hh_4 : 4 ≤ d - 1 := by omega
  refine AX.of (own := RX9) (by decide +kernel) rfl (Nat.le_of_ble_eq_true rfl) ?_
  unfold fc_LB_prepareGuesses at h
  show AW l D cy ad A gc_G RX9 cX9_prepareGuesses 1 none d none M1 0 [(0, .ref (ad 0))] [] M
  refine x_aload_n (pc := 0) 0 dX9_prepareGuesses_0 rfl rfl ?_
  obtain ⟨M_2, e_1, h⟩ := aw_bv_e h
  refine x_callV (pc := 1) (As := []) (rest := []) (st' := []) (w := none) dX9_prepareGuesses_1 cw_X9_216 hd1 gc_0 rfl rfl rfl (Nat.le_of_ble_eq_true rfl) (tc_LB_refreshGauges (d - 1) hh_4  _  _ e_1) rfl ?_
  refine x_aload_n (pc := 4) 0 dX9_prepareGuesses_4 rfl rfl ?_
  refine x_get (pc := 5) dX9_prepareGuesses_5 lk_X9_26 gc_0 rfl rfl ?_
  refine x_aload_n (pc := 8) 0 dX9_prepareGuesses_8 rfl rfl ?_
  refine x_get (pc := 9) dX9_prepareGuesses_9 lk_X9_10 gc_0 rfl rfl ?_
  refine x_get (pc := 12) dX9_prepareGuesses_12 lk_X9_87 gc_1 rfl rfl ?_
  obtain ⟨M_4, e_3, h⟩ := aw_bv_e h
  refine x_callV (pc := 15) (As := [.ref (ad 3)]) (rest := []) (st' := []) (w := none) dX9_prepareGuesses_15 cw_X9_222 hd1 (gc_mach (i := 2) (by decide)) rfl rfl rfl (Nat.le_of_ble_eq_true rfl) (tc_Ma_copyFrom (d - 1) hh_0 2 (by decide) 0 (by decide) _  _ e_3) rfl ?_
  obtain rfl := aw_sv h
  exact x_vret (pc := 18) dX9_prepareGuesses_18
def fc_LB_showsAsTold_L2 : Nat → Nat → Int32 → aw_M → Option (Int32 × aw_M)
  | 0, _, _, _ => none
  | n + 1, i1, p2, M =>
    if (M 1 5) ≤ p2 then (
      some (1, M)
    ) else (
      if aw_in p2 40 then none else (
      if (M (63 + i1) p2.toNatClampNeg) < 0 then (
        fc_LB_showsAsTold_L2 n i1 (p2 + 1) M
      ) else (
        if aw_in p2 6 then none else (
        aw_bi (fc_Ga_shows p2.toNatClampNeg 2 M) fun r_6 M_7 => (
        if aw_in p2 40 then none else (
        if r_6 = (M_7 (63 + i1) p2.toNatClampNeg) then (
          fc_LB_showsAsTold_L2 n i1 (p2 + 1) M_7
        ) else (
          some (0, M_7)
        )
        )
        )
        )
      )
      )
    )
theorem fc_LB_showsAsTold_L2_s (n : Nat) (i1 : Nat) (p2 : Int32) (M : aw_M) : fc_LB_showsAsTold_L2 (n + 1) i1 p2 M = (
    if (M 1 5) ≤ p2 then (
      some (1, M)
    ) else (
      if aw_in p2 40 then none else (
      if (M (63 + i1) p2.toNatClampNeg) < 0 then (
        fc_LB_showsAsTold_L2 n i1 (p2 + 1) M
      ) else (
        if aw_in p2 6 then none else (
        aw_bi (fc_Ga_shows p2.toNatClampNeg 2 M) fun r_6 M_7 => (
        if aw_in p2 40 then none else (
        if r_6 = (M_7 (63 + i1) p2.toNatClampNeg) then (
          fc_LB_showsAsTold_L2 n i1 (p2 + 1) M_7
        ) else (
          some (0, M_7)
        )
        )
        )
        )
      )
      )
    )
    ) := rfl
set_option maxRecDepth 20000 in
theorem tc_LB_showsAsTold_L2 {l : Launch} {D : va_G} {cy : Nat → ClassId} {ad : Nat → Nat} {A : Nat → Prop} (d : Nat) (hd : 5 ≤ d) : ∀ (n : Nat) (i1 : Nat) (h1 : i1 < 4) (p2 : Int32) (M : aw_M) (r : Int32) (M1 : aw_M), fc_LB_showsAsTold_L2 n i1 p2 M = some (r, M1) → AW l D cy ad A gc_G RX9 cX9_showsAsTold 3 (some .boolean) d (some (.int r)) M1 2 [(0, .ref (ad 0)), (1, .ref (ad (59 + i1))), (2, .int p2)] [] M := by
  have hd1 : (d - 1) + 1 ≤ d := by omega
  have hm1 : 1 ≤ d := by omega
  have hh_4 : 4 ≤ d - 1 := by omega
  intro n
  induction n with
  | zero => intro i1 h1 p2 M r M1 h; cases h
  | succ n ih =>
    intro i1 h1 p2 M r M1 h
    rw [fc_LB_showsAsTold_L2_s] at h
    refine x_iload_n (pc := 2) 2 dX9_showsAsTold_2 rfl rfl ?_
    refine x_aload_n (pc := 3) 0 dX9_showsAsTold_3 rfl rfl ?_
    refine x_get (pc := 4) dX9_showsAsTold_4 lk_X9_10 gc_0 rfl rfl ?_
    refine x_get (pc := 7) dX9_showsAsTold_7 lk_X9_104 gc_1 rfl rfl ?_
    refine x_icmp_ge (pc := 10) 52 dX9_showsAsTold_10 (by decide) (fun c_1 => ?_) (fun c_1 => ?_)
    · have h := aw_pos h c_1
      refine x_iconst (pc := 52) (w := 1) dX9_showsAsTold_52 ic_1 ?_
      obtain ⟨rfl, rfl⟩ := aw_so h
      exact x_zret (pc := 53) aw_b1 dX9_showsAsTold_53
    · have h := aw_neg h c_1
      refine x_aload_n (pc := 13) 1 dX9_showsAsTold_13 rfl rfl ?_
      refine x_get (pc := 14) dX9_showsAsTold_14 lk_X9_324 (gc_sheet (i := i1) h1) rfl rfl ?_
      refine x_iload_n (pc := 17) 2 dX9_showsAsTold_17 rfl rfl ?_
      obtain ⟨c_2, h⟩ := aw_ck h
      refine x_iald (pc := 18) dX9_showsAsTold_18 (gc_nums (i := i1) h1) c_2 ?_
      refine x_if_lt (pc := 19) 46 dX9_showsAsTold_19 (by decide) (fun c_3 => ?_) (fun c_3 => ?_)
      · have h := aw_pos h c_3
        refine x_iinc (pc := 46) (p2 + 1) [(2, .int (p2 + 1)), (0, .ref (ad 0)), (1, .ref (ad (59 + i1)))] dX9_showsAsTold_46 rfl (congrArg (fun z => p2 + z) ic_1) (by decide) rfl ?_
        refine x_goto (pc := 49) 2 dX9_showsAsTold_49 (by decide) ?_
        refine x_lv [1, 2, 0] [(0, .ref (ad 0)), (1, .ref (ad (59 + i1))), (2, .int (p2 + 1))] rfl ?_
        exact ih i1 h1 (p2 + 1) _ _ _ h
      · have h := aw_neg h c_3
        refine x_aload_n (pc := 22) 0 dX9_showsAsTold_22 rfl rfl ?_
        refine x_get (pc := 23) dX9_showsAsTold_23 lk_X9_32 gc_0 rfl rfl ?_
        refine x_iload_n (pc := 26) 2 dX9_showsAsTold_26 rfl rfl ?_
        obtain ⟨c_4, h⟩ := aw_ck h
        refine x_aald (pc := 27) dX9_showsAsTold_27 gc_38 (fun _ => rfl) c_4 (ga_38 (aw_lt c_4)) ?_
        refine x_aload_n (pc := 28) 0 dX9_showsAsTold_28 rfl rfl ?_
        refine x_get (pc := 29) dX9_showsAsTold_29 lk_X9_26 gc_0 rfl rfl ?_
        obtain ⟨r_6, M_7, e_5, h⟩ := aw_bi_e h
        refine x_callV (pc := 32) (As := [.ref (ad 5)]) (rest := []) (st' := [.int r_6]) (w := (some (.int r_6))) dX9_showsAsTold_32 cw_X9_144 hd1 (gc_gauge (i := p2.toNatClampNeg) (aw_lt c_4)) rfl rfl rfl (Nat.le_of_ble_eq_true rfl) (tc_Ga_shows (d - 1) hh_4 p2.toNatClampNeg (aw_lt c_4) 2 (by decide) _ _ _ e_5) rfl ?_
        refine x_aload_n (pc := 35) 1 dX9_showsAsTold_35 rfl rfl ?_
        refine x_get (pc := 36) dX9_showsAsTold_36 lk_X9_324 (gc_sheet (i := i1) h1) rfl rfl ?_
        refine x_iload_n (pc := 39) 2 dX9_showsAsTold_39 rfl rfl ?_
        obtain ⟨c_8, h⟩ := aw_ck h
        refine x_iald (pc := 40) dX9_showsAsTold_40 (gc_nums (i := i1) h1) c_8 ?_
        refine x_icmp_eq (pc := 41) 46 dX9_showsAsTold_41 (by decide) (fun c_9 => ?_) (fun c_9 => ?_)
        · have h := aw_pos h c_9
          refine x_iinc (pc := 46) (p2 + 1) [(2, .int (p2 + 1)), (0, .ref (ad 0)), (1, .ref (ad (59 + i1)))] dX9_showsAsTold_46 rfl (congrArg (fun z => p2 + z) ic_1) (by decide) rfl ?_
          refine x_goto (pc := 49) 2 dX9_showsAsTold_49 (by decide) ?_
          refine x_lv [1, 2, 0] [(0, .ref (ad 0)), (1, .ref (ad (59 + i1))), (2, .int (p2 + 1))] rfl ?_
          exact ih i1 h1 (p2 + 1) _ _ _ h
        · have h := aw_neg h c_9
          refine x_iconst (pc := 44) (w := 0) dX9_showsAsTold_44 ic_0 ?_
          obtain ⟨rfl, rfl⟩ := aw_so h
          exact x_zret (pc := 45) aw_b0 dX9_showsAsTold_45
def fc_LB_showsAsTold (i1 : Nat) (M : aw_M) : Option (Int32 × aw_M) :=
  fc_LB_showsAsTold_L2  2000 i1 0 M
set_option maxRecDepth 20000 in
theorem tc_LB_showsAsTold {l : Launch} {D : va_G} {cy : Nat → ClassId} {ad : Nat → Nat} {A : Nat → Prop} (d : Nat) (hd : 5 ≤ d) (i1 : Nat) (h1 : i1 < 4) (M : aw_M) (r : Int32) (M1 : aw_M) (h : fc_LB_showsAsTold i1 M = some (r, M1)) : AX l D cy ad A gc_G yX9_showsAsTold cX9_showsAsTold 3 (some .boolean) d [.ref (ad 0), .ref (ad (59 + i1))] M (some (.int r)) M1 := by
  have hd1 : (d - 1) + 1 ≤ d := by omega
  have hm1 : 1 ≤ d := by omega
  have hh_4 : 4 ≤ d - 1 := by omega
  refine AX.of (own := RX9) (by decide +kernel) rfl (Nat.le_of_ble_eq_true rfl) ?_
  unfold fc_LB_showsAsTold at h
  show AW l D cy ad A gc_G RX9 cX9_showsAsTold 3 (some .boolean) d (some (.int r)) M1 0 [(0, .ref (ad 0)), (1, .ref (ad (59 + i1)))] [] M
  refine x_iconst (pc := 0) (w := 0) dX9_showsAsTold_0 ic_0 ?_
  refine x_istore_n (pc := 1) 2 [(2, .int 0), (0, .ref (ad 0)), (1, .ref (ad (59 + i1)))] dX9_showsAsTold_1 rfl (by decide) rfl ?_
  refine x_lv [1, 2, 0] [(0, .ref (ad 0)), (1, .ref (ad (59 + i1))), (2, .int 0)] rfl ?_
  exact tc_LB_showsAsTold_L2 d hd  2000 i1 h1 0 _ _ _ h
def fc_LB_tellsOfAllCloths (i1 : Nat) (M : aw_M) : Option (Int32 × aw_M) :=
  aw_bi (fc_Sh_isMissing i1 M) fun r_2 M_3 => (
  if r_2 = 0 then (
    if (M_3 (59 + i1) 2) = (M_3 1 5) then (
      some (1, M_3)
    ) else (
      some (0, M_3)
    )
  ) else (
    some (0, M_3)
  )
  )
set_option maxRecDepth 20000 in
theorem tc_LB_tellsOfAllCloths {l : Launch} {D : va_G} {cy : Nat → ClassId} {ad : Nat → Nat} {A : Nat → Prop} (d : Nat) (hd : 1 ≤ d) (i1 : Nat) (h1 : i1 < 4) (M : aw_M) (r : Int32) (M1 : aw_M) (h : fc_LB_tellsOfAllCloths i1 M = some (r, M1)) : AX l D cy ad A gc_G yX9_tellsOfAllCloths cX9_tellsOfAllCloths 2 (some .boolean) d [.ref (ad 0), .ref (ad (59 + i1))] M (some (.int r)) M1 := by
  have hd1 : (d - 1) + 1 ≤ d := by omega
  have hm1 : 1 ≤ d := by omega
  have hh_0 : 0 ≤ d - 1 := by omega
  refine AX.of (own := RX9) (by decide +kernel) rfl (Nat.le_of_ble_eq_true rfl) ?_
  unfold fc_LB_tellsOfAllCloths at h
  show AW l D cy ad A gc_G RX9 cX9_tellsOfAllCloths 2 (some .boolean) d (some (.int r)) M1 0 [(0, .ref (ad 0)), (1, .ref (ad (59 + i1)))] [] M
  refine x_aload_n (pc := 0) 1 dX9_tellsOfAllCloths_0 rfl rfl ?_
  obtain ⟨r_2, M_3, e_1, h⟩ := aw_bi_e h
  refine x_callV (pc := 1) (As := []) (rest := []) (st' := [.int r_2]) (w := (some (.int r_2))) dX9_tellsOfAllCloths_1 cw_X9_309 hd1 (gc_sheet (i := i1) h1) rfl rfl rfl (Nat.le_of_ble_eq_true rfl) (tc_Sh_isMissing (d - 1) hh_0 i1 h1 _ _ _ e_1) rfl ?_
  refine x_if_ne (pc := 4) 25 dX9_tellsOfAllCloths_4 (by decide) (fun c_4 => ?_) (fun c_4 => ?_)
  · have h := aw_neg h c_4
    refine x_iconst (pc := 25) (w := 0) dX9_tellsOfAllCloths_25 ic_0 ?_
    obtain ⟨rfl, rfl⟩ := aw_so h
    exact x_zret (pc := 26) aw_b0 dX9_tellsOfAllCloths_26
  · have h := aw_pos h c_4
    refine x_aload_n (pc := 7) 1 dX9_tellsOfAllCloths_7 rfl rfl ?_
    refine x_get (pc := 8) dX9_tellsOfAllCloths_8 lk_X9_313 (gc_sheet (i := i1) h1) rfl rfl ?_
    refine x_aload_n (pc := 11) 0 dX9_tellsOfAllCloths_11 rfl rfl ?_
    refine x_get (pc := 12) dX9_tellsOfAllCloths_12 lk_X9_10 gc_0 rfl rfl ?_
    refine x_get (pc := 15) dX9_tellsOfAllCloths_15 lk_X9_104 gc_1 rfl rfl ?_
    refine x_icmp_ne (pc := 18) 25 dX9_tellsOfAllCloths_18 (by decide) (fun c_5 => ?_) (fun c_5 => ?_)
    · have h := aw_neg h c_5
      refine x_iconst (pc := 25) (w := 0) dX9_tellsOfAllCloths_25 ic_0 ?_
      obtain ⟨rfl, rfl⟩ := aw_so h
      exact x_zret (pc := 26) aw_b0 dX9_tellsOfAllCloths_26
    · have h := aw_pos h c_5
      refine x_iconst (pc := 21) (w := 1) dX9_tellsOfAllCloths_21 ic_1 ?_
      refine x_goto (pc := 22) 26 dX9_tellsOfAllCloths_22 (by decide) ?_
      obtain ⟨rfl, rfl⟩ := aw_so h
      exact x_zret (pc := 26) aw_b1 dX9_tellsOfAllCloths_26
def fc_LB_canBe_L48 : Nat → Int32 → Int32 → Int32 → Int32 → aw_M → Option (Int32 × aw_M)
  | 0, _, _, _, _, _ => none
  | n + 1, p1, p2, p3, p4, M =>
    if (600 : Int32) ≤ p4 then (
      if p2 = 1 then (
        aw_bi (fc_LB_error 2 M) fun r_19 M_20 => (
        some (r_19, M_20)
        )
      ) else (
        some (p3, M)
      )
    ) else (
      aw_bv (fc_Ma_guess 2 p4 M) fun M_22 => (
      if aw_in p1 4 then none else (
      aw_bi (fc_LB_showsAsTold p1.toNatClampNeg M_22) fun r_25 M_26 => (
      if r_25 = 0 then (
        fc_LB_canBe_L48 n p1 p2 p3 (p4 + 1) M_26
      ) else (
        if p2 = 1 then (
          some (((1000 * (p4 / 300)) + (aw_rem p4 300)), M_26)
        ) else (
          fc_LB_canBe_L48 n p1 p2 (p3 + 1) (p4 + 1) M_26
        )
      )
      )
      )
      )
    )
theorem fc_LB_canBe_L48_s (n : Nat) (p1 : Int32) (p2 : Int32) (p3 : Int32) (p4 : Int32) (M : aw_M) : fc_LB_canBe_L48 (n + 1) p1 p2 p3 p4 M = (
    if (600 : Int32) ≤ p4 then (
      if p2 = 1 then (
        aw_bi (fc_LB_error 2 M) fun r_19 M_20 => (
        some (r_19, M_20)
        )
      ) else (
        some (p3, M)
      )
    ) else (
      aw_bv (fc_Ma_guess 2 p4 M) fun M_22 => (
      if aw_in p1 4 then none else (
      aw_bi (fc_LB_showsAsTold p1.toNatClampNeg M_22) fun r_25 M_26 => (
      if r_25 = 0 then (
        fc_LB_canBe_L48 n p1 p2 p3 (p4 + 1) M_26
      ) else (
        if p2 = 1 then (
          some (((1000 * (p4 / 300)) + (aw_rem p4 300)), M_26)
        ) else (
          fc_LB_canBe_L48 n p1 p2 (p3 + 1) (p4 + 1) M_26
        )
      )
      )
      )
      )
    )
    ) := rfl
set_option maxRecDepth 20000 in
theorem tc_LB_canBe_L48 {l : Launch} {D : va_G} {cy : Nat → ClassId} {ad : Nat → Nat} {A : Nat → Prop} (d : Nat) (hd : 6 ≤ d) : ∀ (n : Nat) (p1 : Int32) (p2 : Int32) (p3 : Int32) (p4 : Int32) (M : aw_M) (r : Int32) (M1 : aw_M), fc_LB_canBe_L48 n p1 p2 p3 p4 M = some (r, M1) → AW l D cy ad A gc_G RX9 cX9_canBe 5 (some .int) d (some (.int r)) M1 48 [(0, .ref (ad 0)), (1, .int p1), (2, .int p2), (3, .int p3), (4, .int p4)] [] M := by
  have hd1 : (d - 1) + 1 ≤ d := by omega
  have hm1 : 1 ≤ d := by omega
  have hh_0 : 0 ≤ d - 1 := by omega
  have hh_1 : 1 ≤ d - 1 := by omega
  have hh_5 : 5 ≤ d - 1 := by omega
  intro n
  induction n with
  | zero => intro p1 p2 p3 p4 M r M1 h; cases h
  | succ n ih =>
    intro p1 p2 p3 p4 M r M1 h
    rw [fc_LB_canBe_L48_s] at h
    refine x_iload (pc := 48) dX9_canBe_48 rfl ?_
    refine x_sipush (pc := 50) (w := 600) dX9_canBe_50 si_600 ?_
    refine x_icmp_ge (pc := 53) 110 dX9_canBe_53 (by decide) (fun c_16 => ?_) (fun c_16 => ?_)
    · have h := aw_pos h c_16
      refine x_iload_n (pc := 110) 2 dX9_canBe_110 rfl rfl ?_
      refine x_iconst (pc := 111) (w := 1) dX9_canBe_111 ic_1 ?_
      refine x_icmp_ne (pc := 112) 123 dX9_canBe_112 (by decide) (fun c_17 => ?_) (fun c_17 => ?_)
      · have h := aw_neg h c_17
        refine x_iload_n (pc := 123) 3 dX9_canBe_123 rfl rfl ?_
        obtain ⟨rfl, rfl⟩ := aw_so h
        exact x_iret (pc := 124) dX9_canBe_124
      · have h := aw_pos h c_17
        refine x_aload_n (pc := 115) 0 dX9_canBe_115 rfl rfl ?_
        refine x_iconst (pc := 116) (w := 2) dX9_canBe_116 ic_2 ?_
        obtain ⟨r_19, M_20, e_18, h⟩ := aw_bi_e h
        refine x_callV (pc := 117) (As := [.int 2]) (rest := []) (st' := [.int r_19]) (w := (some (.int r_19))) dX9_canBe_117 cw_X9_84 hd1 gc_0 rfl rfl rfl (Nat.le_of_ble_eq_true rfl) (tc_LB_error (d - 1) hh_0 2 _ _ _ e_18) rfl ?_
        refine x_goto (pc := 120) 124 dX9_canBe_120 (by decide) ?_
        obtain ⟨rfl, rfl⟩ := aw_so h
        exact x_iret (pc := 124) dX9_canBe_124
    · have h := aw_neg h c_16
      refine x_aload_n (pc := 56) 0 dX9_canBe_56 rfl rfl ?_
      refine x_get (pc := 57) dX9_canBe_57 lk_X9_26 gc_0 rfl rfl ?_
      refine x_iload (pc := 60) dX9_canBe_60 rfl ?_
      obtain ⟨M_22, e_21, h⟩ := aw_bv_e h
      refine x_callV (pc := 62) (As := [.int p4]) (rest := []) (st' := []) (w := none) dX9_canBe_62 cw_X9_253 hd1 (gc_mach (i := 2) (by decide)) rfl rfl rfl (Nat.le_of_ble_eq_true rfl) (tc_Ma_guess (d - 1) hh_0 2 (by decide) p4 _  _ e_21) rfl ?_
      refine x_aload_n (pc := 65) 0 dX9_canBe_65 rfl rfl ?_
      refine x_aload_n (pc := 66) 0 dX9_canBe_66 rfl rfl ?_
      refine x_get (pc := 67) dX9_canBe_67 lk_X9_72 gc_0 rfl rfl ?_
      refine x_iload_n (pc := 70) 1 dX9_canBe_70 rfl rfl ?_
      obtain ⟨c_23, h⟩ := aw_ck h
      refine x_aald (pc := 71) dX9_canBe_71 gc_58 (fun _ => rfl) c_23 (ga_58 (aw_lt c_23)) ?_
      obtain ⟨r_25, M_26, e_24, h⟩ := aw_bi_e h
      refine x_callV (pc := 72) (As := [.ref (ad (59 + p1.toNatClampNeg))]) (rest := []) (st' := [.int r_25]) (w := (some (.int r_25))) dX9_canBe_72 cw_X9_256 hd1 gc_0 rfl rfl rfl (Nat.le_of_ble_eq_true rfl) (tc_LB_showsAsTold (d - 1) hh_5 p1.toNatClampNeg (aw_lt c_23) _ _ _ e_24) rfl ?_
      refine x_if_eq (pc := 75) 104 dX9_canBe_75 (by decide) (fun c_27 => ?_) (fun c_27 => ?_)
      · have h := aw_pos h c_27
        refine x_iinc (pc := 104) (p4 + 1) [(4, .int (p4 + 1)), (0, .ref (ad 0)), (1, .int p1), (2, .int p2), (3, .int p3)] dX9_canBe_104 rfl (congrArg (fun z => p4 + z) ic_1) (by decide) rfl ?_
        refine x_goto (pc := 107) 48 dX9_canBe_107 (by decide) ?_
        refine x_lv [1, 2, 3, 4, 0] [(0, .ref (ad 0)), (1, .int p1), (2, .int p2), (3, .int p3), (4, .int (p4 + 1))] rfl ?_
        exact ih p1 p2 p3 (p4 + 1) _ _ _ h
      · have h := aw_neg h c_27
        refine x_iload_n (pc := 78) 2 dX9_canBe_78 rfl rfl ?_
        refine x_iconst (pc := 79) (w := 1) dX9_canBe_79 ic_1 ?_
        refine x_icmp_ne (pc := 80) 101 dX9_canBe_80 (by decide) (fun c_28 => ?_) (fun c_28 => ?_)
        · have h := aw_neg h c_28
          refine x_iinc (pc := 101) (p3 + 1) [(3, .int (p3 + 1)), (0, .ref (ad 0)), (1, .int p1), (2, .int p2), (4, .int p4)] dX9_canBe_101 rfl (congrArg (fun z => p3 + z) ic_1) (by decide) rfl ?_
          refine x_iinc (pc := 104) (p4 + 1) [(4, .int (p4 + 1)), (3, .int (p3 + 1)), (0, .ref (ad 0)), (1, .int p1), (2, .int p2)] dX9_canBe_104 rfl (congrArg (fun z => p4 + z) ic_1) (by decide) rfl ?_
          refine x_goto (pc := 107) 48 dX9_canBe_107 (by decide) ?_
          refine x_lv [2, 3, 4, 1, 0] [(0, .ref (ad 0)), (1, .int p1), (2, .int p2), (3, .int (p3 + 1)), (4, .int (p4 + 1))] rfl ?_
          exact ih p1 p2 (p3 + 1) (p4 + 1) _ _ _ h
        · have h := aw_pos h c_28
          refine x_sipush (pc := 83) (w := 1000) dX9_canBe_83 si_1000 ?_
          refine x_iload (pc := 86) dX9_canBe_86 rfl ?_
          refine x_sipush (pc := 88) (w := 300) dX9_canBe_88 si_300 ?_
          refine x_idiv (pc := 91) dX9_canBe_91 (by decide) ?_
          refine x_imul (pc := 92) dX9_canBe_92 ?_
          refine x_iload (pc := 93) dX9_canBe_93 rfl ?_
          refine x_sipush (pc := 95) (w := 300) dX9_canBe_95 si_300 ?_
          refine x_irem (pc := 98) dX9_canBe_98 (by decide) ?_
          refine x_iadd (pc := 99) dX9_canBe_99 ?_
          obtain ⟨rfl, rfl⟩ := aw_so h
          exact x_iret (pc := 100) dX9_canBe_100
def fc_LB_canBe (p1 : Int32) (p2 : Int32) (M : aw_M) : Option (Int32 × aw_M) :=
  aw_bi (fc_LB_isSheet p1 M) fun r_2 M_3 => (
  if r_2 = 0 then (
    fc_LB_error 1 M_3
  ) else (
    aw_bi (fc_LB_isPart p2 M_3) fun r_6 M_7 => (
    if r_6 = 0 then (
      fc_LB_error 1 M_7
    ) else (
      if aw_in p1 4 then none else (
      aw_bi (fc_LB_tellsOfAllCloths p1.toNatClampNeg M_7) fun r_11 M_12 => (
      if r_11 = 0 then (
        fc_LB_error 2 M_12
      ) else (
        aw_bv (fc_LB_prepareGuesses  M_12) fun M_15 => (
        fc_LB_canBe_L48  2000 p1 p2 0 0 M_15
        )
      )
      )
      )
    )
    )
  )
  )
set_option maxRecDepth 20000 in
theorem tc_LB_canBe {l : Launch} {D : va_G} {cy : Nat → ClassId} {ad : Nat → Nat} {A : Nat → Prop} (d : Nat) (hd : 6 ≤ d) (p1 : Int32) (p2 : Int32) (M : aw_M) (r : Int32) (M1 : aw_M) (h : fc_LB_canBe p1 p2 M = some (r, M1)) : AX l D cy ad A gc_G yX9_canBe cX9_canBe 5 (some .int) d [.ref (ad 0), .int p1, .int p2] M (some (.int r)) M1 := by
  have hd1 : (d - 1) + 1 ≤ d := by omega
  have hm1 : 1 ≤ d := by omega
  have hh_0 : 0 ≤ d - 1 := by omega
  have hh_1 : 1 ≤ d - 1 := by omega
  have hh_5 : 5 ≤ d - 1 := by omega
  refine AX.of (own := RX9) (by decide +kernel) rfl (Nat.le_of_ble_eq_true rfl) ?_
  unfold fc_LB_canBe at h
  show AW l D cy ad A gc_G RX9 cX9_canBe 5 (some .int) d (some (.int r)) M1 0 [(0, .ref (ad 0)), (1, .int p1), (2, .int p2)] [] M
  refine x_iload_n (pc := 0) 1 dX9_canBe_0 rfl rfl ?_
  obtain ⟨r_2, M_3, e_1, h⟩ := aw_bi_e h
  refine x_callS (pc := 1) (As := [.int p1]) (rest := []) (st' := [.int r_2]) (w := (some (.int r_2))) dX9_canBe_1 cw_X9_243 hd1 rfl rfl (Nat.le_of_ble_eq_true rfl) (tc_LB_isSheet (d - 1) hh_0 p1 _ _ _ e_1) rfl ?_
  refine x_if_eq (pc := 4) 14 dX9_canBe_4 (by decide) (fun c_4 => ?_) (fun c_4 => ?_)
  · have h := aw_pos h c_4
    refine x_aload_n (pc := 14) 0 dX9_canBe_14 rfl rfl ?_
    refine x_iconst (pc := 15) (w := 1) dX9_canBe_15 ic_1 ?_
    refine x_callV (pc := 16) (As := [.int 1]) (rest := []) (st' := [.int r]) (w := (some (.int r))) dX9_canBe_16 cw_X9_84 hd1 gc_0 rfl rfl rfl (Nat.le_of_ble_eq_true rfl) (tc_LB_error (d - 1) hh_0 1 _ _ _ h) rfl ?_
    exact x_iret (pc := 19) dX9_canBe_19
  · have h := aw_neg h c_4
    refine x_iload_n (pc := 7) 2 dX9_canBe_7 rfl rfl ?_
    obtain ⟨r_6, M_7, e_5, h⟩ := aw_bi_e h
    refine x_callS (pc := 8) (As := [.int p2]) (rest := []) (st' := [.int r_6]) (w := (some (.int r_6))) dX9_canBe_8 cw_X9_232 hd1 rfl rfl (Nat.le_of_ble_eq_true rfl) (tc_LB_isPart (d - 1) hh_0 p2 _ _ _ e_5) rfl ?_
    refine x_if_ne (pc := 11) 20 dX9_canBe_11 (by decide) (fun c_8 => ?_) (fun c_8 => ?_)
    · have h := aw_neg h c_8
      refine x_aload_n (pc := 20) 0 dX9_canBe_20 rfl rfl ?_
      refine x_aload_n (pc := 21) 0 dX9_canBe_21 rfl rfl ?_
      refine x_get (pc := 22) dX9_canBe_22 lk_X9_72 gc_0 rfl rfl ?_
      refine x_iload_n (pc := 25) 1 dX9_canBe_25 rfl rfl ?_
      obtain ⟨c_9, h⟩ := aw_ck h
      refine x_aald (pc := 26) dX9_canBe_26 gc_58 (fun _ => rfl) c_9 (ga_58 (aw_lt c_9)) ?_
      obtain ⟨r_11, M_12, e_10, h⟩ := aw_bi_e h
      refine x_callV (pc := 27) (As := [.ref (ad (59 + p1.toNatClampNeg))]) (rest := []) (st' := [.int r_11]) (w := (some (.int r_11))) dX9_canBe_27 cw_X9_246 hd1 gc_0 rfl rfl rfl (Nat.le_of_ble_eq_true rfl) (tc_LB_tellsOfAllCloths (d - 1) hh_1 p1.toNatClampNeg (aw_lt c_9) _ _ _ e_10) rfl ?_
      refine x_if_ne (pc := 30) 39 dX9_canBe_30 (by decide) (fun c_13 => ?_) (fun c_13 => ?_)
      · have h := aw_neg h c_13
        refine x_aload_n (pc := 39) 0 dX9_canBe_39 rfl rfl ?_
        obtain ⟨M_15, e_14, h⟩ := aw_bv_e h
        refine x_callV (pc := 40) (As := []) (rest := []) (st' := []) (w := none) dX9_canBe_40 cw_X9_250 hd1 gc_0 rfl rfl rfl (Nat.le_of_ble_eq_true rfl) (tc_LB_prepareGuesses (d - 1) hh_5  _  _ e_14) rfl ?_
        refine x_iconst (pc := 43) (w := 0) dX9_canBe_43 ic_0 ?_
        refine x_istore_n (pc := 44) 3 [(3, .int 0), (0, .ref (ad 0)), (1, .int p1), (2, .int p2)] dX9_canBe_44 rfl (by decide) rfl ?_
        refine x_iconst (pc := 45) (w := 0) dX9_canBe_45 ic_0 ?_
        refine x_istore (pc := 46) 4 [(4, .int 0), (3, .int 0), (0, .ref (ad 0)), (1, .int p1), (2, .int p2)] dX9_canBe_46 (by decide) rfl ?_
        refine x_lv [2, 3, 4, 1, 0] [(0, .ref (ad 0)), (1, .int p1), (2, .int p2), (3, .int 0), (4, .int 0)] rfl ?_
        exact tc_LB_canBe_L48 d hd  2000 p1 p2 0 0 _ _ _ h
      · have h := aw_pos h c_13
        refine x_aload_n (pc := 33) 0 dX9_canBe_33 rfl rfl ?_
        refine x_iconst (pc := 34) (w := 2) dX9_canBe_34 ic_2 ?_
        refine x_callV (pc := 35) (As := [.int 2]) (rest := []) (st' := [.int r]) (w := (some (.int r))) dX9_canBe_35 cw_X9_84 hd1 gc_0 rfl rfl rfl (Nat.le_of_ble_eq_true rfl) (tc_LB_error (d - 1) hh_0 2 _ _ _ h) rfl ?_
        exact x_iret (pc := 38) dX9_canBe_38
    · have h := aw_pos h c_8
      refine x_aload_n (pc := 14) 0 dX9_canBe_14 rfl rfl ?_
      refine x_iconst (pc := 15) (w := 1) dX9_canBe_15 ic_1 ?_
      refine x_callV (pc := 16) (As := [.int 1]) (rest := []) (st' := [.int r]) (w := (some (.int r))) dX9_canBe_16 cw_X9_84 hd1 gc_0 rfl rfl rfl (Nat.le_of_ble_eq_true rfl) (tc_LB_error (d - 1) hh_0 1 _ _ _ h) rfl ?_
      exact x_iret (pc := 19) dX9_canBe_19
def fc_LB_greatestTally_L4 : Nat → Int32 → Int32 → Int32 → aw_M → Option (Int32 × aw_M)
  | 0, _, _, _, _ => none
  | n + 1, p1, p2, p3, M =>
    if (5 : Int32) ≤ p3 then (
      some (p2, M)
    ) else (
      if aw_in ((p1 * 5) + p3) 30 then none else (
      fc_LB_greatestTally_L4 n p1 (aw_max p2 (M 51 ((p1 * 5) + p3).toNatClampNeg)) (p3 + 1) M
      )
    )
theorem fc_LB_greatestTally_L4_s (n : Nat) (p1 : Int32) (p2 : Int32) (p3 : Int32) (M : aw_M) : fc_LB_greatestTally_L4 (n + 1) p1 p2 p3 M = (
    if (5 : Int32) ≤ p3 then (
      some (p2, M)
    ) else (
      if aw_in ((p1 * 5) + p3) 30 then none else (
      fc_LB_greatestTally_L4 n p1 (aw_max p2 (M 51 ((p1 * 5) + p3).toNatClampNeg)) (p3 + 1) M
      )
    )
    ) := rfl
set_option maxRecDepth 20000 in
theorem tc_LB_greatestTally_L4 {l : Launch} {D : va_G} {cy : Nat → ClassId} {ad : Nat → Nat} {A : Nat → Prop} (d : Nat) (hd : 1 ≤ d) : ∀ (n : Nat) (p1 : Int32) (p2 : Int32) (p3 : Int32) (M : aw_M) (r : Int32) (M1 : aw_M), fc_LB_greatestTally_L4 n p1 p2 p3 M = some (r, M1) → AW l D cy ad A gc_G RX9 cX9_greatestTally 4 (some .int) d (some (.int r)) M1 4 [(0, .ref (ad 0)), (1, .int p1), (2, .int p2), (3, .int p3)] [] M := by
  have hd1 : (d - 1) + 1 ≤ d := by omega
  have hm1 : 1 ≤ d := by omega
  intro n
  induction n with
  | zero => intro p1 p2 p3 M r M1 h; cases h
  | succ n ih =>
    intro p1 p2 p3 M r M1 h
    rw [fc_LB_greatestTally_L4_s] at h
    refine x_iload_n (pc := 4) 3 dX9_greatestTally_4 rfl rfl ?_
    refine x_iconst (pc := 5) (w := 5) dX9_greatestTally_5 ic_5 ?_
    refine x_icmp_ge (pc := 6) 30 dX9_greatestTally_6 (by decide) (fun c_1 => ?_) (fun c_1 => ?_)
    · have h := aw_pos h c_1
      refine x_iload_n (pc := 30) 2 dX9_greatestTally_30 rfl rfl ?_
      obtain ⟨rfl, rfl⟩ := aw_so h
      exact x_iret (pc := 31) dX9_greatestTally_31
    · have h := aw_neg h c_1
      refine x_iload_n (pc := 9) 2 dX9_greatestTally_9 rfl rfl ?_
      refine x_aload_n (pc := 10) 0 dX9_greatestTally_10 rfl rfl ?_
      refine x_get (pc := 11) dX9_greatestTally_11 lk_X9_43 gc_0 rfl rfl ?_
      refine x_iload_n (pc := 14) 1 dX9_greatestTally_14 rfl rfl ?_
      refine x_iconst (pc := 15) (w := 5) dX9_greatestTally_15 ic_5 ?_
      refine x_imul (pc := 16) dX9_greatestTally_16 ?_
      refine x_iload_n (pc := 17) 3 dX9_greatestTally_17 rfl rfl ?_
      refine x_iadd (pc := 18) dX9_greatestTally_18 ?_
      obtain ⟨c_2, h⟩ := aw_ck h
      refine x_iald (pc := 19) dX9_greatestTally_19 gc_51 c_2 ?_
      refine x_max (pc := 20) dX9_greatestTally_20 (tb_in (i := 470) (by decide +kernel) rfl) hm1 (Nat.le_of_ble_eq_true rfl) ?_
      refine x_istore_n (pc := 23) 2 [(2, .int (aw_max p2 (M 51 ((p1 * 5) + p3).toNatClampNeg))), (0, .ref (ad 0)), (1, .int p1), (3, .int p3)] dX9_greatestTally_23 rfl (by decide) rfl ?_
      refine x_iinc (pc := 24) (p3 + 1) [(3, .int (p3 + 1)), (2, .int (aw_max p2 (M 51 ((p1 * 5) + p3).toNatClampNeg))), (0, .ref (ad 0)), (1, .int p1)] dX9_greatestTally_24 rfl (congrArg (fun z => p3 + z) ic_1) (by decide) rfl ?_
      refine x_goto (pc := 27) 4 dX9_greatestTally_27 (by decide) ?_
      refine x_lv [2, 3, 1, 0] [(0, .ref (ad 0)), (1, .int p1), (2, .int (aw_max p2 (M 51 ((p1 * 5) + p3).toNatClampNeg))), (3, .int (p3 + 1))] rfl ?_
      exact ih p1 (aw_max p2 (M 51 ((p1 * 5) + p3).toNatClampNeg)) (p3 + 1) _ _ _ h
def fc_LB_greatestTally (p1 : Int32) (M : aw_M) : Option (Int32 × aw_M) :=
  fc_LB_greatestTally_L4  2000 p1 0 0 M
set_option maxRecDepth 20000 in
theorem tc_LB_greatestTally {l : Launch} {D : va_G} {cy : Nat → ClassId} {ad : Nat → Nat} {A : Nat → Prop} (d : Nat) (hd : 1 ≤ d) (p1 : Int32) (M : aw_M) (r : Int32) (M1 : aw_M) (h : fc_LB_greatestTally p1 M = some (r, M1)) : AX l D cy ad A gc_G yX9_greatestTally cX9_greatestTally 4 (some .int) d [.ref (ad 0), .int p1] M (some (.int r)) M1 := by
  have hd1 : (d - 1) + 1 ≤ d := by omega
  have hm1 : 1 ≤ d := by omega
  refine AX.of (own := RX9) (by decide +kernel) rfl (Nat.le_of_ble_eq_true rfl) ?_
  unfold fc_LB_greatestTally at h
  show AW l D cy ad A gc_G RX9 cX9_greatestTally 4 (some .int) d (some (.int r)) M1 0 [(0, .ref (ad 0)), (1, .int p1)] [] M
  refine x_iconst (pc := 0) (w := 0) dX9_greatestTally_0 ic_0 ?_
  refine x_istore_n (pc := 1) 2 [(2, .int 0), (0, .ref (ad 0)), (1, .int p1)] dX9_greatestTally_1 rfl (by decide) rfl ?_
  refine x_iconst (pc := 2) (w := 0) dX9_greatestTally_2 ic_0 ?_
  refine x_istore_n (pc := 3) 3 [(3, .int 0), (2, .int 0), (0, .ref (ad 0)), (1, .int p1)] dX9_greatestTally_3 rfl (by decide) rfl ?_
  refine x_lv [2, 3, 1, 0] [(0, .ref (ad 0)), (1, .int p1), (2, .int 0), (3, .int 0)] rfl ?_
  exact tc_LB_greatestTally_L4 d hd  2000 p1 0 0 _ _ _ h
def fc_LB_tallyAll_L2 : Nat → Int32 → aw_M → Option aw_M
  | 0, _, _ => none
  | n + 1, p1, M =>
    if (M 1 5) ≤ p1 then (
      some M
    ) else (
      if aw_in p1 6 then none else (
      aw_bi (fc_Ga_shows p1.toNatClampNeg 2 M) fun r_4 M_5 => (
      if aw_in ((p1 * 5) + r_4) 30 then none else (
      if aw_in ((p1 * 5) + r_4) 30 then none else (
      fc_LB_tallyAll_L2 n (p1 + 1) (aw_u M_5 51 ((p1 * 5) + r_4).toNatClampNeg ((M_5 51 ((p1 * 5) + r_4).toNatClampNeg) + 1))
      )
      )
      )
      )
    )
theorem fc_LB_tallyAll_L2_s (n : Nat) (p1 : Int32) (M : aw_M) : fc_LB_tallyAll_L2 (n + 1) p1 M = (
    if (M 1 5) ≤ p1 then (
      some M
    ) else (
      if aw_in p1 6 then none else (
      aw_bi (fc_Ga_shows p1.toNatClampNeg 2 M) fun r_4 M_5 => (
      if aw_in ((p1 * 5) + r_4) 30 then none else (
      if aw_in ((p1 * 5) + r_4) 30 then none else (
      fc_LB_tallyAll_L2 n (p1 + 1) (aw_u M_5 51 ((p1 * 5) + r_4).toNatClampNeg ((M_5 51 ((p1 * 5) + r_4).toNatClampNeg) + 1))
      )
      )
      )
      )
    )
    ) := rfl
set_option maxRecDepth 20000 in
theorem tc_LB_tallyAll_L2 {l : Launch} {D : va_G} {cy : Nat → ClassId} {ad : Nat → Nat} {A : Nat → Prop} (d : Nat) (hd : 5 ≤ d) : ∀ (n : Nat) (p1 : Int32) (M : aw_M) (M1 : aw_M), fc_LB_tallyAll_L2 n p1 M = some M1 → AW l D cy ad A gc_G RX9 cX9_tallyAll 2 none d none M1 2 [(0, .ref (ad 0)), (1, .int p1)] [] M := by
  have hd1 : (d - 1) + 1 ≤ d := by omega
  have hm1 : 1 ≤ d := by omega
  have hh_4 : 4 ≤ d - 1 := by omega
  intro n
  induction n with
  | zero => intro p1 M M1 h; cases h
  | succ n ih =>
    intro p1 M M1 h
    rw [fc_LB_tallyAll_L2_s] at h
    refine x_iload_n (pc := 2) 1 dX9_tallyAll_2 rfl rfl ?_
    refine x_aload_n (pc := 3) 0 dX9_tallyAll_3 rfl rfl ?_
    refine x_get (pc := 4) dX9_tallyAll_4 lk_X9_10 gc_0 rfl rfl ?_
    refine x_get (pc := 7) dX9_tallyAll_7 lk_X9_104 gc_1 rfl rfl ?_
    refine x_icmp_ge (pc := 10) 45 dX9_tallyAll_10 (by decide) (fun c_1 => ?_) (fun c_1 => ?_)
    · have h := aw_pos h c_1
      obtain rfl := aw_sv h
      exact x_vret (pc := 45) dX9_tallyAll_45
    · have h := aw_neg h c_1
      refine x_aload_n (pc := 13) 0 dX9_tallyAll_13 rfl rfl ?_
      refine x_get (pc := 14) dX9_tallyAll_14 lk_X9_43 gc_0 rfl rfl ?_
      refine x_iload_n (pc := 17) 1 dX9_tallyAll_17 rfl rfl ?_
      refine x_iconst (pc := 18) (w := 5) dX9_tallyAll_18 ic_5 ?_
      refine x_imul (pc := 19) dX9_tallyAll_19 ?_
      refine x_aload_n (pc := 20) 0 dX9_tallyAll_20 rfl rfl ?_
      refine x_get (pc := 21) dX9_tallyAll_21 lk_X9_32 gc_0 rfl rfl ?_
      refine x_iload_n (pc := 24) 1 dX9_tallyAll_24 rfl rfl ?_
      obtain ⟨c_2, h⟩ := aw_ck h
      refine x_aald (pc := 25) dX9_tallyAll_25 gc_38 (fun _ => rfl) c_2 (ga_38 (aw_lt c_2)) ?_
      refine x_aload_n (pc := 26) 0 dX9_tallyAll_26 rfl rfl ?_
      refine x_get (pc := 27) dX9_tallyAll_27 lk_X9_26 gc_0 rfl rfl ?_
      obtain ⟨r_4, M_5, e_3, h⟩ := aw_bi_e h
      refine x_callV (pc := 30) (As := [.ref (ad 5)]) (rest := [.int (p1 * 5), .ref (ad 51)]) (st' := [.int r_4, .int (p1 * 5), .ref (ad 51)]) (w := (some (.int r_4))) dX9_tallyAll_30 cw_X9_144 hd1 (gc_gauge (i := p1.toNatClampNeg) (aw_lt c_2)) rfl rfl rfl (Nat.le_of_ble_eq_true rfl) (tc_Ga_shows (d - 1) hh_4 p1.toNatClampNeg (aw_lt c_2) 2 (by decide) _ _ _ e_3) rfl ?_
      refine x_iadd (pc := 33) dX9_tallyAll_33 ?_
      refine x_dup2_11 (pc := 34) dX9_tallyAll_34 rfl rfl ?_
      obtain ⟨c_6, h⟩ := aw_ck h
      refine x_iald (pc := 35) dX9_tallyAll_35 gc_51 c_6 ?_
      refine x_iconst (pc := 36) (w := 1) dX9_tallyAll_36 ic_1 ?_
      refine x_iadd (pc := 37) dX9_tallyAll_37 ?_
      obtain ⟨c_7, h⟩ := aw_ck h
      refine x_iast (pc := 38) dX9_tallyAll_38 gc_51 c_7 ?_
      refine x_iinc (pc := 39) (p1 + 1) [(1, .int (p1 + 1)), (0, .ref (ad 0))] dX9_tallyAll_39 rfl (congrArg (fun z => p1 + z) ic_1) (by decide) rfl ?_
      refine x_goto (pc := 42) 2 dX9_tallyAll_42 (by decide) ?_
      refine x_lv [1, 0] [(0, .ref (ad 0)), (1, .int (p1 + 1))] rfl ?_
      exact ih (p1 + 1) _ _ h
def fc_LB_tallyAll  (M : aw_M) : Option aw_M :=
  fc_LB_tallyAll_L2  2000 0 M
set_option maxRecDepth 20000 in
theorem tc_LB_tallyAll {l : Launch} {D : va_G} {cy : Nat → ClassId} {ad : Nat → Nat} {A : Nat → Prop} (d : Nat) (hd : 5 ≤ d)  (M : aw_M) (M1 : aw_M) (h : fc_LB_tallyAll  M = some M1) : AX l D cy ad A gc_G yX9_tallyAll cX9_tallyAll 2 none d [.ref (ad 0)] M none M1 := by
  have hd1 : (d - 1) + 1 ≤ d := by omega
  have hm1 : 1 ≤ d := by omega
  have hh_4 : 4 ≤ d - 1 := by omega
  refine AX.of (own := RX9) (by decide +kernel) rfl (Nat.le_of_ble_eq_true rfl) ?_
  unfold fc_LB_tallyAll at h
  show AW l D cy ad A gc_G RX9 cX9_tallyAll 2 none d none M1 0 [(0, .ref (ad 0))] [] M
  refine x_iconst (pc := 0) (w := 0) dX9_tallyAll_0 ic_0 ?_
  refine x_istore_n (pc := 1) 1 [(1, .int 0), (0, .ref (ad 0))] dX9_tallyAll_1 rfl (by decide) rfl ?_
  refine x_lv [1, 0] [(0, .ref (ad 0)), (1, .int 0)] rfl ?_
  exact tc_LB_tallyAll_L2 d hd  2000 0 _ _ h
