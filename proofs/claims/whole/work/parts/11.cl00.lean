def fc_LB_above (p0 : Int32) (M : aw_M) : Option (Int32 × aw_M) :=
  if p0 = 1 then (
    some (0, M)
  ) else (
    if p0 = 2 then (
      some (0, M)
    ) else (
      if p0 = 3 then (
        some (0, M)
      ) else (
        if p0 = 4 then (
          some (1, M)
        ) else (
          if p0 = 5 then (
            some (2, M)
          ) else (
            if p0 = 6 then (
              some (3, M)
            ) else (
              some ((-1), M)
            )
          )
        )
      )
    )
  )
set_option maxRecDepth 20000 in
theorem tc_LB_above {l : Launch} {D : va_G} {cy : Nat → ClassId} {ad : Nat → Nat} {A : Nat → Prop} (d : Nat) (hd : 0 ≤ d) (p0 : Int32) (M : aw_M) (r : Int32) (M1 : aw_M) (h : fc_LB_above p0 M = some (r, M1)) : AX l D cy ad A gc_G yX9_above cX9_above 1 (some .int) d [.int p0] M (some (.int r)) M1 := by
  refine AX.of (own := RX9) (by decide +kernel) rfl (Nat.le_of_ble_eq_true rfl) ?_
  unfold fc_LB_above at h
  show AW l D cy ad A gc_G RX9 cX9_above 1 (some .int) d (some (.int r)) M1 0 [(0, .int p0)] [] M
  refine x_iload_n (pc := 0) 0 dX9_above_0 rfl rfl ?_
  by_cases c_1 : p0 = 1
  · have h := aw_pos h c_1
    refine x_tin (pc := 1) (off := 39) 1 40 dX9_above_1 c_1 (by decide) (by decide) rfl (by decide) ?_
    refine x_iconst (pc := 40) (w := 0) dX9_above_40 ic_0 ?_
    obtain ⟨rfl, rfl⟩ := aw_so h
    exact x_iret (pc := 41) dX9_above_41
  · have h := aw_neg h c_1
    by_cases c_2 : p0 = 2
    · have h := aw_pos h c_2
      refine x_tin (pc := 1) (off := 39) 2 40 dX9_above_1 c_2 (by decide) (by decide) rfl (by decide) ?_
      refine x_iconst (pc := 40) (w := 0) dX9_above_40 ic_0 ?_
      obtain ⟨rfl, rfl⟩ := aw_so h
      exact x_iret (pc := 41) dX9_above_41
    · have h := aw_neg h c_2
      by_cases c_3 : p0 = 3
      · have h := aw_pos h c_3
        refine x_tin (pc := 1) (off := 39) 3 40 dX9_above_1 c_3 (by decide) (by decide) rfl (by decide) ?_
        refine x_iconst (pc := 40) (w := 0) dX9_above_40 ic_0 ?_
        obtain ⟨rfl, rfl⟩ := aw_so h
        exact x_iret (pc := 41) dX9_above_41
      · have h := aw_neg h c_3
        by_cases c_4 : p0 = 4
        · have h := aw_pos h c_4
          refine x_tin (pc := 1) (off := 41) 4 42 dX9_above_1 c_4 (by decide) (by decide) rfl (by decide) ?_
          refine x_iconst (pc := 42) (w := 1) dX9_above_42 ic_1 ?_
          obtain ⟨rfl, rfl⟩ := aw_so h
          exact x_iret (pc := 43) dX9_above_43
        · have h := aw_neg h c_4
          by_cases c_5 : p0 = 5
          · have h := aw_pos h c_5
            refine x_tin (pc := 1) (off := 43) 5 44 dX9_above_1 c_5 (by decide) (by decide) rfl (by decide) ?_
            refine x_iconst (pc := 44) (w := 2) dX9_above_44 ic_2 ?_
            obtain ⟨rfl, rfl⟩ := aw_so h
            exact x_iret (pc := 45) dX9_above_45
          · have h := aw_neg h c_5
            by_cases c_6 : p0 = 6
            · have h := aw_pos h c_6
              refine x_tin (pc := 1) (off := 45) 6 46 dX9_above_1 c_6 (by decide) (by decide) rfl (by decide) ?_
              refine x_iconst (pc := 46) (w := 3) dX9_above_46 ic_3 ?_
              obtain ⟨rfl, rfl⟩ := aw_so h
              exact x_iret (pc := 47) dX9_above_47
            · have h := aw_neg h c_6
              refine x_tout (pc := 1) 48 dX9_above_1 (by have z0 := lv_neT c_1 (a := 1) rfl; have z1 := lv_neT c_2 (a := 2) rfl; have z2 := lv_neT c_3 (a := 3) rfl; have z3 := lv_neT c_4 (a := 4) rfl; have z4 := lv_neT c_5 (a := 5) rfl; have z5 := lv_neT c_6 (a := 6) rfl; omega) (by decide) ?_
              refine x_iconst (pc := 48) (w := (-1)) dX9_above_48 ic_m1 ?_
              obtain ⟨rfl, rfl⟩ := aw_so h
              exact x_iret (pc := 49) dX9_above_49
def fc_Ch_bodyFrom_L4 : Nat → Int32 → Int32 → Int32 → aw_M → Option (Int32 × aw_M)
  | 0, _, _, _, _ => none
  | n + 1, p1, p2, p3, M =>
    if (7 : Int32) ≤ p3 then (
      some (0, M)
    ) else (
      if p2 < 0 then (
        some (0, M)
      ) else (
        if (7 : Int32) ≤ p2 then (
          some (0, M)
        ) else (
          if aw_in ((p2 * 4) + p1) 28 then none else (
          if (aw_t1.getD ((p2 * 4) + p1).toNatClampNeg 0) = 0 then (
            aw_bi (fc_LB_above p2 M) fun r_7 M_8 => (
            fc_Ch_bodyFrom_L4 n p1 r_7 (p3 + 1) M_8
            )
          ) else (
            some ((aw_t1.getD ((p2 * 4) + p1).toNatClampNeg 0), M)
          )
          )
        )
      )
    )
theorem fc_Ch_bodyFrom_L4_s (n : Nat) (p1 : Int32) (p2 : Int32) (p3 : Int32) (M : aw_M) : fc_Ch_bodyFrom_L4 (n + 1) p1 p2 p3 M = (
    if (7 : Int32) ≤ p3 then (
      some (0, M)
    ) else (
      if p2 < 0 then (
        some (0, M)
      ) else (
        if (7 : Int32) ≤ p2 then (
          some (0, M)
        ) else (
          if aw_in ((p2 * 4) + p1) 28 then none else (
          if (aw_t1.getD ((p2 * 4) + p1).toNatClampNeg 0) = 0 then (
            aw_bi (fc_LB_above p2 M) fun r_7 M_8 => (
            fc_Ch_bodyFrom_L4 n p1 r_7 (p3 + 1) M_8
            )
          ) else (
            some ((aw_t1.getD ((p2 * 4) + p1).toNatClampNeg 0), M)
          )
          )
        )
      )
    )
    ) := rfl
set_option maxRecDepth 20000 in
theorem tc_Ch_bodyFrom_L4 {l : Launch} {D : va_G} {cy : Nat → ClassId} {ad : Nat → Nat} {A : Nat → Prop} (d : Nat) (hd : 1 ≤ d) : ∀ (n : Nat) (p1 : Int32) (p2 : Int32) (p3 : Int32) (M : aw_M) (r : Int32) (M1 : aw_M), fc_Ch_bodyFrom_L4 n p1 p2 p3 M = some (r, M1) → AW l D cy ad A gc_G RX0 cX0_bodyFrom 5 (some .int) d (some (.int r)) M1 4 [(1, .int p1), (2, .int p2), (3, .int p3)] [] M := by
  have hd1 : (d - 1) + 1 ≤ d := by omega
  have hm1 : 1 ≤ d := by omega
  have hh_0 : 0 ≤ d - 1 := by omega
  intro n
  induction n with
  | zero => intro p1 p2 p3 M r M1 h; cases h
  | succ n ih =>
    intro p1 p2 p3 M r M1 h
    rw [fc_Ch_bodyFrom_L4_s] at h
    refine x_iload_n (pc := 4) 3 dX0_bodyFrom_4 rfl rfl ?_
    refine x_bipush (pc := 5) (w := 7) dX0_bodyFrom_5 bi_7 ?_
    refine x_icmp_ge (pc := 7) 50 dX0_bodyFrom_7 (by decide) (fun c_1 => ?_) (fun c_1 => ?_)
    · have h := aw_pos h c_1
      refine x_iconst (pc := 50) (w := 0) dX0_bodyFrom_50 ic_0 ?_
      obtain ⟨rfl, rfl⟩ := aw_so h
      exact x_iret (pc := 51) dX0_bodyFrom_51
    · have h := aw_neg h c_1
      refine x_iload_n (pc := 10) 2 dX0_bodyFrom_10 rfl rfl ?_
      refine x_if_lt (pc := 11) 50 dX0_bodyFrom_11 (by decide) (fun c_2 => ?_) (fun c_2 => ?_)
      · have h := aw_pos h c_2
        refine x_iconst (pc := 50) (w := 0) dX0_bodyFrom_50 ic_0 ?_
        obtain ⟨rfl, rfl⟩ := aw_so h
        exact x_iret (pc := 51) dX0_bodyFrom_51
      · have h := aw_neg h c_2
        refine x_iload_n (pc := 14) 2 dX0_bodyFrom_14 rfl rfl ?_
        refine x_bipush (pc := 15) (w := 7) dX0_bodyFrom_15 bi_7 ?_
        refine x_icmp_ge (pc := 17) 50 dX0_bodyFrom_17 (by decide) (fun c_3 => ?_) (fun c_3 => ?_)
        · have h := aw_pos h c_3
          refine x_iconst (pc := 50) (w := 0) dX0_bodyFrom_50 ic_0 ?_
          obtain ⟨rfl, rfl⟩ := aw_so h
          exact x_iret (pc := 51) dX0_bodyFrom_51
        · have h := aw_neg h c_3
          refine x_gs1N (host := "LoopsBelow") (pc := 20) dX0_bodyFrom_20 (by decide +kernel) ?_
          refine x_iload_n (pc := 23) 2 dX0_bodyFrom_23 rfl rfl ?_
          refine x_iconst (pc := 24) (w := 4) dX0_bodyFrom_24 ic_4 ?_
          refine x_imul (pc := 25) dX0_bodyFrom_25 ?_
          refine x_iload_n (pc := 26) 1 dX0_bodyFrom_26 rfl rfl ?_
          refine x_iadd (pc := 27) dX0_bodyFrom_27 ?_
          obtain ⟨c_4, h⟩ := aw_ck h
          refine x_ti1 (pc := 28) dX0_bodyFrom_28 c_4 ?_
          refine x_istore (pc := 29) 4 [(4, .int (aw_t1.getD ((p2 * 4) + p1).toNatClampNeg 0)), (1, .int p1), (2, .int p2), (3, .int p3)] dX0_bodyFrom_29 (by decide) rfl ?_
          refine x_iload (pc := 31) dX0_bodyFrom_31 rfl ?_
          refine x_if_eq (pc := 33) 39 dX0_bodyFrom_33 (by decide) (fun c_5 => ?_) (fun c_5 => ?_)
          · have h := aw_pos h c_5
            refine x_iload_n (pc := 39) 2 dX0_bodyFrom_39 rfl rfl ?_
            obtain ⟨r_7, M_8, e_6, h⟩ := aw_bi_e h
            refine x_callSN (pc := 40) (As := [.int p2]) (rest := []) (st' := [.int r_7]) (w := (some (.int r_7))) (host := "LoopsBelow") dX0_bodyFrom_40 (by decide +kernel) cw_X0_47 hd1 rfl rfl (Nat.le_of_ble_eq_true rfl) (tc_LB_above (d - 1) hh_0 p2 _ _ _ e_6) rfl ?_
            refine x_istore_n (pc := 43) 2 [(2, .int r_7), (4, .int (aw_t1.getD ((p2 * 4) + p1).toNatClampNeg 0)), (1, .int p1), (3, .int p3)] dX0_bodyFrom_43 rfl (by decide) rfl ?_
            refine x_iinc (pc := 44) (p3 + 1) [(3, .int (p3 + 1)), (2, .int r_7), (4, .int (aw_t1.getD ((p2 * 4) + p1).toNatClampNeg 0)), (1, .int p1)] dX0_bodyFrom_44 rfl (congrArg (fun z => p3 + z) ic_1) (by decide) rfl ?_
            refine x_goto (pc := 47) 4 dX0_bodyFrom_47 (by decide) ?_
            refine x_lv [3, 1, 0] [(1, .int p1), (2, .int r_7), (3, .int (p3 + 1))] rfl ?_
            exact ih p1 r_7 (p3 + 1) _ _ _ h
          · have h := aw_neg h c_5
            refine x_iload (pc := 36) dX0_bodyFrom_36 rfl ?_
            obtain ⟨rfl, rfl⟩ := aw_so h
            exact x_iret (pc := 38) dX0_bodyFrom_38
def fc_Ch_bodyFrom (p0 : Int32) (p1 : Int32) (M : aw_M) : Option (Int32 × aw_M) :=
  fc_Ch_bodyFrom_L4  2000 p1 p0 0 M
set_option maxRecDepth 20000 in
theorem tc_Ch_bodyFrom {l : Launch} {D : va_G} {cy : Nat → ClassId} {ad : Nat → Nat} {A : Nat → Prop} (d : Nat) (hd : 1 ≤ d) (p0 : Int32) (p1 : Int32) (M : aw_M) (r : Int32) (M1 : aw_M) (h : fc_Ch_bodyFrom p0 p1 M = some (r, M1)) : AX l D cy ad A gc_G yX0_bodyFrom cX0_bodyFrom 5 (some .int) d [.int p0, .int p1] M (some (.int r)) M1 := by
  have hd1 : (d - 1) + 1 ≤ d := by omega
  have hm1 : 1 ≤ d := by omega
  have hh_0 : 0 ≤ d - 1 := by omega
  refine AX.of (own := RX0) (by decide +kernel) rfl (Nat.le_of_ble_eq_true rfl) ?_
  unfold fc_Ch_bodyFrom at h
  show AW l D cy ad A gc_G RX0 cX0_bodyFrom 5 (some .int) d (some (.int r)) M1 0 [(0, .int p0), (1, .int p1)] [] M
  refine x_iload_n (pc := 0) 0 dX0_bodyFrom_0 rfl rfl ?_
  refine x_istore_n (pc := 1) 2 [(2, .int p0), (0, .int p0), (1, .int p1)] dX0_bodyFrom_1 rfl (by decide) rfl ?_
  refine x_iconst (pc := 2) (w := 0) dX0_bodyFrom_2 ic_0 ?_
  refine x_istore_n (pc := 3) 3 [(3, .int 0), (2, .int p0), (0, .int p0), (1, .int p1)] dX0_bodyFrom_3 rfl (by decide) rfl ?_
  refine x_lv [3, 1, 0] [(1, .int p1), (2, .int p0), (3, .int 0)] rfl ?_
  exact tc_Ch_bodyFrom_L4 d hd  2000 p1 p0 0 _ _ _ h
def fc_Ch_note (p1 : Int32) (M : aw_M) : Option aw_M :=
  if (40 : Int32) ≤ (M 56 1) then (
    some M
  ) else (
    if aw_in (M 56 1) 40 then none else (
    some (aw_u (aw_u M 57 (M 56 1).toNatClampNeg p1) 56 1 (((aw_u M 57 (M 56 1).toNatClampNeg p1) 56 1) + 1))
    )
  )
set_option maxRecDepth 20000 in
theorem tc_Ch_note {l : Launch} {D : va_G} {cy : Nat → ClassId} {ad : Nat → Nat} {A : Nat → Prop} (d : Nat) (hd : 0 ≤ d) (p1 : Int32) (M : aw_M) (M1 : aw_M) (h : fc_Ch_note p1 M = some M1) : AX l D cy ad A gc_G yX0_note cX0_note 2 none d [.ref (ad 56), .int p1] M none M1 := by
  refine AX.of (own := RX0) (by decide +kernel) rfl (Nat.le_of_ble_eq_true rfl) ?_
  unfold fc_Ch_note at h
  show AW l D cy ad A gc_G RX0 cX0_note 2 none d none M1 0 [(0, .ref (ad 56)), (1, .int p1)] [] M
  refine x_aload_n (pc := 0) 0 dX0_note_0 rfl rfl ?_
  refine x_get (pc := 1) dX0_note_1 lk_X0_29 gc_56 rfl rfl ?_
  refine x_bipush (pc := 4) (w := 40) dX0_note_4 bi_40 ?_
  refine x_icmp_ge (pc := 6) 29 dX0_note_6 (by decide) (fun c_1 => ?_) (fun c_1 => ?_)
  · have h := aw_pos h c_1
    obtain rfl := aw_sv h
    exact x_vret (pc := 29) dX0_note_29
  · have h := aw_neg h c_1
    refine x_aload_n (pc := 9) 0 dX0_note_9 rfl rfl ?_
    refine x_get (pc := 10) dX0_note_10 lk_X0_9 gc_56 rfl rfl ?_
    refine x_aload_n (pc := 13) 0 dX0_note_13 rfl rfl ?_
    refine x_get (pc := 14) dX0_note_14 lk_X0_29 gc_56 rfl rfl ?_
    refine x_iload_n (pc := 17) 1 dX0_note_17 rfl rfl ?_
    obtain ⟨c_2, h⟩ := aw_ck h
    refine x_iast (pc := 18) dX0_note_18 gc_57 c_2 ?_
    refine x_aload_n (pc := 19) 0 dX0_note_19 rfl rfl ?_
    refine x_dup (pc := 20) dX0_note_20 rfl ?_
    refine x_get (pc := 21) dX0_note_21 lk_X0_29 gc_56 rfl rfl ?_
    refine x_iconst (pc := 24) (w := 1) dX0_note_24 ic_1 ?_
    refine x_iadd (pc := 25) dX0_note_25 ?_
    refine x_put (pc := 26) (x := (((aw_u M 57 (M 56 1).toNatClampNeg p1) 56 1) + 1)) dX0_note_26 lk_X0_29 lp_X0_1 gc_56 rfl rfl rfl rfl ?_
    obtain rfl := aw_sv h
    exact x_vret (pc := 29) dX0_note_29
def fc_Ch_speak (g_tc_Ch_speak : Int32 → Int32 → Int32 → Int32 → aw_M → Option (Int32 × aw_M)) (p1 : Int32) (p2 : Int32) (p3 : Int32) (p4 : Int32) (M : aw_M) : Option (Int32 × aw_M) :=
  if p4 < 40 then (
    aw_bi (fc_Ch_bodyFrom p1 p2 M) fun r_3 M_4 => (
    aw_bv (fc_Ch_note r_3 M_4) fun M_6 => (
    if r_3 = 10 then (
      some ((p3 + (M_6 56 4)), M_6)
    ) else (
      if r_3 = 11 then (
        aw_bi (g_tc_Ch_speak (M_6 56 2) 0 p3 (p4 + 1) M_6) fun r_10 M_11 => (
        some ((r_10 * 2), M_11)
        )
      ) else (
        if r_3 = 12 then (
          some ((p3 - (M_6 56 3)), M_6)
        ) else (
          if r_3 = 13 then (
            aw_bi (g_tc_Ch_speak (M_6 56 2) 1 p3 (p4 + 1) M_6) fun r_15 M_16 => (
            aw_bi (g_tc_Ch_speak (M_16 56 2) 2 p3 (p4 + 1) M_16) fun r_18 M_19 => (
            some ((r_15 ^^^ r_18), M_19)
            )
            )
          ) else (
            if r_3 = 20 then (
              aw_bi (g_tc_Ch_speak 0 0 p3 (p4 + 1) M_6) fun r_22 M_23 => (
              some ((r_22 * 3), M_23)
              )
            ) else (
              if r_3 = 30 then (
                aw_bi (g_tc_Ch_speak 0 1 p3 (p4 + 1) M_6) fun r_26 M_27 => (
                aw_bi (g_tc_Ch_speak (M_27 56 2) 2 1 (p4 + 1) M_27) fun r_29 M_30 => (
                some ((r_26 - r_29), M_30)
                )
                )
              ) else (
                if r_3 = 40 then (
                  aw_bi (g_tc_Ch_speak 0 2 p3 (p4 + 1) M_6) fun r_33 M_34 => (
                  some ((-r_33), M_34)
                  )
                ) else (
                  if r_3 = 50 then (
                    aw_bi (g_tc_Ch_speak 1 3 p3 (p4 + 1) M_6) fun r_37 M_38 => (
                    aw_bi (g_tc_Ch_speak (M_38 56 2) 0 2 (p4 + 1) M_38) fun r_40 M_41 => (
                    some ((r_37 - r_40), M_41)
                    )
                    )
                  ) else (
                    if r_3 = 60 then (
                      g_tc_Ch_speak 2 1 (p3 + 1) (p4 + 1) M_6
                    ) else (
                      if r_3 = 70 then (
                        aw_bi (g_tc_Ch_speak 3 2 p3 (p4 + 1) M_6) fun r_45 M_46 => (
                        some ((r_45 ^^^ (M_46 56 4)), M_46)
                        )
                      ) else (
                        if r_3 = 71 then (
                          aw_bi (g_tc_Ch_speak (M_6 56 2) 1 p3 (p4 + 1) M_6) fun r_49 M_50 => (
                          aw_bi (g_tc_Ch_speak 3 3 p3 (p4 + 1) M_50) fun r_52 M_53 => (
                          some ((r_49 - r_52), M_53)
                          )
                          )
                        ) else (
                          some (0, M_6)
                        )
                      )
                    )
                  )
                )
              )
            )
          )
        )
      )
    )
    )
    )
  ) else (
    some (0, M)
  )
set_option maxRecDepth 20000 in
theorem tc_Ch_speak {l : Launch} {D : va_G} {cy : Nat → ClassId} {ad : Nat → Nat} {A : Nat → Prop} (d0 : Nat) (g_tc_Ch_speak : Int32 → Int32 → Int32 → Int32 → aw_M → Option (Int32 × aw_M)) (hg_tc_Ch_speak : ∀ (d : Nat), d0 + 0 ≤ d → ∀ (p1 : Int32) (p2 : Int32) (p3 : Int32) (p4 : Int32) (M : aw_M) (r : Int32) (M1 : aw_M), g_tc_Ch_speak  p1 p2 p3 p4 M = some (r, M1) → AX l D cy ad A gc_G yX0_speak cX0_speak 7 (some .int) d [.ref (ad 56), .int p1, .int p2, .int p3, .int p4] M (some (.int r)) M1) (d : Nat) (hd : d0 + 2 ≤ d) (p1 : Int32) (p2 : Int32) (p3 : Int32) (p4 : Int32) (M : aw_M) (r : Int32) (M1 : aw_M) (h : fc_Ch_speak g_tc_Ch_speak p1 p2 p3 p4 M = some (r, M1)) : AX l D cy ad A gc_G yX0_speak cX0_speak 7 (some .int) d [.ref (ad 56), .int p1, .int p2, .int p3, .int p4] M (some (.int r)) M1 := by
  have hd1 : (d - 1) + 1 ≤ d := by omega
  have hm1 : 1 ≤ d := by omega
  have hh_0 : 0 ≤ d - 1 := by omega
  have hh_1 : 1 ≤ d - 1 := by omega
  have ho_0 : d0 + 0 ≤ d - 1 := by omega
  refine AX.of (own := RX0) (by decide +kernel) rfl (Nat.le_of_ble_eq_true rfl) ?_
  unfold fc_Ch_speak at h
  show AW l D cy ad A gc_G RX0 cX0_speak 7 (some .int) d (some (.int r)) M1 0 [(0, .ref (ad 56)), (1, .int p1), (2, .int p2), (3, .int p3), (4, .int p4)] [] M
  refine x_iload (pc := 0) dX0_speak_0 rfl ?_
  refine x_bipush (pc := 2) (w := 40) dX0_speak_2 bi_40 ?_
  refine x_icmp_lt (pc := 4) 9 dX0_speak_4 (by decide) (fun c_1 => ?_) (fun c_1 => ?_)
  · have h := aw_pos h c_1
    refine x_iload_n (pc := 9) 1 dX0_speak_9 rfl rfl ?_
    refine x_iload_n (pc := 10) 2 dX0_speak_10 rfl rfl ?_
    obtain ⟨r_3, M_4, e_2, h⟩ := aw_bi_e h
    refine x_callS (pc := 11) (As := [.int p1, .int p2]) (rest := []) (st' := [.int r_3]) (w := (some (.int r_3))) dX0_speak_11 cw_X0_36 hd1 rfl rfl (Nat.le_of_ble_eq_true rfl) (tc_Ch_bodyFrom (d - 1) hh_1 p1 p2 _ _ _ e_2) rfl ?_
    refine x_istore (pc := 14) 5 [(5, .int r_3), (0, .ref (ad 56)), (1, .int p1), (2, .int p2), (3, .int p3), (4, .int p4)] dX0_speak_14 (by decide) rfl ?_
    refine x_aload_n (pc := 16) 0 dX0_speak_16 rfl rfl ?_
    refine x_iload (pc := 17) dX0_speak_17 rfl ?_
    obtain ⟨M_6, e_5, h⟩ := aw_bv_e h
    refine x_callV (pc := 19) (As := [.int r_3]) (rest := []) (st' := []) (w := none) dX0_speak_19 cw_X0_40 hd1 gc_56 rfl rfl rfl (Nat.le_of_ble_eq_true rfl) (tc_Ch_note (d - 1) hh_0 r_3 _  _ e_5) rfl ?_
    refine x_iload (pc := 22) dX0_speak_22 rfl ?_
    refine x_iconst (pc := 24) (w := 1) dX0_speak_24 ic_1 ?_
    refine x_iadd (pc := 25) dX0_speak_25 ?_
    refine x_istore (pc := 26) 6 [(6, .int (p4 + 1)), (5, .int r_3), (0, .ref (ad 56)), (1, .int p1), (2, .int p2), (3, .int p3), (4, .int p4)] dX0_speak_26 (by decide) rfl ?_
    refine x_iload (pc := 28) dX0_speak_28 rfl ?_
    by_cases c_7 : r_3 = 10
    · have h := aw_pos h c_7
      refine x_lin (pc := 30) (off := 98) 10 128 dX0_speak_30 (by decide) c_7 (by decide) (by decide) ?_
      refine x_iload_n (pc := 128) 3 dX0_speak_128 rfl rfl ?_
      refine x_aload_n (pc := 129) 0 dX0_speak_129 rfl rfl ?_
      refine x_get (pc := 130) dX0_speak_130 lk_X0_26 gc_56 rfl rfl ?_
      refine x_iadd (pc := 133) dX0_speak_133 ?_
      obtain ⟨rfl, rfl⟩ := aw_so h
      exact x_iret (pc := 134) dX0_speak_134
    · have h := aw_neg h c_7
      by_cases c_8 : r_3 = 11
      · have h := aw_pos h c_8
        refine x_lin (pc := 30) (off := 105) 11 135 dX0_speak_30 (by decide) c_8 (by decide) (by decide) ?_
        refine x_aload_n (pc := 135) 0 dX0_speak_135 rfl rfl ?_
        refine x_aload_n (pc := 136) 0 dX0_speak_136 rfl rfl ?_
        refine x_get (pc := 137) dX0_speak_137 lk_X0_21 gc_56 rfl rfl ?_
        refine x_iconst (pc := 140) (w := 0) dX0_speak_140 ic_0 ?_
        refine x_iload_n (pc := 141) 3 dX0_speak_141 rfl rfl ?_
        refine x_iload (pc := 142) dX0_speak_142 rfl ?_
        obtain ⟨r_10, M_11, e_9, h⟩ := aw_bi_e h
        refine x_callV (pc := 144) (As := [.int (M_6 56 2), .int 0, .int p3, .int (p4 + 1)]) (rest := []) (st' := [.int r_10]) (w := (some (.int r_10))) dX0_speak_144 cw_X0_32 hd1 gc_56 rfl rfl rfl (Nat.le_of_ble_eq_true rfl) (hg_tc_Ch_speak (d - 1) ho_0 (M_6 56 2) 0 p3 (p4 + 1) _ _ _ e_9) rfl ?_
        refine x_iconst (pc := 147) (w := 2) dX0_speak_147 ic_2 ?_
        refine x_imul (pc := 148) dX0_speak_148 ?_
        obtain ⟨rfl, rfl⟩ := aw_so h
        exact x_iret (pc := 149) dX0_speak_149
      · have h := aw_neg h c_8
        by_cases c_12 : r_3 = 12
        · have h := aw_pos h c_12
          refine x_lin (pc := 30) (off := 120) 12 150 dX0_speak_30 (by decide) c_12 (by decide) (by decide) ?_
          refine x_iload_n (pc := 150) 3 dX0_speak_150 rfl rfl ?_
          refine x_aload_n (pc := 151) 0 dX0_speak_151 rfl rfl ?_
          refine x_get (pc := 152) dX0_speak_152 lk_X0_25 gc_56 rfl rfl ?_
          refine x_isub (pc := 155) dX0_speak_155 ?_
          obtain ⟨rfl, rfl⟩ := aw_so h
          exact x_iret (pc := 156) dX0_speak_156
        · have h := aw_neg h c_12
          by_cases c_13 : r_3 = 13
          · have h := aw_pos h c_13
            refine x_lin (pc := 30) (off := 127) 13 157 dX0_speak_30 (by decide) c_13 (by decide) (by decide) ?_
            refine x_aload_n (pc := 157) 0 dX0_speak_157 rfl rfl ?_
            refine x_aload_n (pc := 158) 0 dX0_speak_158 rfl rfl ?_
            refine x_get (pc := 159) dX0_speak_159 lk_X0_21 gc_56 rfl rfl ?_
            refine x_iconst (pc := 162) (w := 1) dX0_speak_162 ic_1 ?_
            refine x_iload_n (pc := 163) 3 dX0_speak_163 rfl rfl ?_
            refine x_iload (pc := 164) dX0_speak_164 rfl ?_
            obtain ⟨r_15, M_16, e_14, h⟩ := aw_bi_e h
            refine x_callV (pc := 166) (As := [.int (M_6 56 2), .int 1, .int p3, .int (p4 + 1)]) (rest := []) (st' := [.int r_15]) (w := (some (.int r_15))) dX0_speak_166 cw_X0_32 hd1 gc_56 rfl rfl rfl (Nat.le_of_ble_eq_true rfl) (hg_tc_Ch_speak (d - 1) ho_0 (M_6 56 2) 1 p3 (p4 + 1) _ _ _ e_14) rfl ?_
            refine x_aload_n (pc := 169) 0 dX0_speak_169 rfl rfl ?_
            refine x_aload_n (pc := 170) 0 dX0_speak_170 rfl rfl ?_
            refine x_get (pc := 171) dX0_speak_171 lk_X0_21 gc_56 rfl rfl ?_
            refine x_iconst (pc := 174) (w := 2) dX0_speak_174 ic_2 ?_
            refine x_iload_n (pc := 175) 3 dX0_speak_175 rfl rfl ?_
            refine x_iload (pc := 176) dX0_speak_176 rfl ?_
            obtain ⟨r_18, M_19, e_17, h⟩ := aw_bi_e h
            refine x_callV (pc := 178) (As := [.int (M_16 56 2), .int 2, .int p3, .int (p4 + 1)]) (rest := [.int r_15]) (st' := [.int r_18, .int r_15]) (w := (some (.int r_18))) dX0_speak_178 cw_X0_32 hd1 gc_56 rfl rfl rfl (Nat.le_of_ble_eq_true rfl) (hg_tc_Ch_speak (d - 1) ho_0 (M_16 56 2) 2 p3 (p4 + 1) _ _ _ e_17) rfl ?_
            refine x_ixor (pc := 181) dX0_speak_181 ?_
            obtain ⟨rfl, rfl⟩ := aw_so h
            exact x_iret (pc := 182) dX0_speak_182
          · have h := aw_neg h c_13
            by_cases c_20 : r_3 = 20
            · have h := aw_pos h c_20
              refine x_lin (pc := 30) (off := 153) 20 183 dX0_speak_30 (by decide) c_20 (by decide) (by decide) ?_
              refine x_aload_n (pc := 183) 0 dX0_speak_183 rfl rfl ?_
              refine x_iconst (pc := 184) (w := 0) dX0_speak_184 ic_0 ?_
              refine x_iconst (pc := 185) (w := 0) dX0_speak_185 ic_0 ?_
              refine x_iload_n (pc := 186) 3 dX0_speak_186 rfl rfl ?_
              refine x_iload (pc := 187) dX0_speak_187 rfl ?_
              obtain ⟨r_22, M_23, e_21, h⟩ := aw_bi_e h
              refine x_callV (pc := 189) (As := [.int 0, .int 0, .int p3, .int (p4 + 1)]) (rest := []) (st' := [.int r_22]) (w := (some (.int r_22))) dX0_speak_189 cw_X0_32 hd1 gc_56 rfl rfl rfl (Nat.le_of_ble_eq_true rfl) (hg_tc_Ch_speak (d - 1) ho_0 0 0 p3 (p4 + 1) _ _ _ e_21) rfl ?_
              refine x_iconst (pc := 192) (w := 3) dX0_speak_192 ic_3 ?_
              refine x_imul (pc := 193) dX0_speak_193 ?_
              obtain ⟨rfl, rfl⟩ := aw_so h
              exact x_iret (pc := 194) dX0_speak_194
            · have h := aw_neg h c_20
              by_cases c_24 : r_3 = 30
              · have h := aw_pos h c_24
                refine x_lin (pc := 30) (off := 165) 30 195 dX0_speak_30 (by decide) c_24 (by decide) (by decide) ?_
                refine x_aload_n (pc := 195) 0 dX0_speak_195 rfl rfl ?_
                refine x_iconst (pc := 196) (w := 0) dX0_speak_196 ic_0 ?_
                refine x_iconst (pc := 197) (w := 1) dX0_speak_197 ic_1 ?_
                refine x_iload_n (pc := 198) 3 dX0_speak_198 rfl rfl ?_
                refine x_iload (pc := 199) dX0_speak_199 rfl ?_
                obtain ⟨r_26, M_27, e_25, h⟩ := aw_bi_e h
                refine x_callV (pc := 201) (As := [.int 0, .int 1, .int p3, .int (p4 + 1)]) (rest := []) (st' := [.int r_26]) (w := (some (.int r_26))) dX0_speak_201 cw_X0_32 hd1 gc_56 rfl rfl rfl (Nat.le_of_ble_eq_true rfl) (hg_tc_Ch_speak (d - 1) ho_0 0 1 p3 (p4 + 1) _ _ _ e_25) rfl ?_
                refine x_aload_n (pc := 204) 0 dX0_speak_204 rfl rfl ?_
                refine x_aload_n (pc := 205) 0 dX0_speak_205 rfl rfl ?_
                refine x_get (pc := 206) dX0_speak_206 lk_X0_21 gc_56 rfl rfl ?_
                refine x_iconst (pc := 209) (w := 2) dX0_speak_209 ic_2 ?_
                refine x_iconst (pc := 210) (w := 1) dX0_speak_210 ic_1 ?_
                refine x_iload (pc := 211) dX0_speak_211 rfl ?_
                obtain ⟨r_29, M_30, e_28, h⟩ := aw_bi_e h
                refine x_callV (pc := 213) (As := [.int (M_27 56 2), .int 2, .int 1, .int (p4 + 1)]) (rest := [.int r_26]) (st' := [.int r_29, .int r_26]) (w := (some (.int r_29))) dX0_speak_213 cw_X0_32 hd1 gc_56 rfl rfl rfl (Nat.le_of_ble_eq_true rfl) (hg_tc_Ch_speak (d - 1) ho_0 (M_27 56 2) 2 1 (p4 + 1) _ _ _ e_28) rfl ?_
                refine x_isub (pc := 216) dX0_speak_216 ?_
                obtain ⟨rfl, rfl⟩ := aw_so h
                exact x_iret (pc := 217) dX0_speak_217
              · have h := aw_neg h c_24
                by_cases c_31 : r_3 = 40
                · have h := aw_pos h c_31
                  refine x_lin (pc := 30) (off := 188) 40 218 dX0_speak_30 (by decide) c_31 (by decide) (by decide) ?_
                  refine x_aload_n (pc := 218) 0 dX0_speak_218 rfl rfl ?_
                  refine x_iconst (pc := 219) (w := 0) dX0_speak_219 ic_0 ?_
                  refine x_iconst (pc := 220) (w := 2) dX0_speak_220 ic_2 ?_
                  refine x_iload_n (pc := 221) 3 dX0_speak_221 rfl rfl ?_
                  refine x_iload (pc := 222) dX0_speak_222 rfl ?_
                  obtain ⟨r_33, M_34, e_32, h⟩ := aw_bi_e h
                  refine x_callV (pc := 224) (As := [.int 0, .int 2, .int p3, .int (p4 + 1)]) (rest := []) (st' := [.int r_33]) (w := (some (.int r_33))) dX0_speak_224 cw_X0_32 hd1 gc_56 rfl rfl rfl (Nat.le_of_ble_eq_true rfl) (hg_tc_Ch_speak (d - 1) ho_0 0 2 p3 (p4 + 1) _ _ _ e_32) rfl ?_
                  refine x_ineg (pc := 227) dX0_speak_227 ?_
                  obtain ⟨rfl, rfl⟩ := aw_so h
                  exact x_iret (pc := 228) dX0_speak_228
                · have h := aw_neg h c_31
                  by_cases c_35 : r_3 = 50
                  · have h := aw_pos h c_35
                    refine x_lin (pc := 30) (off := 199) 50 229 dX0_speak_30 (by decide) c_35 (by decide) (by decide) ?_
                    refine x_aload_n (pc := 229) 0 dX0_speak_229 rfl rfl ?_
                    refine x_iconst (pc := 230) (w := 1) dX0_speak_230 ic_1 ?_
                    refine x_iconst (pc := 231) (w := 3) dX0_speak_231 ic_3 ?_
                    refine x_iload_n (pc := 232) 3 dX0_speak_232 rfl rfl ?_
                    refine x_iload (pc := 233) dX0_speak_233 rfl ?_
                    obtain ⟨r_37, M_38, e_36, h⟩ := aw_bi_e h
                    refine x_callV (pc := 235) (As := [.int 1, .int 3, .int p3, .int (p4 + 1)]) (rest := []) (st' := [.int r_37]) (w := (some (.int r_37))) dX0_speak_235 cw_X0_32 hd1 gc_56 rfl rfl rfl (Nat.le_of_ble_eq_true rfl) (hg_tc_Ch_speak (d - 1) ho_0 1 3 p3 (p4 + 1) _ _ _ e_36) rfl ?_
                    refine x_aload_n (pc := 238) 0 dX0_speak_238 rfl rfl ?_
                    refine x_aload_n (pc := 239) 0 dX0_speak_239 rfl rfl ?_
                    refine x_get (pc := 240) dX0_speak_240 lk_X0_21 gc_56 rfl rfl ?_
                    refine x_iconst (pc := 243) (w := 0) dX0_speak_243 ic_0 ?_
                    refine x_iconst (pc := 244) (w := 2) dX0_speak_244 ic_2 ?_
                    refine x_iload (pc := 245) dX0_speak_245 rfl ?_
                    obtain ⟨r_40, M_41, e_39, h⟩ := aw_bi_e h
                    refine x_callV (pc := 247) (As := [.int (M_38 56 2), .int 0, .int 2, .int (p4 + 1)]) (rest := [.int r_37]) (st' := [.int r_40, .int r_37]) (w := (some (.int r_40))) dX0_speak_247 cw_X0_32 hd1 gc_56 rfl rfl rfl (Nat.le_of_ble_eq_true rfl) (hg_tc_Ch_speak (d - 1) ho_0 (M_38 56 2) 0 2 (p4 + 1) _ _ _ e_39) rfl ?_
                    refine x_isub (pc := 250) dX0_speak_250 ?_
                    obtain ⟨rfl, rfl⟩ := aw_so h
                    exact x_iret (pc := 251) dX0_speak_251
                  · have h := aw_neg h c_35
                    by_cases c_42 : r_3 = 60
                    · have h := aw_pos h c_42
                      refine x_lin (pc := 30) (off := 222) 60 252 dX0_speak_30 (by decide) c_42 (by decide) (by decide) ?_
                      refine x_aload_n (pc := 252) 0 dX0_speak_252 rfl rfl ?_
                      refine x_iconst (pc := 253) (w := 2) dX0_speak_253 ic_2 ?_
                      refine x_iconst (pc := 254) (w := 1) dX0_speak_254 ic_1 ?_
                      refine x_iload_n (pc := 255) 3 dX0_speak_255 rfl rfl ?_
                      refine x_iconst (pc := 256) (w := 1) dX0_speak_256 ic_1 ?_
                      refine x_iadd (pc := 257) dX0_speak_257 ?_
                      refine x_iload (pc := 258) dX0_speak_258 rfl ?_
                      refine x_callV (pc := 260) (As := [.int 2, .int 1, .int (p3 + 1), .int (p4 + 1)]) (rest := []) (st' := [.int r]) (w := (some (.int r))) dX0_speak_260 cw_X0_32 hd1 gc_56 rfl rfl rfl (Nat.le_of_ble_eq_true rfl) (hg_tc_Ch_speak (d - 1) ho_0 2 1 (p3 + 1) (p4 + 1) _ _ _ h) rfl ?_
                      exact x_iret (pc := 263) dX0_speak_263
                    · have h := aw_neg h c_42
                      by_cases c_43 : r_3 = 70
                      · have h := aw_pos h c_43
                        refine x_lin (pc := 30) (off := 234) 70 264 dX0_speak_30 (by decide) c_43 (by decide) (by decide) ?_
                        refine x_aload_n (pc := 264) 0 dX0_speak_264 rfl rfl ?_
                        refine x_iconst (pc := 265) (w := 3) dX0_speak_265 ic_3 ?_
                        refine x_iconst (pc := 266) (w := 2) dX0_speak_266 ic_2 ?_
                        refine x_iload_n (pc := 267) 3 dX0_speak_267 rfl rfl ?_
                        refine x_iload (pc := 268) dX0_speak_268 rfl ?_
                        obtain ⟨r_45, M_46, e_44, h⟩ := aw_bi_e h
                        refine x_callV (pc := 270) (As := [.int 3, .int 2, .int p3, .int (p4 + 1)]) (rest := []) (st' := [.int r_45]) (w := (some (.int r_45))) dX0_speak_270 cw_X0_32 hd1 gc_56 rfl rfl rfl (Nat.le_of_ble_eq_true rfl) (hg_tc_Ch_speak (d - 1) ho_0 3 2 p3 (p4 + 1) _ _ _ e_44) rfl ?_
                        refine x_aload_n (pc := 273) 0 dX0_speak_273 rfl rfl ?_
                        refine x_get (pc := 274) dX0_speak_274 lk_X0_26 gc_56 rfl rfl ?_
                        refine x_ixor (pc := 277) dX0_speak_277 ?_
                        obtain ⟨rfl, rfl⟩ := aw_so h
                        exact x_iret (pc := 278) dX0_speak_278
                      · have h := aw_neg h c_43
                        by_cases c_47 : r_3 = 71
                        · have h := aw_pos h c_47
                          refine x_lin (pc := 30) (off := 249) 71 279 dX0_speak_30 (by decide) c_47 (by decide) (by decide) ?_
                          refine x_aload_n (pc := 279) 0 dX0_speak_279 rfl rfl ?_
                          refine x_aload_n (pc := 280) 0 dX0_speak_280 rfl rfl ?_
                          refine x_get (pc := 281) dX0_speak_281 lk_X0_21 gc_56 rfl rfl ?_
                          refine x_iconst (pc := 284) (w := 1) dX0_speak_284 ic_1 ?_
                          refine x_iload_n (pc := 285) 3 dX0_speak_285 rfl rfl ?_
                          refine x_iload (pc := 286) dX0_speak_286 rfl ?_
                          obtain ⟨r_49, M_50, e_48, h⟩ := aw_bi_e h
                          refine x_callV (pc := 288) (As := [.int (M_6 56 2), .int 1, .int p3, .int (p4 + 1)]) (rest := []) (st' := [.int r_49]) (w := (some (.int r_49))) dX0_speak_288 cw_X0_32 hd1 gc_56 rfl rfl rfl (Nat.le_of_ble_eq_true rfl) (hg_tc_Ch_speak (d - 1) ho_0 (M_6 56 2) 1 p3 (p4 + 1) _ _ _ e_48) rfl ?_
                          refine x_aload_n (pc := 291) 0 dX0_speak_291 rfl rfl ?_
                          refine x_iconst (pc := 292) (w := 3) dX0_speak_292 ic_3 ?_
                          refine x_iconst (pc := 293) (w := 3) dX0_speak_293 ic_3 ?_
                          refine x_iload_n (pc := 294) 3 dX0_speak_294 rfl rfl ?_
                          refine x_iload (pc := 295) dX0_speak_295 rfl ?_
                          obtain ⟨r_52, M_53, e_51, h⟩ := aw_bi_e h
                          refine x_callV (pc := 297) (As := [.int 3, .int 3, .int p3, .int (p4 + 1)]) (rest := [.int r_49]) (st' := [.int r_52, .int r_49]) (w := (some (.int r_52))) dX0_speak_297 cw_X0_32 hd1 gc_56 rfl rfl rfl (Nat.le_of_ble_eq_true rfl) (hg_tc_Ch_speak (d - 1) ho_0 3 3 p3 (p4 + 1) _ _ _ e_51) rfl ?_
                          refine x_isub (pc := 300) dX0_speak_300 ?_
                          obtain ⟨rfl, rfl⟩ := aw_so h
                          exact x_iret (pc := 301) dX0_speak_301
                        · have h := aw_neg h c_47
                          refine x_lout (pc := 30) (off := 272) 302 dX0_speak_30 (by decide) (by show Op.lookupswitch.offset [(10, 98), (11, 105), (12, 120), (13, 127), (20, 153), (30, 165), (40, 188), (50, 199), (60, 222), (70, 234), (71, 249)] _ _ = _; rw [lv_osw c_7 (a := 10) rfl, lv_osw c_8 (a := 11) rfl, lv_osw c_12 (a := 12) rfl, lv_osw c_13 (a := 13) rfl, lv_osw c_20 (a := 20) rfl, lv_osw c_24 (a := 30) rfl, lv_osw c_31 (a := 40) rfl, lv_osw c_35 (a := 50) rfl, lv_osw c_42 (a := 60) rfl, lv_osw c_43 (a := 70) rfl, lv_osw c_47 (a := 71) rfl]; rfl) (by decide) ?_
                          refine x_iconst (pc := 302) (w := 0) dX0_speak_302 ic_0 ?_
                          obtain ⟨rfl, rfl⟩ := aw_so h
                          exact x_iret (pc := 303) dX0_speak_303
  · have h := aw_neg h c_1
    refine x_iconst (pc := 7) (w := 0) dX0_speak_7 ic_0 ?_
    obtain ⟨rfl, rfl⟩ := aw_so h
    exact x_iret (pc := 8) dX0_speak_8
def FX_fc_Ch_speak : Nat → Int32 → Int32 → Int32 → Int32 → aw_M → Option (Int32 × aw_M)
  | 0, _, _, _, _, _ => none
  | n + 1, p1, p2, p3, p4, M => fc_Ch_speak (FX_fc_Ch_speak n) p1 p2 p3 p4 M
theorem FX_fc_Ch_speak_ok {l : Launch} {D : va_G} {cy : Nat → ClassId} {ad : Nat → Nat} {A : Nat → Prop} : ∀ (n d : Nat), n * 3 ≤ d → ∀ (p1 : Int32) (p2 : Int32) (p3 : Int32) (p4 : Int32) (M : aw_M) (r : Int32) (M1 : aw_M), FX_fc_Ch_speak n p1 p2 p3 p4 M = some (r, M1) → AX l D cy ad A gc_G yX0_speak cX0_speak 7 (some .int) d [.ref (ad 56), .int p1, .int p2, .int p3, .int p4] M (some (.int r)) M1 := by
  intro n
  induction n with
  | zero => intro d _ p1 p2 p3 p4 M r M1 h; cases h
  | succ n ih =>
    intro d hd p1 p2 p3 p4 M r M1 h
    exact tc_Ch_speak (n * 3) (FX_fc_Ch_speak n) (fun d hd => ih d (by omega)) d (by omega) p1 p2 p3 p4 M r M1 h
def fc_Ch_sing (i1 : Nat) (p2 : Int32) (p3 : Int32) (p4 : Int32) (M : aw_M) : Option (Int32 × aw_M) :=
  FX_fc_Ch_speak 45 ((aw_u (aw_u (aw_u (aw_u M 56 2 (M (14 + i1) 0)) 56 3 ((aw_u M 56 2 (M (14 + i1) 0)) (14 + i1) 1)) 56 4 p2) 56 1 0) 56 2) p3 p4 0 (aw_u (aw_u (aw_u (aw_u M 56 2 (M (14 + i1) 0)) 56 3 ((aw_u M 56 2 (M (14 + i1) 0)) (14 + i1) 1)) 56 4 p2) 56 1 0)
set_option maxRecDepth 20000 in
theorem tc_Ch_sing {l : Launch} {D : va_G} {cy : Nat → ClassId} {ad : Nat → Nat} {A : Nat → Prop} (d : Nat) (hd : 136 ≤ d) (i1 : Nat) (h1 : i1 < 12) (p2 : Int32) (p3 : Int32) (p4 : Int32) (M : aw_M) (r : Int32) (M1 : aw_M) (h : fc_Ch_sing i1 p2 p3 p4 M = some (r, M1)) : AX l D cy ad A gc_G yX0_sing cX0_sing 5 (some .int) d [.ref (ad 56), .ref (ad (14 + i1)), .int p2, .int p3, .int p4] M (some (.int r)) M1 := by
  have hd1 : (d - 1) + 1 ≤ d := by omega
  have hm1 : 1 ≤ d := by omega
  have hh_135 : 135 ≤ d - 1 := by omega
  refine AX.of (own := RX0) (by decide +kernel) rfl (Nat.le_of_ble_eq_true rfl) ?_
  unfold fc_Ch_sing at h
  show AW l D cy ad A gc_G RX0 cX0_sing 5 (some .int) d (some (.int r)) M1 0 [(0, .ref (ad 56)), (1, .ref (ad (14 + i1))), (2, .int p2), (3, .int p3), (4, .int p4)] [] M
  refine x_aload_n (pc := 0) 0 dX0_sing_0 rfl rfl ?_
  refine x_aload_n (pc := 1) 1 dX0_sing_1 rfl rfl ?_
  refine x_get (pc := 2) dX0_sing_2 lk_X0_15 (gc_cloth (i := i1) h1) rfl rfl ?_
  refine x_put (pc := 5) (x := (M (14 + i1) 0)) dX0_sing_5 lk_X0_21 lp_X0_2 gc_56 rfl rfl rfl rfl ?_
  refine x_aload_n (pc := 8) 0 dX0_sing_8 rfl rfl ?_
  refine x_aload_n (pc := 9) 1 dX0_sing_9 rfl rfl ?_
  refine x_get (pc := 10) dX0_sing_10 lk_X0_22 (gc_cloth (i := i1) h1) rfl rfl ?_
  refine x_put (pc := 13) (x := ((aw_u M 56 2 (M (14 + i1) 0)) (14 + i1) 1)) dX0_sing_13 lk_X0_25 lp_X0_3 gc_56 rfl rfl rfl rfl ?_
  refine x_aload_n (pc := 16) 0 dX0_sing_16 rfl rfl ?_
  refine x_iload_n (pc := 17) 2 dX0_sing_17 rfl rfl ?_
  refine x_put (pc := 18) (x := p2) dX0_sing_18 lk_X0_26 lp_X0_4 gc_56 rfl rfl rfl rfl ?_
  refine x_aload_n (pc := 21) 0 dX0_sing_21 rfl rfl ?_
  refine x_iconst (pc := 22) (w := 0) dX0_sing_22 ic_0 ?_
  refine x_put (pc := 23) (x := 0) dX0_sing_23 lk_X0_29 lp_X0_1 gc_56 rfl rfl rfl rfl ?_
  refine x_aload_n (pc := 26) 0 dX0_sing_26 rfl rfl ?_
  refine x_aload_n (pc := 27) 0 dX0_sing_27 rfl rfl ?_
  refine x_get (pc := 28) dX0_sing_28 lk_X0_21 gc_56 rfl rfl ?_
  refine x_iload_n (pc := 31) 3 dX0_sing_31 rfl rfl ?_
  refine x_iload (pc := 32) dX0_sing_32 rfl ?_
  refine x_iconst (pc := 34) (w := 0) dX0_sing_34 ic_0 ?_
  refine x_callV (pc := 35) (As := [.int ((aw_u (aw_u (aw_u (aw_u M 56 2 (M (14 + i1) 0)) 56 3 ((aw_u M 56 2 (M (14 + i1) 0)) (14 + i1) 1)) 56 4 p2) 56 1 0) 56 2), .int p3, .int p4, .int 0]) (rest := []) (st' := [.int r]) (w := (some (.int r))) dX0_sing_35 cw_X0_32 hd1 gc_56 rfl rfl rfl (Nat.le_of_ble_eq_true rfl) ((FX_fc_Ch_speak_ok 45) (d - 1) hh_135 ((aw_u (aw_u (aw_u (aw_u M 56 2 (M (14 + i1) 0)) 56 3 ((aw_u M 56 2 (M (14 + i1) 0)) (14 + i1) 1)) 56 4 p2) 56 1 0) 56 2) p3 p4 0 _ _ _ h) rfl ?_
  exact x_iret (pc := 38) dX0_sing_38
def fc_Cl_makeOf (i0 : Nat) (p1 : Int32) (M : aw_M) : Option aw_M :=
  some (aw_u (aw_u M (14 + i0) 0 (p1 / 10)) (14 + i0) 1 (aw_rem p1 10))
set_option maxRecDepth 20000 in
theorem tc_Cl_makeOf {l : Launch} {D : va_G} {cy : Nat → ClassId} {ad : Nat → Nat} {A : Nat → Prop} (d : Nat) (hd : 0 ≤ d) (i0 : Nat) (h0 : i0 < 12) (p1 : Int32) (M : aw_M) (M1 : aw_M) (h : fc_Cl_makeOf i0 p1 M = some M1) : AX l D cy ad A gc_G yX1_makeOf cX1_makeOf 2 none d [.ref (ad (14 + i0)), .int p1] M none M1 := by
  refine AX.of (own := RX1) (by decide +kernel) rfl (Nat.le_of_ble_eq_true rfl) ?_
  unfold fc_Cl_makeOf at h
  show AW l D cy ad A gc_G RX1 cX1_makeOf 2 none d none M1 0 [(0, .ref (ad (14 + i0))), (1, .int p1)] [] M
  refine x_aload_n (pc := 0) 0 dX1_makeOf_0 rfl rfl ?_
  refine x_iload_n (pc := 1) 1 dX1_makeOf_1 rfl rfl ?_
  refine x_bipush (pc := 2) (w := 10) dX1_makeOf_2 bi_10 ?_
  refine x_idiv (pc := 4) dX1_makeOf_4 (by decide) ?_
  refine x_put (pc := 5) (x := (p1 / 10)) dX1_makeOf_5 lk_X1_25 lp_X1_0 (gc_cloth (i := i0) h0) rfl rfl rfl rfl ?_
  refine x_aload_n (pc := 8) 0 dX1_makeOf_8 rfl rfl ?_
  refine x_iload_n (pc := 9) 1 dX1_makeOf_9 rfl rfl ?_
  refine x_bipush (pc := 10) (w := 10) dX1_makeOf_10 bi_10 ?_
  refine x_irem (pc := 12) dX1_makeOf_12 (by decide) ?_
  refine x_put (pc := 13) (x := (aw_rem p1 10)) dX1_makeOf_13 lk_X1_28 lp_X1_1 (gc_cloth (i := i0) h0) rfl rfl rfl rfl ?_
  obtain rfl := aw_sv h
  exact x_vret (pc := 16) dX1_makeOf_16
def fc_Cl_begin (i0 : Nat) (p1 : Int32) (p2 : Int32) (M : aw_M) : Option aw_M :=
  aw_bv (fc_Cl_makeOf i0 p1 M) fun M_2 => (
  some (aw_u (aw_u (aw_u M_2 (14 + i0) 2 p2) (14 + i0) 3 0) (14 + i0) 4 0)
  )
set_option maxRecDepth 20000 in
theorem tc_Cl_begin {l : Launch} {D : va_G} {cy : Nat → ClassId} {ad : Nat → Nat} {A : Nat → Prop} (d : Nat) (hd : 1 ≤ d) (i0 : Nat) (h0 : i0 < 12) (p1 : Int32) (p2 : Int32) (M : aw_M) (M1 : aw_M) (h : fc_Cl_begin i0 p1 p2 M = some M1) : AX l D cy ad A gc_G yX1_begin cX1_begin 3 none d [.ref (ad (14 + i0)), .int p1, .int p2] M none M1 := by
  have hd1 : (d - 1) + 1 ≤ d := by omega
  have hm1 : 1 ≤ d := by omega
  have hh_0 : 0 ≤ d - 1 := by omega
  refine AX.of (own := RX1) (by decide +kernel) rfl (Nat.le_of_ble_eq_true rfl) ?_
  unfold fc_Cl_begin at h
  show AW l D cy ad A gc_G RX1 cX1_begin 3 none d none M1 0 [(0, .ref (ad (14 + i0))), (1, .int p1), (2, .int p2)] [] M
  refine x_aload_n (pc := 0) 0 dX1_begin_0 rfl rfl ?_
  refine x_iload_n (pc := 1) 1 dX1_begin_1 rfl rfl ?_
  obtain ⟨M_2, e_1, h⟩ := aw_bv_e h
  refine x_callV (pc := 2) (As := [.int p1]) (rest := []) (st' := []) (w := none) dX1_begin_2 cw_X1_9 hd1 (gc_cloth (i := i0) h0) rfl rfl rfl (Nat.le_of_ble_eq_true rfl) (tc_Cl_makeOf (d - 1) hh_0 i0 h0 p1 _  _ e_1) rfl ?_
  refine x_aload_n (pc := 5) 0 dX1_begin_5 rfl rfl ?_
  refine x_iload_n (pc := 6) 2 dX1_begin_6 rfl rfl ?_
  refine x_put (pc := 7) (x := p2) dX1_begin_7 lk_X1_15 lp_X1_2 (gc_cloth (i := i0) h0) rfl rfl rfl rfl ?_
  refine x_aload_n (pc := 10) 0 dX1_begin_10 rfl rfl ?_
  refine x_iconst (pc := 11) (w := 0) dX1_begin_11 ic_0 ?_
  refine x_put (pc := 12) (x := 0) dX1_begin_12 lk_X1_19 lp_X1_3 (gc_cloth (i := i0) h0) rfl rfl rfl rfl ?_
  refine x_aload_n (pc := 15) 0 dX1_begin_15 rfl rfl ?_
  refine x_iconst (pc := 16) (w := 0) dX1_begin_16 ic_0 ?_
  refine x_put (pc := 17) (x := 0) dX1_begin_17 lk_X1_22 lp_X1_4 (gc_cloth (i := i0) h0) rfl rfl rfl rfl ?_
  obtain rfl := aw_sv h
  exact x_vret (pc := 20) dX1_begin_20
def fc_Cl_copyFrom (i0 : Nat) (i1 : Nat) (M : aw_M) : Option aw_M :=
  some (aw_u (aw_u (aw_u (aw_u (aw_u M (14 + i0) 0 (M (14 + i1) 0)) (14 + i0) 1 ((aw_u M (14 + i0) 0 (M (14 + i1) 0)) (14 + i1) 1)) (14 + i0) 2 ((aw_u (aw_u M (14 + i0) 0 (M (14 + i1) 0)) (14 + i0) 1 ((aw_u M (14 + i0) 0 (M (14 + i1) 0)) (14 + i1) 1)) (14 + i1) 2)) (14 + i0) 3 ((aw_u (aw_u (aw_u M (14 + i0) 0 (M (14 + i1) 0)) (14 + i0) 1 ((aw_u M (14 + i0) 0 (M (14 + i1) 0)) (14 + i1) 1)) (14 + i0) 2 ((aw_u (aw_u M (14 + i0) 0 (M (14 + i1) 0)) (14 + i0) 1 ((aw_u M (14 + i0) 0 (M (14 + i1) 0)) (14 + i1) 1)) (14 + i1) 2)) (14 + i1) 3)) (14 + i0) 4 ((aw_u (aw_u (aw_u (aw_u M (14 + i0) 0 (M (14 + i1) 0)) (14 + i0) 1 ((aw_u M (14 + i0) 0 (M (14 + i1) 0)) (14 + i1) 1)) (14 + i0) 2 ((aw_u (aw_u M (14 + i0) 0 (M (14 + i1) 0)) (14 + i0) 1 ((aw_u M (14 + i0) 0 (M (14 + i1) 0)) (14 + i1) 1)) (14 + i1) 2)) (14 + i0) 3 ((aw_u (aw_u (aw_u M (14 + i0) 0 (M (14 + i1) 0)) (14 + i0) 1 ((aw_u M (14 + i0) 0 (M (14 + i1) 0)) (14 + i1) 1)) (14 + i0) 2 ((aw_u (aw_u M (14 + i0) 0 (M (14 + i1) 0)) (14 + i0) 1 ((aw_u M (14 + i0) 0 (M (14 + i1) 0)) (14 + i1) 1)) (14 + i1) 2)) (14 + i1) 3)) (14 + i1) 4))
set_option maxRecDepth 20000 in
theorem tc_Cl_copyFrom {l : Launch} {D : va_G} {cy : Nat → ClassId} {ad : Nat → Nat} {A : Nat → Prop} (d : Nat) (hd : 0 ≤ d) (i0 : Nat) (h0 : i0 < 12) (i1 : Nat) (h1 : i1 < 12) (M : aw_M) (M1 : aw_M) (h : fc_Cl_copyFrom i0 i1 M = some M1) : AX l D cy ad A gc_G yX1_copyFrom cX1_copyFrom 2 none d [.ref (ad (14 + i0)), .ref (ad (14 + i1))] M none M1 := by
  refine AX.of (own := RX1) (by decide +kernel) rfl (Nat.le_of_ble_eq_true rfl) ?_
  unfold fc_Cl_copyFrom at h
  show AW l D cy ad A gc_G RX1 cX1_copyFrom 2 none d none M1 0 [(0, .ref (ad (14 + i0))), (1, .ref (ad (14 + i1)))] [] M
  refine x_aload_n (pc := 0) 0 dX1_copyFrom_0 rfl rfl ?_
  refine x_aload_n (pc := 1) 1 dX1_copyFrom_1 rfl rfl ?_
  refine x_get (pc := 2) dX1_copyFrom_2 lk_X1_25 (gc_cloth (i := i1) h1) rfl rfl ?_
  refine x_put (pc := 5) (x := (M (14 + i1) 0)) dX1_copyFrom_5 lk_X1_25 lp_X1_0 (gc_cloth (i := i0) h0) rfl rfl rfl rfl ?_
  refine x_aload_n (pc := 8) 0 dX1_copyFrom_8 rfl rfl ?_
  refine x_aload_n (pc := 9) 1 dX1_copyFrom_9 rfl rfl ?_
  refine x_get (pc := 10) dX1_copyFrom_10 lk_X1_28 (gc_cloth (i := i1) h1) rfl rfl ?_
  refine x_put (pc := 13) (x := ((aw_u M (14 + i0) 0 (M (14 + i1) 0)) (14 + i1) 1)) dX1_copyFrom_13 lk_X1_28 lp_X1_1 (gc_cloth (i := i0) h0) rfl rfl rfl rfl ?_
  refine x_aload_n (pc := 16) 0 dX1_copyFrom_16 rfl rfl ?_
  refine x_aload_n (pc := 17) 1 dX1_copyFrom_17 rfl rfl ?_
  refine x_get (pc := 18) dX1_copyFrom_18 lk_X1_15 (gc_cloth (i := i1) h1) rfl rfl ?_
  refine x_put (pc := 21) (x := ((aw_u (aw_u M (14 + i0) 0 (M (14 + i1) 0)) (14 + i0) 1 ((aw_u M (14 + i0) 0 (M (14 + i1) 0)) (14 + i1) 1)) (14 + i1) 2)) dX1_copyFrom_21 lk_X1_15 lp_X1_2 (gc_cloth (i := i0) h0) rfl rfl rfl rfl ?_
  refine x_aload_n (pc := 24) 0 dX1_copyFrom_24 rfl rfl ?_
  refine x_aload_n (pc := 25) 1 dX1_copyFrom_25 rfl rfl ?_
  refine x_get (pc := 26) dX1_copyFrom_26 lk_X1_19 (gc_cloth (i := i1) h1) rfl rfl ?_
  refine x_put (pc := 29) (x := ((aw_u (aw_u (aw_u M (14 + i0) 0 (M (14 + i1) 0)) (14 + i0) 1 ((aw_u M (14 + i0) 0 (M (14 + i1) 0)) (14 + i1) 1)) (14 + i0) 2 ((aw_u (aw_u M (14 + i0) 0 (M (14 + i1) 0)) (14 + i0) 1 ((aw_u M (14 + i0) 0 (M (14 + i1) 0)) (14 + i1) 1)) (14 + i1) 2)) (14 + i1) 3)) dX1_copyFrom_29 lk_X1_19 lp_X1_3 (gc_cloth (i := i0) h0) rfl rfl rfl rfl ?_
  refine x_aload_n (pc := 32) 0 dX1_copyFrom_32 rfl rfl ?_
  refine x_aload_n (pc := 33) 1 dX1_copyFrom_33 rfl rfl ?_
  refine x_get (pc := 34) dX1_copyFrom_34 lk_X1_22 (gc_cloth (i := i1) h1) rfl rfl ?_
  refine x_put (pc := 37) (x := ((aw_u (aw_u (aw_u (aw_u M (14 + i0) 0 (M (14 + i1) 0)) (14 + i0) 1 ((aw_u M (14 + i0) 0 (M (14 + i1) 0)) (14 + i1) 1)) (14 + i0) 2 ((aw_u (aw_u M (14 + i0) 0 (M (14 + i1) 0)) (14 + i0) 1 ((aw_u M (14 + i0) 0 (M (14 + i1) 0)) (14 + i1) 1)) (14 + i1) 2)) (14 + i0) 3 ((aw_u (aw_u (aw_u M (14 + i0) 0 (M (14 + i1) 0)) (14 + i0) 1 ((aw_u M (14 + i0) 0 (M (14 + i1) 0)) (14 + i1) 1)) (14 + i0) 2 ((aw_u (aw_u M (14 + i0) 0 (M (14 + i1) 0)) (14 + i0) 1 ((aw_u M (14 + i0) 0 (M (14 + i1) 0)) (14 + i1) 1)) (14 + i1) 2)) (14 + i1) 3)) (14 + i1) 4)) dX1_copyFrom_37 lk_X1_22 lp_X1_4 (gc_cloth (i := i0) h0) rfl rfl rfl rfl ?_
  obtain rfl := aw_sv h
  exact x_vret (pc := 40) dX1_copyFrom_40
def fc_Cl_isOf_L7 : Nat → Int32 → Int32 → Int32 → aw_M → Option (Int32 × aw_M)
  | 0, _, _, _, _ => none
  | n + 1, p1, p2, p3, M =>
    if (7 : Int32) ≤ p3 then (
      some (0, M)
    ) else (
      if p2 = (-1) then (
        some (0, M)
      ) else (
        if p2 = p1 then (
          some (1, M)
        ) else (
          aw_bi (fc_LB_above p2 M) fun r_5 M_6 => (
          fc_Cl_isOf_L7 n p1 r_5 (p3 + 1) M_6
          )
        )
      )
    )
theorem fc_Cl_isOf_L7_s (n : Nat) (p1 : Int32) (p2 : Int32) (p3 : Int32) (M : aw_M) : fc_Cl_isOf_L7 (n + 1) p1 p2 p3 M = (
    if (7 : Int32) ≤ p3 then (
      some (0, M)
    ) else (
      if p2 = (-1) then (
        some (0, M)
      ) else (
        if p2 = p1 then (
          some (1, M)
        ) else (
          aw_bi (fc_LB_above p2 M) fun r_5 M_6 => (
          fc_Cl_isOf_L7 n p1 r_5 (p3 + 1) M_6
          )
        )
      )
    )
    ) := rfl
set_option maxRecDepth 20000 in
theorem tc_Cl_isOf_L7 {l : Launch} {D : va_G} {cy : Nat → ClassId} {ad : Nat → Nat} {A : Nat → Prop} (d : Nat) (hd : 1 ≤ d) : ∀ (n : Nat) (p1 : Int32) (p2 : Int32) (p3 : Int32) (M : aw_M) (r : Int32) (M1 : aw_M), fc_Cl_isOf_L7 n p1 p2 p3 M = some (r, M1) → AW l D cy ad A gc_G RX1 cX1_isOf 4 (some .boolean) d (some (.int r)) M1 7 [(1, .int p1), (2, .int p2), (3, .int p3)] [] M := by
  have hd1 : (d - 1) + 1 ≤ d := by omega
  have hm1 : 1 ≤ d := by omega
  have hh_0 : 0 ≤ d - 1 := by omega
  intro n
  induction n with
  | zero => intro p1 p2 p3 M r M1 h; cases h
  | succ n ih =>
    intro p1 p2 p3 M r M1 h
    rw [fc_Cl_isOf_L7_s] at h
    refine x_iload_n (pc := 7) 3 dX1_isOf_7 rfl rfl ?_
    refine x_bipush (pc := 8) (w := 7) dX1_isOf_8 bi_7 ?_
    refine x_icmp_ge (pc := 10) 36 dX1_isOf_10 (by decide) (fun c_1 => ?_) (fun c_1 => ?_)
    · have h := aw_pos h c_1
      refine x_iconst (pc := 36) (w := 0) dX1_isOf_36 ic_0 ?_
      obtain ⟨rfl, rfl⟩ := aw_so h
      exact x_zret (pc := 37) aw_b0 dX1_isOf_37
    · have h := aw_neg h c_1
      refine x_iload_n (pc := 13) 2 dX1_isOf_13 rfl rfl ?_
      refine x_iconst (pc := 14) (w := (-1)) dX1_isOf_14 ic_m1 ?_
      refine x_icmp_eq (pc := 15) 36 dX1_isOf_15 (by decide) (fun c_2 => ?_) (fun c_2 => ?_)
      · have h := aw_pos h c_2
        refine x_iconst (pc := 36) (w := 0) dX1_isOf_36 ic_0 ?_
        obtain ⟨rfl, rfl⟩ := aw_so h
        exact x_zret (pc := 37) aw_b0 dX1_isOf_37
      · have h := aw_neg h c_2
        refine x_iload_n (pc := 18) 2 dX1_isOf_18 rfl rfl ?_
        refine x_iload_n (pc := 19) 1 dX1_isOf_19 rfl rfl ?_
        refine x_icmp_ne (pc := 20) 25 dX1_isOf_20 (by decide) (fun c_3 => ?_) (fun c_3 => ?_)
        · have h := aw_neg h c_3
          refine x_iload_n (pc := 25) 2 dX1_isOf_25 rfl rfl ?_
          obtain ⟨r_5, M_6, e_4, h⟩ := aw_bi_e h
          refine x_callSN (pc := 26) (As := [.int p2]) (rest := []) (st' := [.int r_5]) (w := (some (.int r_5))) (host := "LoopsBelow") dX1_isOf_26 (by decide +kernel) cw_X1_31 hd1 rfl rfl (Nat.le_of_ble_eq_true rfl) (tc_LB_above (d - 1) hh_0 p2 _ _ _ e_4) rfl ?_
          refine x_istore_n (pc := 29) 2 [(2, .int r_5), (1, .int p1), (3, .int p3)] dX1_isOf_29 rfl (by decide) rfl ?_
          refine x_iinc (pc := 30) (p3 + 1) [(3, .int (p3 + 1)), (2, .int r_5), (1, .int p1)] dX1_isOf_30 rfl (congrArg (fun z => p3 + z) ic_1) (by decide) rfl ?_
          refine x_goto (pc := 33) 7 dX1_isOf_33 (by decide) ?_
          refine x_lv [2, 1, 0] [(1, .int p1), (2, .int r_5), (3, .int (p3 + 1))] rfl ?_
          exact ih p1 r_5 (p3 + 1) _ _ _ h
        · have h := aw_pos h c_3
          refine x_iconst (pc := 23) (w := 1) dX1_isOf_23 ic_1 ?_
          obtain ⟨rfl, rfl⟩ := aw_so h
          exact x_zret (pc := 24) aw_b1 dX1_isOf_24
def fc_Cl_isOf (i0 : Nat) (p1 : Int32) (M : aw_M) : Option (Int32 × aw_M) :=
  fc_Cl_isOf_L7  2000 p1 (M (14 + i0) 0) 0 M
set_option maxRecDepth 20000 in
theorem tc_Cl_isOf {l : Launch} {D : va_G} {cy : Nat → ClassId} {ad : Nat → Nat} {A : Nat → Prop} (d : Nat) (hd : 1 ≤ d) (i0 : Nat) (h0 : i0 < 12) (p1 : Int32) (M : aw_M) (r : Int32) (M1 : aw_M) (h : fc_Cl_isOf i0 p1 M = some (r, M1)) : AX l D cy ad A gc_G yX1_isOf cX1_isOf 4 (some .boolean) d [.ref (ad (14 + i0)), .int p1] M (some (.int r)) M1 := by
  have hd1 : (d - 1) + 1 ≤ d := by omega
  have hm1 : 1 ≤ d := by omega
  have hh_0 : 0 ≤ d - 1 := by omega
  refine AX.of (own := RX1) (by decide +kernel) rfl (Nat.le_of_ble_eq_true rfl) ?_
  unfold fc_Cl_isOf at h
  show AW l D cy ad A gc_G RX1 cX1_isOf 4 (some .boolean) d (some (.int r)) M1 0 [(0, .ref (ad (14 + i0))), (1, .int p1)] [] M
  refine x_aload_n (pc := 0) 0 dX1_isOf_0 rfl rfl ?_
  refine x_get (pc := 1) dX1_isOf_1 lk_X1_25 (gc_cloth (i := i0) h0) rfl rfl ?_
  refine x_istore_n (pc := 4) 2 [(2, .int (M (14 + i0) 0)), (0, .ref (ad (14 + i0))), (1, .int p1)] dX1_isOf_4 rfl (by decide) rfl ?_
  refine x_iconst (pc := 5) (w := 0) dX1_isOf_5 ic_0 ?_
  refine x_istore_n (pc := 6) 3 [(3, .int 0), (2, .int (M (14 + i0) 0)), (0, .ref (ad (14 + i0))), (1, .int p1)] dX1_isOf_6 rfl (by decide) rfl ?_
  refine x_lv [3, 1, 0] [(1, .int p1), (2, .int (M (14 + i0) 0)), (3, .int 0)] rfl ?_
  exact tc_Cl_isOf_L7 d hd  2000 p1 (M (14 + i0) 0) 0 _ _ _ h
def fc_Cl_wantsMoreAs (i0 : Nat) (p1 : Int32) (M : aw_M) : Option (Int32 × aw_M) :=
  if p1 = 1 then (
    some ((-2), M)
  ) else (
    if p1 = 2 then (
      some (((M (14 + i0) 2) / 2), M)
    ) else (
      if p1 = 3 then (
        some ((aw_rem (M (14 + i0) 1) 3), M)
      ) else (
        if p1 = 4 then (
          some (1, M)
        ) else (
          if p1 = 5 then (
            some ((-(aw_rem (M (14 + i0) 1) 2)), M)
          ) else (
            some (0, M)
          )
        )
      )
    )
  )
set_option maxRecDepth 20000 in
theorem tc_Cl_wantsMoreAs {l : Launch} {D : va_G} {cy : Nat → ClassId} {ad : Nat → Nat} {A : Nat → Prop} (d : Nat) (hd : 0 ≤ d) (i0 : Nat) (h0 : i0 < 12) (p1 : Int32) (M : aw_M) (r : Int32) (M1 : aw_M) (h : fc_Cl_wantsMoreAs i0 p1 M = some (r, M1)) : AX l D cy ad A gc_G yX1_wantsMoreAs cX1_wantsMoreAs 2 (some .int) d [.ref (ad (14 + i0)), .int p1] M (some (.int r)) M1 := by
  refine AX.of (own := RX1) (by decide +kernel) rfl (Nat.le_of_ble_eq_true rfl) ?_
  unfold fc_Cl_wantsMoreAs at h
  show AW l D cy ad A gc_G RX1 cX1_wantsMoreAs 2 (some .int) d (some (.int r)) M1 0 [(0, .ref (ad (14 + i0))), (1, .int p1)] [] M
  refine x_iload_n (pc := 0) 1 dX1_wantsMoreAs_0 rfl rfl ?_
  by_cases c_1 : p1 = 1
  · have h := aw_pos h c_1
    refine x_tin (pc := 1) (off := 35) 1 36 dX1_wantsMoreAs_1 c_1 (by decide) (by decide) rfl (by decide) ?_
    refine x_bipush (pc := 36) (w := (-2)) dX1_wantsMoreAs_36 bi_m2 ?_
    obtain ⟨rfl, rfl⟩ := aw_so h
    exact x_iret (pc := 38) dX1_wantsMoreAs_38
  · have h := aw_neg h c_1
    by_cases c_2 : p1 = 2
    · have h := aw_pos h c_2
      refine x_tin (pc := 1) (off := 38) 2 39 dX1_wantsMoreAs_1 c_2 (by decide) (by decide) rfl (by decide) ?_
      refine x_aload_n (pc := 39) 0 dX1_wantsMoreAs_39 rfl rfl ?_
      refine x_get (pc := 40) dX1_wantsMoreAs_40 lk_X1_15 (gc_cloth (i := i0) h0) rfl rfl ?_
      refine x_iconst (pc := 43) (w := 2) dX1_wantsMoreAs_43 ic_2 ?_
      refine x_idiv (pc := 44) dX1_wantsMoreAs_44 (by decide) ?_
      obtain ⟨rfl, rfl⟩ := aw_so h
      exact x_iret (pc := 45) dX1_wantsMoreAs_45
    · have h := aw_neg h c_2
      by_cases c_3 : p1 = 3
      · have h := aw_pos h c_3
        refine x_tin (pc := 1) (off := 45) 3 46 dX1_wantsMoreAs_1 c_3 (by decide) (by decide) rfl (by decide) ?_
        refine x_aload_n (pc := 46) 0 dX1_wantsMoreAs_46 rfl rfl ?_
        refine x_get (pc := 47) dX1_wantsMoreAs_47 lk_X1_28 (gc_cloth (i := i0) h0) rfl rfl ?_
        refine x_iconst (pc := 50) (w := 3) dX1_wantsMoreAs_50 ic_3 ?_
        refine x_irem (pc := 51) dX1_wantsMoreAs_51 (by decide) ?_
        obtain ⟨rfl, rfl⟩ := aw_so h
        exact x_iret (pc := 52) dX1_wantsMoreAs_52
      · have h := aw_neg h c_3
        by_cases c_4 : p1 = 4
        · have h := aw_pos h c_4
          refine x_tin (pc := 1) (off := 52) 4 53 dX1_wantsMoreAs_1 c_4 (by decide) (by decide) rfl (by decide) ?_
          refine x_iconst (pc := 53) (w := 1) dX1_wantsMoreAs_53 ic_1 ?_
          obtain ⟨rfl, rfl⟩ := aw_so h
          exact x_iret (pc := 54) dX1_wantsMoreAs_54
        · have h := aw_neg h c_4
          by_cases c_5 : p1 = 5
          · have h := aw_pos h c_5
            refine x_tin (pc := 1) (off := 54) 5 55 dX1_wantsMoreAs_1 c_5 (by decide) (by decide) rfl (by decide) ?_
            refine x_aload_n (pc := 55) 0 dX1_wantsMoreAs_55 rfl rfl ?_
            refine x_get (pc := 56) dX1_wantsMoreAs_56 lk_X1_28 (gc_cloth (i := i0) h0) rfl rfl ?_
            refine x_iconst (pc := 59) (w := 2) dX1_wantsMoreAs_59 ic_2 ?_
            refine x_irem (pc := 60) dX1_wantsMoreAs_60 (by decide) ?_
            refine x_ineg (pc := 61) dX1_wantsMoreAs_61 ?_
            obtain ⟨rfl, rfl⟩ := aw_so h
            exact x_iret (pc := 62) dX1_wantsMoreAs_62
          · have h := aw_neg h c_5
            refine x_tout (pc := 1) 63 dX1_wantsMoreAs_1 (by have z0 := lv_neT c_1 (a := 1) rfl; have z1 := lv_neT c_2 (a := 2) rfl; have z2 := lv_neT c_3 (a := 3) rfl; have z3 := lv_neT c_4 (a := 4) rfl; have z4 := lv_neT c_5 (a := 5) rfl; omega) (by decide) ?_
            refine x_iconst (pc := 63) (w := 0) dX1_wantsMoreAs_63 ic_0 ?_
            obtain ⟨rfl, rfl⟩ := aw_so h
            exact x_iret (pc := 64) dX1_wantsMoreAs_64
def fc_Cl_wantsMore_L9 : Nat → Nat → Int32 → Int32 → Int32 → aw_M → Option (Int32 × aw_M)
  | 0, _, _, _, _, _ => none
  | n + 1, i0, p1, p2, p3, M =>
    if (7 : Int32) ≤ p3 then (
      some (p1, M)
    ) else (
      if p2 = (-1) then (
        some (p1, M)
      ) else (
        aw_bi (fc_Cl_wantsMoreAs i0 p2 M) fun r_4 M_5 => (
        aw_bi (fc_LB_above p2 M_5) fun r_7 M_8 => (
        fc_Cl_wantsMore_L9 n i0 (p1 + r_4) r_7 (p3 + 1) M_8
        )
        )
      )
    )
theorem fc_Cl_wantsMore_L9_s (n : Nat) (i0 : Nat) (p1 : Int32) (p2 : Int32) (p3 : Int32) (M : aw_M) : fc_Cl_wantsMore_L9 (n + 1) i0 p1 p2 p3 M = (
    if (7 : Int32) ≤ p3 then (
      some (p1, M)
    ) else (
      if p2 = (-1) then (
        some (p1, M)
      ) else (
        aw_bi (fc_Cl_wantsMoreAs i0 p2 M) fun r_4 M_5 => (
        aw_bi (fc_LB_above p2 M_5) fun r_7 M_8 => (
        fc_Cl_wantsMore_L9 n i0 (p1 + r_4) r_7 (p3 + 1) M_8
        )
        )
      )
    )
    ) := rfl
set_option maxRecDepth 20000 in
theorem tc_Cl_wantsMore_L9 {l : Launch} {D : va_G} {cy : Nat → ClassId} {ad : Nat → Nat} {A : Nat → Prop} (d : Nat) (hd : 1 ≤ d) : ∀ (n : Nat) (i0 : Nat) (h0 : i0 < 12) (p1 : Int32) (p2 : Int32) (p3 : Int32) (M : aw_M) (r : Int32) (M1 : aw_M), fc_Cl_wantsMore_L9 n i0 p1 p2 p3 M = some (r, M1) → AW l D cy ad A gc_G RX1 cX1_wantsMore 4 (some .int) d (some (.int r)) M1 9 [(0, .ref (ad (14 + i0))), (1, .int p1), (2, .int p2), (3, .int p3)] [] M := by
  have hd1 : (d - 1) + 1 ≤ d := by omega
  have hm1 : 1 ≤ d := by omega
  have hh_0 : 0 ≤ d - 1 := by omega
  intro n
  induction n with
  | zero => intro i0 h0 p1 p2 p3 M r M1 h; cases h
  | succ n ih =>
    intro i0 h0 p1 p2 p3 M r M1 h
    rw [fc_Cl_wantsMore_L9_s] at h
    refine x_iload_n (pc := 9) 3 dX1_wantsMore_9 rfl rfl ?_
    refine x_bipush (pc := 10) (w := 7) dX1_wantsMore_10 bi_7 ?_
    refine x_icmp_ge (pc := 12) 39 dX1_wantsMore_12 (by decide) (fun c_1 => ?_) (fun c_1 => ?_)
    · have h := aw_pos h c_1
      refine x_iload_n (pc := 39) 1 dX1_wantsMore_39 rfl rfl ?_
      obtain ⟨rfl, rfl⟩ := aw_so h
      exact x_iret (pc := 40) dX1_wantsMore_40
    · have h := aw_neg h c_1
      refine x_iload_n (pc := 15) 2 dX1_wantsMore_15 rfl rfl ?_
      refine x_iconst (pc := 16) (w := (-1)) dX1_wantsMore_16 ic_m1 ?_
      refine x_icmp_eq (pc := 17) 39 dX1_wantsMore_17 (by decide) (fun c_2 => ?_) (fun c_2 => ?_)
      · have h := aw_pos h c_2
        refine x_iload_n (pc := 39) 1 dX1_wantsMore_39 rfl rfl ?_
        obtain ⟨rfl, rfl⟩ := aw_so h
        exact x_iret (pc := 40) dX1_wantsMore_40
      · have h := aw_neg h c_2
        refine x_iload_n (pc := 20) 1 dX1_wantsMore_20 rfl rfl ?_
        refine x_aload_n (pc := 21) 0 dX1_wantsMore_21 rfl rfl ?_
        refine x_iload_n (pc := 22) 2 dX1_wantsMore_22 rfl rfl ?_
        obtain ⟨r_4, M_5, e_3, h⟩ := aw_bi_e h
        refine x_callV (pc := 23) (As := [.int p2]) (rest := [.int p1]) (st' := [.int r_4, .int p1]) (w := (some (.int r_4))) dX1_wantsMore_23 cw_X1_35 hd1 (gc_cloth (i := i0) h0) rfl rfl rfl (Nat.le_of_ble_eq_true rfl) (tc_Cl_wantsMoreAs (d - 1) hh_0 i0 h0 p2 _ _ _ e_3) rfl ?_
        refine x_iadd (pc := 26) dX1_wantsMore_26 ?_
        refine x_istore_n (pc := 27) 1 [(1, .int (p1 + r_4)), (0, .ref (ad (14 + i0))), (2, .int p2), (3, .int p3)] dX1_wantsMore_27 rfl (by decide) rfl ?_
        refine x_iload_n (pc := 28) 2 dX1_wantsMore_28 rfl rfl ?_
        obtain ⟨r_7, M_8, e_6, h⟩ := aw_bi_e h
        refine x_callSN (pc := 29) (As := [.int p2]) (rest := []) (st' := [.int r_7]) (w := (some (.int r_7))) (host := "LoopsBelow") dX1_wantsMore_29 (by decide +kernel) cw_X1_31 hd1 rfl rfl (Nat.le_of_ble_eq_true rfl) (tc_LB_above (d - 1) hh_0 p2 _ _ _ e_6) rfl ?_
        refine x_istore_n (pc := 32) 2 [(2, .int r_7), (1, .int (p1 + r_4)), (0, .ref (ad (14 + i0))), (3, .int p3)] dX1_wantsMore_32 rfl (by decide) rfl ?_
        refine x_iinc (pc := 33) (p3 + 1) [(3, .int (p3 + 1)), (2, .int r_7), (1, .int (p1 + r_4)), (0, .ref (ad (14 + i0)))] dX1_wantsMore_33 rfl (congrArg (fun z => p3 + z) ic_1) (by decide) rfl ?_
        refine x_goto (pc := 36) 9 dX1_wantsMore_36 (by decide) ?_
        refine x_lv [3, 2, 1, 0] [(0, .ref (ad (14 + i0))), (1, .int (p1 + r_4)), (2, .int r_7), (3, .int (p3 + 1))] rfl ?_
        exact ih i0 h0 (p1 + r_4) r_7 (p3 + 1) _ _ _ h
def fc_Cl_wantsMore (i0 : Nat) (M : aw_M) : Option (Int32 × aw_M) :=
  fc_Cl_wantsMore_L9  2000 i0 0 (M (14 + i0) 0) 0 M
set_option maxRecDepth 20000 in
theorem tc_Cl_wantsMore {l : Launch} {D : va_G} {cy : Nat → ClassId} {ad : Nat → Nat} {A : Nat → Prop} (d : Nat) (hd : 1 ≤ d) (i0 : Nat) (h0 : i0 < 12) (M : aw_M) (r : Int32) (M1 : aw_M) (h : fc_Cl_wantsMore i0 M = some (r, M1)) : AX l D cy ad A gc_G yX1_wantsMore cX1_wantsMore 4 (some .int) d [.ref (ad (14 + i0))] M (some (.int r)) M1 := by
  have hd1 : (d - 1) + 1 ≤ d := by omega
  have hm1 : 1 ≤ d := by omega
  have hh_0 : 0 ≤ d - 1 := by omega
  refine AX.of (own := RX1) (by decide +kernel) rfl (Nat.le_of_ble_eq_true rfl) ?_
  unfold fc_Cl_wantsMore at h
  show AW l D cy ad A gc_G RX1 cX1_wantsMore 4 (some .int) d (some (.int r)) M1 0 [(0, .ref (ad (14 + i0)))] [] M
  refine x_iconst (pc := 0) (w := 0) dX1_wantsMore_0 ic_0 ?_
  refine x_istore_n (pc := 1) 1 [(1, .int 0), (0, .ref (ad (14 + i0)))] dX1_wantsMore_1 rfl (by decide) rfl ?_
  refine x_aload_n (pc := 2) 0 dX1_wantsMore_2 rfl rfl ?_
  refine x_get (pc := 3) dX1_wantsMore_3 lk_X1_25 (gc_cloth (i := i0) h0) rfl rfl ?_
  refine x_istore_n (pc := 6) 2 [(2, .int (M (14 + i0) 0)), (1, .int 0), (0, .ref (ad (14 + i0)))] dX1_wantsMore_6 rfl (by decide) rfl ?_
  refine x_iconst (pc := 7) (w := 0) dX1_wantsMore_7 ic_0 ?_
  refine x_istore_n (pc := 8) 3 [(3, .int 0), (2, .int (M (14 + i0) 0)), (1, .int 0), (0, .ref (ad (14 + i0)))] dX1_wantsMore_8 rfl (by decide) rfl ?_
  refine x_lv [3, 2, 1, 0] [(0, .ref (ad (14 + i0))), (1, .int 0), (2, .int (M (14 + i0) 0)), (3, .int 0)] rfl ?_
  exact tc_Cl_wantsMore_L9 d hd  2000 i0 h0 0 (M (14 + i0) 0) 0 _ _ _ h
def fc_Cl_bears (i0 : Nat) (M : aw_M) : Option (Int32 × aw_M) :=
  if (M (14 + i0) 0) = 1 then (
    some (0, M)
  ) else (
    if (M (14 + i0) 0) = 2 then (
      some (1, M)
    ) else (
      if (M (14 + i0) 0) = 3 then (
        some (2, M)
      ) else (
        if (M (14 + i0) 0) = 4 then (
          some (0, M)
        ) else (
          if (M (14 + i0) 0) = 5 then (
            some (2, M)
          ) else (
            if (M (14 + i0) 0) = 6 then (
              some ((2 + ((M (14 + i0) 1) / 4)), M)
            ) else (
              some (1, M)
            )
          )
        )
      )
    )
  )
set_option maxRecDepth 20000 in
theorem tc_Cl_bears {l : Launch} {D : va_G} {cy : Nat → ClassId} {ad : Nat → Nat} {A : Nat → Prop} (d : Nat) (hd : 0 ≤ d) (i0 : Nat) (h0 : i0 < 12) (M : aw_M) (r : Int32) (M1 : aw_M) (h : fc_Cl_bears i0 M = some (r, M1)) : AX l D cy ad A gc_G yX1_bears cX1_bears 1 (some .int) d [.ref (ad (14 + i0))] M (some (.int r)) M1 := by
  refine AX.of (own := RX1) (by decide +kernel) rfl (Nat.le_of_ble_eq_true rfl) ?_
  unfold fc_Cl_bears at h
  show AW l D cy ad A gc_G RX1 cX1_bears 1 (some .int) d (some (.int r)) M1 0 [(0, .ref (ad (14 + i0)))] [] M
  refine x_aload_n (pc := 0) 0 dX1_bears_0 rfl rfl ?_
  refine x_get (pc := 1) dX1_bears_1 lk_X1_25 (gc_cloth (i := i0) h0) rfl rfl ?_
  by_cases c_1 : (M (14 + i0) 0) = 1
  · have h := aw_pos h c_1
    refine x_tin (pc := 4) (off := 40) 1 44 dX1_bears_4 c_1 (by decide) (by decide) rfl (by decide) ?_
    refine x_iconst (pc := 44) (w := 0) dX1_bears_44 ic_0 ?_
    obtain ⟨rfl, rfl⟩ := aw_so h
    exact x_iret (pc := 45) dX1_bears_45
  · have h := aw_neg h c_1
    by_cases c_2 : (M (14 + i0) 0) = 2
    · have h := aw_pos h c_2
      refine x_tin (pc := 4) (off := 57) 2 61 dX1_bears_4 c_2 (by decide) (by decide) rfl (by decide) ?_
      refine x_iconst (pc := 61) (w := 1) dX1_bears_61 ic_1 ?_
      obtain ⟨rfl, rfl⟩ := aw_so h
      exact x_iret (pc := 62) dX1_bears_62
    · have h := aw_neg h c_2
      by_cases c_3 : (M (14 + i0) 0) = 3
      · have h := aw_pos h c_3
        refine x_tin (pc := 4) (off := 44) 3 48 dX1_bears_4 c_3 (by decide) (by decide) rfl (by decide) ?_
        refine x_iconst (pc := 48) (w := 2) dX1_bears_48 ic_2 ?_
        obtain ⟨rfl, rfl⟩ := aw_so h
        exact x_iret (pc := 49) dX1_bears_49
      · have h := aw_neg h c_3
        by_cases c_4 : (M (14 + i0) 0) = 4
        · have h := aw_pos h c_4
          refine x_tin (pc := 4) (off := 42) 4 46 dX1_bears_4 c_4 (by decide) (by decide) rfl (by decide) ?_
          refine x_iconst (pc := 46) (w := 0) dX1_bears_46 ic_0 ?_
          obtain ⟨rfl, rfl⟩ := aw_so h
          exact x_iret (pc := 47) dX1_bears_47
        · have h := aw_neg h c_4
          by_cases c_5 : (M (14 + i0) 0) = 5
          · have h := aw_pos h c_5
            refine x_tin (pc := 4) (off := 46) 5 50 dX1_bears_4 c_5 (by decide) (by decide) rfl (by decide) ?_
            refine x_iconst (pc := 50) (w := 2) dX1_bears_50 ic_2 ?_
            obtain ⟨rfl, rfl⟩ := aw_so h
            exact x_iret (pc := 51) dX1_bears_51
          · have h := aw_neg h c_5
            by_cases c_6 : (M (14 + i0) 0) = 6
            · have h := aw_pos h c_6
              refine x_tin (pc := 4) (off := 48) 6 52 dX1_bears_4 c_6 (by decide) (by decide) rfl (by decide) ?_
              refine x_iconst (pc := 52) (w := 2) dX1_bears_52 ic_2 ?_
              refine x_aload_n (pc := 53) 0 dX1_bears_53 rfl rfl ?_
              refine x_get (pc := 54) dX1_bears_54 lk_X1_28 (gc_cloth (i := i0) h0) rfl rfl ?_
              refine x_iconst (pc := 57) (w := 4) dX1_bears_57 ic_4 ?_
              refine x_idiv (pc := 58) dX1_bears_58 (by decide) ?_
              refine x_iadd (pc := 59) dX1_bears_59 ?_
              obtain ⟨rfl, rfl⟩ := aw_so h
              exact x_iret (pc := 60) dX1_bears_60
            · have h := aw_neg h c_6
              refine x_tout (pc := 4) 61 dX1_bears_4 (by have z0 := lv_neT c_1 (a := 1) rfl; have z1 := lv_neT c_2 (a := 2) rfl; have z2 := lv_neT c_3 (a := 3) rfl; have z3 := lv_neT c_4 (a := 4) rfl; have z4 := lv_neT c_5 (a := 5) rfl; have z5 := lv_neT c_6 (a := 6) rfl; omega) (by decide) ?_
              refine x_iconst (pc := 61) (w := 1) dX1_bears_61 ic_1 ?_
              obtain ⟨rfl, rfl⟩ := aw_so h
              exact x_iret (pc := 62) dX1_bears_62
def fc_Cl_lintOfYard (i0 : Nat) (M : aw_M) : Option (Int32 × aw_M) :=
  if (M (14 + i0) 0) = 2 then (
    some (2, M)
  ) else (
    if (M (14 + i0) 0) = 3 then (
      some (1, M)
    ) else (
      if (M (14 + i0) 0) = 4 then (
        some (1, M)
      ) else (
        if (M (14 + i0) 0) = 5 then (
          some (2, M)
        ) else (
          if (M (14 + i0) 0) = 6 then (
            some (0, M)
          ) else (
            some (1, M)
          )
        )
      )
    )
  )
set_option maxRecDepth 20000 in
theorem tc_Cl_lintOfYard {l : Launch} {D : va_G} {cy : Nat → ClassId} {ad : Nat → Nat} {A : Nat → Prop} (d : Nat) (hd : 0 ≤ d) (i0 : Nat) (h0 : i0 < 12) (M : aw_M) (r : Int32) (M1 : aw_M) (h : fc_Cl_lintOfYard i0 M = some (r, M1)) : AX l D cy ad A gc_G yX1_lintOfYard cX1_lintOfYard 1 (some .int) d [.ref (ad (14 + i0))] M (some (.int r)) M1 := by
  refine AX.of (own := RX1) (by decide +kernel) rfl (Nat.le_of_ble_eq_true rfl) ?_
  unfold fc_Cl_lintOfYard at h
  show AW l D cy ad A gc_G RX1 cX1_lintOfYard 1 (some .int) d (some (.int r)) M1 0 [(0, .ref (ad (14 + i0)))] [] M
  refine x_aload_n (pc := 0) 0 dX1_lintOfYard_0 rfl rfl ?_
  refine x_get (pc := 1) dX1_lintOfYard_1 lk_X1_25 (gc_cloth (i := i0) h0) rfl rfl ?_
  by_cases c_1 : (M (14 + i0) 0) = 2
  · have h := aw_pos h c_1
    refine x_tin (pc := 4) (off := 38) 2 42 dX1_lintOfYard_4 c_1 (by decide) (by decide) rfl (by decide) ?_
    refine x_iconst (pc := 42) (w := 2) dX1_lintOfYard_42 ic_2 ?_
    obtain ⟨rfl, rfl⟩ := aw_so h
    exact x_iret (pc := 43) dX1_lintOfYard_43
  · have h := aw_neg h c_1
    by_cases c_2 : (M (14 + i0) 0) = 3
    · have h := aw_pos h c_2
      refine x_tin (pc := 4) (off := 42) 3 46 dX1_lintOfYard_4 c_2 (by decide) (by decide) rfl (by decide) ?_
      refine x_iconst (pc := 46) (w := 1) dX1_lintOfYard_46 ic_1 ?_
      obtain ⟨rfl, rfl⟩ := aw_so h
      exact x_iret (pc := 47) dX1_lintOfYard_47
    · have h := aw_neg h c_2
      by_cases c_3 : (M (14 + i0) 0) = 4
      · have h := aw_pos h c_3
        refine x_tin (pc := 4) (off := 42) 4 46 dX1_lintOfYard_4 c_3 (by decide) (by decide) rfl (by decide) ?_
        refine x_iconst (pc := 46) (w := 1) dX1_lintOfYard_46 ic_1 ?_
        obtain ⟨rfl, rfl⟩ := aw_so h
        exact x_iret (pc := 47) dX1_lintOfYard_47
      · have h := aw_neg h c_3
        by_cases c_4 : (M (14 + i0) 0) = 5
        · have h := aw_pos h c_4
          refine x_tin (pc := 4) (off := 40) 5 44 dX1_lintOfYard_4 c_4 (by decide) (by decide) rfl (by decide) ?_
          refine x_iconst (pc := 44) (w := 2) dX1_lintOfYard_44 ic_2 ?_
          obtain ⟨rfl, rfl⟩ := aw_so h
          exact x_iret (pc := 45) dX1_lintOfYard_45
        · have h := aw_neg h c_4
          by_cases c_5 : (M (14 + i0) 0) = 6
          · have h := aw_pos h c_5
            refine x_tin (pc := 4) (off := 36) 6 40 dX1_lintOfYard_4 c_5 (by decide) (by decide) rfl (by decide) ?_
            refine x_iconst (pc := 40) (w := 0) dX1_lintOfYard_40 ic_0 ?_
            obtain ⟨rfl, rfl⟩ := aw_so h
            exact x_iret (pc := 41) dX1_lintOfYard_41
          · have h := aw_neg h c_5
            refine x_tout (pc := 4) 46 dX1_lintOfYard_4 (by have z0 := lv_neT c_1 (a := 2) rfl; have z1 := lv_neT c_2 (a := 3) rfl; have z2 := lv_neT c_3 (a := 4) rfl; have z3 := lv_neT c_4 (a := 5) rfl; have z4 := lv_neT c_5 (a := 6) rfl; omega) (by decide) ?_
            refine x_iconst (pc := 46) (w := 1) dX1_lintOfYard_46 ic_1 ?_
            obtain ⟨rfl, rfl⟩ := aw_so h
            exact x_iret (pc := 47) dX1_lintOfYard_47
def fc_LB_held (p0 : Int32) (p1 : Int32) (p2 : Int32) (M : aw_M) : Option (Int32 × aw_M) :=
  some ((aw_max p1 (aw_min p2 p0)), M)
set_option maxRecDepth 20000 in
theorem tc_LB_held {l : Launch} {D : va_G} {cy : Nat → ClassId} {ad : Nat → Nat} {A : Nat → Prop} (d : Nat) (hd : 1 ≤ d) (p0 : Int32) (p1 : Int32) (p2 : Int32) (M : aw_M) (r : Int32) (M1 : aw_M) (h : fc_LB_held p0 p1 p2 M = some (r, M1)) : AX l D cy ad A gc_G yX9_held cX9_held 3 (some .int) d [.int p0, .int p1, .int p2] M (some (.int r)) M1 := by
  have hd1 : (d - 1) + 1 ≤ d := by omega
  have hm1 : 1 ≤ d := by omega
  refine AX.of (own := RX9) (by decide +kernel) rfl (Nat.le_of_ble_eq_true rfl) ?_
  unfold fc_LB_held at h
  show AW l D cy ad A gc_G RX9 cX9_held 3 (some .int) d (some (.int r)) M1 0 [(0, .int p0), (1, .int p1), (2, .int p2)] [] M
  refine x_iload_n (pc := 0) 1 dX9_held_0 rfl rfl ?_
  refine x_iload_n (pc := 1) 2 dX9_held_1 rfl rfl ?_
  refine x_iload_n (pc := 2) 0 dX9_held_2 rfl rfl ?_
  refine x_min (pc := 3) dX9_held_3 (tb_in (i := 467) (by decide +kernel) rfl) hm1 (Nat.le_of_ble_eq_true rfl) ?_
  refine x_max (pc := 6) dX9_held_6 (tb_in (i := 470) (by decide +kernel) rfl) hm1 (Nat.le_of_ble_eq_true rfl) ?_
  obtain ⟨rfl, rfl⟩ := aw_so h
  exact x_iret (pc := 9) dX9_held_9
def fc_La_joined (p0 : Int32) (p1 : Int32) (p2 : Int32) (M : aw_M) : Option (Int32 × aw_M) :=
  if p0 = 38 then (
    if p1 = 0 then (
      some (0, M)
    ) else (
      if p2 = 0 then (
        some (0, M)
      ) else (
        some (1, M)
      )
    )
  ) else (
    if p0 = 42 then (
      some ((p1 * p2), M)
    ) else (
      if p0 = 43 then (
        some ((p1 + p2), M)
      ) else (
        if p0 = 45 then (
          some ((p1 - p2), M)
        ) else (
          if p0 = 47 then (
            if p2 = 0 then (
              some (0, M)
            ) else (
              if p2 = 0 then none else (
              some ((p1 / p2), M)
              )
            )
          ) else (
            if p0 = 60 then (
              if p2 ≤ p1 then (
                some (0, M)
              ) else (
                some (1, M)
              )
            ) else (
              if p0 = 61 then (
                if p1 = p2 then (
                  some (1, M)
                ) else (
                  some (0, M)
                )
              ) else (
                if p0 = 62 then (
                  if p1 ≤ p2 then (
                    some (0, M)
                  ) else (
                    some (1, M)
                  )
                ) else (
                  if p0 = 124 then (
                    if p1 = 0 then (
                      if p2 = 0 then (
                        some (0, M)
                      ) else (
                        some (1, M)
                      )
                    ) else (
                      some (1, M)
                    )
                  ) else (
                    if p2 = 0 then (
                      some (0, M)
                    ) else (
                      if p2 = 0 then none else (
                      some ((aw_rem p1 p2), M)
                      )
                    )
                  )
                )
              )
            )
          )
        )
      )
    )
  )
set_option maxRecDepth 20000 in
theorem tc_La_joined {l : Launch} {D : va_G} {cy : Nat → ClassId} {ad : Nat → Nat} {A : Nat → Prop} (d : Nat) (hd : 0 ≤ d) (p0 : Int32) (p1 : Int32) (p2 : Int32) (M : aw_M) (r : Int32) (M1 : aw_M) (h : fc_La_joined p0 p1 p2 M = some (r, M1)) : AX l D cy ad A gc_G yX3_joined cX3_joined 3 (some .int) d [.int p0, .int p1, .int p2] M (some (.int r)) M1 := by
  refine AX.of (own := RX3) (by decide +kernel) rfl (Nat.le_of_ble_eq_true rfl) ?_
  unfold fc_La_joined at h
  show AW l D cy ad A gc_G RX3 cX3_joined 3 (some .int) d (some (.int r)) M1 0 [(0, .int p0), (1, .int p1), (2, .int p2)] [] M
  refine x_iload_n (pc := 0) 0 dX3_joined_0 rfl rfl ?_
  by_cases c_1 : p0 = 38
  · have h := aw_pos h c_1
    refine x_lin (pc := 1) (off := 97) 38 98 dX3_joined_1 (by decide) c_1 (by decide) (by decide) ?_
    refine x_iload_n (pc := 98) 1 dX3_joined_98 rfl rfl ?_
    refine x_if_eq (pc := 99) 110 dX3_joined_99 (by decide) (fun c_2 => ?_) (fun c_2 => ?_)
    · have h := aw_pos h c_2
      refine x_iconst (pc := 110) (w := 0) dX3_joined_110 ic_0 ?_
      obtain ⟨rfl, rfl⟩ := aw_so h
      exact x_iret (pc := 111) dX3_joined_111
    · have h := aw_neg h c_2
      refine x_iload_n (pc := 102) 2 dX3_joined_102 rfl rfl ?_
      refine x_if_eq (pc := 103) 110 dX3_joined_103 (by decide) (fun c_3 => ?_) (fun c_3 => ?_)
      · have h := aw_pos h c_3
        refine x_iconst (pc := 110) (w := 0) dX3_joined_110 ic_0 ?_
        obtain ⟨rfl, rfl⟩ := aw_so h
        exact x_iret (pc := 111) dX3_joined_111
      · have h := aw_neg h c_3
        refine x_iconst (pc := 106) (w := 1) dX3_joined_106 ic_1 ?_
        refine x_goto (pc := 107) 111 dX3_joined_107 (by decide) ?_
        obtain ⟨rfl, rfl⟩ := aw_so h
        exact x_iret (pc := 111) dX3_joined_111
  · have h := aw_neg h c_1
    by_cases c_4 : p0 = 42
    · have h := aw_pos h c_4
      refine x_lin (pc := 1) (off := 152) 42 153 dX3_joined_1 (by decide) c_4 (by decide) (by decide) ?_
      refine x_iload_n (pc := 153) 1 dX3_joined_153 rfl rfl ?_
      refine x_iload_n (pc := 154) 2 dX3_joined_154 rfl rfl ?_
      refine x_imul (pc := 155) dX3_joined_155 ?_
      obtain ⟨rfl, rfl⟩ := aw_so h
      exact x_iret (pc := 156) dX3_joined_156
    · have h := aw_neg h c_4
      by_cases c_5 : p0 = 43
      · have h := aw_pos h c_5
        refine x_lin (pc := 1) (off := 144) 43 145 dX3_joined_1 (by decide) c_5 (by decide) (by decide) ?_
        refine x_iload_n (pc := 145) 1 dX3_joined_145 rfl rfl ?_
        refine x_iload_n (pc := 146) 2 dX3_joined_146 rfl rfl ?_
        refine x_iadd (pc := 147) dX3_joined_147 ?_
        obtain ⟨rfl, rfl⟩ := aw_so h
        exact x_iret (pc := 148) dX3_joined_148
      · have h := aw_neg h c_5
        by_cases c_6 : p0 = 45
        · have h := aw_pos h c_6
          refine x_lin (pc := 1) (off := 148) 45 149 dX3_joined_1 (by decide) c_6 (by decide) (by decide) ?_
          refine x_iload_n (pc := 149) 1 dX3_joined_149 rfl rfl ?_
          refine x_iload_n (pc := 150) 2 dX3_joined_150 rfl rfl ?_
          refine x_isub (pc := 151) dX3_joined_151 ?_
          obtain ⟨rfl, rfl⟩ := aw_so h
          exact x_iret (pc := 152) dX3_joined_152
        · have h := aw_neg h c_6
          by_cases c_7 : p0 = 47
          · have h := aw_pos h c_7
            refine x_lin (pc := 1) (off := 156) 47 157 dX3_joined_1 (by decide) c_7 (by decide) (by decide) ?_
            refine x_iload_n (pc := 157) 2 dX3_joined_157 rfl rfl ?_
            refine x_if_ne (pc := 158) 165 dX3_joined_158 (by decide) (fun c_8 => ?_) (fun c_8 => ?_)
            · have h := aw_neg h c_8
              refine x_iload_n (pc := 165) 1 dX3_joined_165 rfl rfl ?_
              refine x_iload_n (pc := 166) 2 dX3_joined_166 rfl rfl ?_
              obtain ⟨c_9, h⟩ := aw_ck h
              refine x_idiv (pc := 167) dX3_joined_167 c_9 ?_
              obtain ⟨rfl, rfl⟩ := aw_so h
              exact x_iret (pc := 168) dX3_joined_168
            · have h := aw_pos h c_8
              refine x_iconst (pc := 161) (w := 0) dX3_joined_161 ic_0 ?_
              refine x_goto (pc := 162) 168 dX3_joined_162 (by decide) ?_
              obtain ⟨rfl, rfl⟩ := aw_so h
              exact x_iret (pc := 168) dX3_joined_168
          · have h := aw_neg h c_7
            by_cases c_10 : p0 = 60
            · have h := aw_pos h c_10
              refine x_lin (pc := 1) (off := 111) 60 112 dX3_joined_1 (by decide) c_10 (by decide) (by decide) ?_
              refine x_iload_n (pc := 112) 1 dX3_joined_112 rfl rfl ?_
              refine x_iload_n (pc := 113) 2 dX3_joined_113 rfl rfl ?_
              refine x_icmp_ge (pc := 114) 121 dX3_joined_114 (by decide) (fun c_11 => ?_) (fun c_11 => ?_)
              · have h := aw_pos h c_11
                refine x_iconst (pc := 121) (w := 0) dX3_joined_121 ic_0 ?_
                obtain ⟨rfl, rfl⟩ := aw_so h
                exact x_iret (pc := 122) dX3_joined_122
              · have h := aw_neg h c_11
                refine x_iconst (pc := 117) (w := 1) dX3_joined_117 ic_1 ?_
                refine x_goto (pc := 118) 122 dX3_joined_118 (by decide) ?_
                obtain ⟨rfl, rfl⟩ := aw_so h
                exact x_iret (pc := 122) dX3_joined_122
            · have h := aw_neg h c_10
              by_cases c_12 : p0 = 61
              · have h := aw_pos h c_12
                refine x_lin (pc := 1) (off := 122) 61 123 dX3_joined_1 (by decide) c_12 (by decide) (by decide) ?_
                refine x_iload_n (pc := 123) 1 dX3_joined_123 rfl rfl ?_
                refine x_iload_n (pc := 124) 2 dX3_joined_124 rfl rfl ?_
                refine x_icmp_ne (pc := 125) 132 dX3_joined_125 (by decide) (fun c_13 => ?_) (fun c_13 => ?_)
                · have h := aw_neg h c_13
                  refine x_iconst (pc := 132) (w := 0) dX3_joined_132 ic_0 ?_
                  obtain ⟨rfl, rfl⟩ := aw_so h
                  exact x_iret (pc := 133) dX3_joined_133
                · have h := aw_pos h c_13
                  refine x_iconst (pc := 128) (w := 1) dX3_joined_128 ic_1 ?_
                  refine x_goto (pc := 129) 133 dX3_joined_129 (by decide) ?_
                  obtain ⟨rfl, rfl⟩ := aw_so h
                  exact x_iret (pc := 133) dX3_joined_133
              · have h := aw_neg h c_12
                by_cases c_14 : p0 = 62
                · have h := aw_pos h c_14
                  refine x_lin (pc := 1) (off := 133) 62 134 dX3_joined_1 (by decide) c_14 (by decide) (by decide) ?_
                  refine x_iload_n (pc := 134) 1 dX3_joined_134 rfl rfl ?_
                  refine x_iload_n (pc := 135) 2 dX3_joined_135 rfl rfl ?_
                  refine x_icmp_le (pc := 136) 143 dX3_joined_136 (by decide) (fun c_15 => ?_) (fun c_15 => ?_)
                  · have h := aw_pos h c_15
                    refine x_iconst (pc := 143) (w := 0) dX3_joined_143 ic_0 ?_
                    obtain ⟨rfl, rfl⟩ := aw_so h
                    exact x_iret (pc := 144) dX3_joined_144
                  · have h := aw_neg h c_15
                    refine x_iconst (pc := 139) (w := 1) dX3_joined_139 ic_1 ?_
                    refine x_goto (pc := 140) 144 dX3_joined_140 (by decide) ?_
                    obtain ⟨rfl, rfl⟩ := aw_so h
                    exact x_iret (pc := 144) dX3_joined_144
                · have h := aw_neg h c_14
                  by_cases c_16 : p0 = 124
                  · have h := aw_pos h c_16
                    refine x_lin (pc := 1) (off := 83) 124 84 dX3_joined_1 (by decide) c_16 (by decide) (by decide) ?_
                    refine x_iload_n (pc := 84) 1 dX3_joined_84 rfl rfl ?_
                    refine x_if_ne (pc := 85) 92 dX3_joined_85 (by decide) (fun c_17 => ?_) (fun c_17 => ?_)
                    · have h := aw_neg h c_17
                      refine x_iconst (pc := 92) (w := 1) dX3_joined_92 ic_1 ?_
                      refine x_goto (pc := 93) 97 dX3_joined_93 (by decide) ?_
                      obtain ⟨rfl, rfl⟩ := aw_so h
                      exact x_iret (pc := 97) dX3_joined_97
                    · have h := aw_pos h c_17
                      refine x_iload_n (pc := 88) 2 dX3_joined_88 rfl rfl ?_
                      refine x_if_eq (pc := 89) 96 dX3_joined_89 (by decide) (fun c_18 => ?_) (fun c_18 => ?_)
                      · have h := aw_pos h c_18
                        refine x_iconst (pc := 96) (w := 0) dX3_joined_96 ic_0 ?_
                        obtain ⟨rfl, rfl⟩ := aw_so h
                        exact x_iret (pc := 97) dX3_joined_97
                      · have h := aw_neg h c_18
                        refine x_iconst (pc := 92) (w := 1) dX3_joined_92 ic_1 ?_
                        refine x_goto (pc := 93) 97 dX3_joined_93 (by decide) ?_
                        obtain ⟨rfl, rfl⟩ := aw_so h
                        exact x_iret (pc := 97) dX3_joined_97
                  · have h := aw_neg h c_16
                    refine x_lout (pc := 1) (off := 168) 169 dX3_joined_1 (by decide) (by show Op.lookupswitch.offset [(38, 97), (42, 152), (43, 144), (45, 148), (47, 156), (60, 111), (61, 122), (62, 133), (124, 83)] _ _ = _; rw [lv_osw c_1 (a := 38) rfl, lv_osw c_4 (a := 42) rfl, lv_osw c_5 (a := 43) rfl, lv_osw c_6 (a := 45) rfl, lv_osw c_7 (a := 47) rfl, lv_osw c_10 (a := 60) rfl, lv_osw c_12 (a := 61) rfl, lv_osw c_14 (a := 62) rfl, lv_osw c_16 (a := 124) rfl]; rfl) (by decide) ?_
                    refine x_iload_n (pc := 169) 2 dX3_joined_169 rfl rfl ?_
                    refine x_if_ne (pc := 170) 177 dX3_joined_170 (by decide) (fun c_19 => ?_) (fun c_19 => ?_)
                    · have h := aw_neg h c_19
                      refine x_iload_n (pc := 177) 1 dX3_joined_177 rfl rfl ?_
                      refine x_iload_n (pc := 178) 2 dX3_joined_178 rfl rfl ?_
                      obtain ⟨c_20, h⟩ := aw_ck h
                      refine x_irem (pc := 179) dX3_joined_179 c_20 ?_
                      obtain ⟨rfl, rfl⟩ := aw_so h
                      exact x_iret (pc := 180) dX3_joined_180
                    · have h := aw_pos h c_19
                      refine x_iconst (pc := 173) (w := 0) dX3_joined_173 ic_0 ?_
                      refine x_goto (pc := 174) 180 dX3_joined_174 (by decide) ?_
                      obtain ⟨rfl, rfl⟩ := aw_so h
                      exact x_iret (pc := 180) dX3_joined_180
