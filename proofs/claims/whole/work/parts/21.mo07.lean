def fm_put (p1 : Int32) (p2 : Int32) (p3 : Int32) (M : aw_M) : Option (Int32 × aw_M) :=
  aw_bi (fm_isSheet p1 M) fun r_2 M_3 => (
  if r_2 = 0 then (
    fm_errs (-1000000001) M_3
  ) else (
    if aw_in p1 4 then none else (
    if (M_3 6 p1.toNatClampNeg) = 0 then (
      fm_errs (-1000000002) M_3
    ) else (
      if aw_in p1 4 then none else (
      aw_bi (fm_in p2 0 ((M_3 7 p1.toNatClampNeg) - 1) M_3) fun r_9 M_10 => (
      if r_9 = 0 then (
        fm_errs (-1000000001) M_10
      ) else (
        if aw_in p1 4 then none else (
        aw_bi (fm_narrow (M_10 6 p1.toNatClampNeg) p3 M_10) fun r_14 M_15 => (
        if aw_in ((40 * p1) + p2) 160 then none else (
        some (1, (aw_u M_15 8 ((40 * p1) + p2).toNatClampNeg r_14))
        )
        )
        )
      )
      )
      )
    )
    )
  )
  )
set_option maxRecDepth 20000 in
theorem tm_put {l : Launch} {D : va_G} {cy : Nat → ClassId} {ad : Nat → Nat} {A : Nat → Prop} (d : Nat) (hd : 2 ≤ d) (p1 : Int32) (p2 : Int32) (p3 : Int32) (M : aw_M) (r : Int32) (M1 : aw_M) (h : fm_put p1 p2 p3 M = some (r, M1)) : AX l D cy ad A gm_G yX10_put cX10_put 4 (some .int) d [.ref (ad 0), .int p1, .int p2, .int p3] M (some (.int r)) M1 := by
  have hd1 : (d - 1) + 1 ≤ d := by omega
  have hm1 : 1 ≤ d := by omega
  have hh_0 : 0 ≤ d - 1 := by omega
  have hh_1 : 1 ≤ d - 1 := by omega
  refine AX.of (own := RX10) (by decide +kernel) rfl (Nat.le_of_ble_eq_true rfl) ?_
  unfold fm_put at h
  show AW l D cy ad A gm_G RX10 cX10_put 4 (some .int) d (some (.int r)) M1 0 [(0, .ref (ad 0)), (1, .int p1), (2, .int p2), (3, .int p3)] [] M
  refine x_iload_n (pc := 0) 1 dX10_put_0 rfl rfl ?_
  obtain ⟨r_2, M_3, e_1, h⟩ := aw_bi_e h
  refine x_callS (pc := 1) (As := [.int p1]) (rest := []) (st' := [.int r_2]) (w := (some (.int r_2))) dX10_put_1 cw_X10_191 hd1 rfl rfl (Nat.le_of_ble_eq_true rfl) (tm_isSheet (d - 1) hh_1 p1 _ _ _ e_1) rfl ?_
  refine x_if_ne (pc := 4) 14 dX10_put_4 (by decide) (fun c_4 => ?_) (fun c_4 => ?_)
  · have h := aw_neg h c_4
    refine x_aload_n (pc := 14) 0 dX10_put_14 rfl rfl ?_
    refine x_get (pc := 15) dX10_put_15 lk_X10_25 gm_0 rfl rfl ?_
    refine x_iload_n (pc := 18) 1 dX10_put_18 rfl rfl ?_
    obtain ⟨c_5, h⟩ := aw_ck h
    refine x_iald (pc := 19) dX10_put_19 gm_6 c_5 ?_
    refine x_if_ne (pc := 20) 30 dX10_put_20 (by decide) (fun c_6 => ?_) (fun c_6 => ?_)
    · have h := aw_neg h c_6
      refine x_iload_n (pc := 30) 2 dX10_put_30 rfl rfl ?_
      refine x_iconst (pc := 31) (w := 0) dX10_put_31 ic_0 ?_
      refine x_aload_n (pc := 32) 0 dX10_put_32 rfl rfl ?_
      refine x_get (pc := 33) dX10_put_33 lk_X10_28 gm_0 rfl rfl ?_
      refine x_iload_n (pc := 36) 1 dX10_put_36 rfl rfl ?_
      obtain ⟨c_7, h⟩ := aw_ck h
      refine x_iald (pc := 37) dX10_put_37 gm_7 c_7 ?_
      refine x_iconst (pc := 38) (w := 1) dX10_put_38 ic_1 ?_
      refine x_isub (pc := 39) dX10_put_39 ?_
      obtain ⟨r_9, M_10, e_8, h⟩ := aw_bi_e h
      refine x_callS (pc := 40) (As := [.int p2, .int 0, .int ((M_3 7 p1.toNatClampNeg) - 1)]) (rest := []) (st' := [.int r_9]) (w := (some (.int r_9))) dX10_put_40 cw_X10_44 hd1 rfl rfl (Nat.le_of_ble_eq_true rfl) (tm_in (d - 1) hh_0 p2 0 ((M_3 7 p1.toNatClampNeg) - 1) _ _ _ e_8) rfl ?_
      refine x_if_ne (pc := 43) 53 dX10_put_43 (by decide) (fun c_11 => ?_) (fun c_11 => ?_)
      · have h := aw_neg h c_11
        refine x_aload_n (pc := 53) 0 dX10_put_53 rfl rfl ?_
        refine x_get (pc := 54) dX10_put_54 lk_X10_31 gm_0 rfl rfl ?_
        refine x_bipush (pc := 57) (w := 40) dX10_put_57 bi_40 ?_
        refine x_iload_n (pc := 59) 1 dX10_put_59 rfl rfl ?_
        refine x_imul (pc := 60) dX10_put_60 ?_
        refine x_iload_n (pc := 61) 2 dX10_put_61 rfl rfl ?_
        refine x_iadd (pc := 62) dX10_put_62 ?_
        refine x_aload_n (pc := 63) 0 dX10_put_63 rfl rfl ?_
        refine x_get (pc := 64) dX10_put_64 lk_X10_25 gm_0 rfl rfl ?_
        refine x_iload_n (pc := 67) 1 dX10_put_67 rfl rfl ?_
        obtain ⟨c_12, h⟩ := aw_ck h
        refine x_iald (pc := 68) dX10_put_68 gm_6 c_12 ?_
        refine x_iload_n (pc := 69) 3 dX10_put_69 rfl rfl ?_
        obtain ⟨r_14, M_15, e_13, h⟩ := aw_bi_e h
        refine x_callS (pc := 70) (As := [.int (M_10 6 p1.toNatClampNeg), .int p3]) (rest := [.int ((40 * p1) + p2), .ref (ad 8)]) (st' := [.int r_14, .int ((40 * p1) + p2), .ref (ad 8)]) (w := (some (.int r_14))) dX10_put_70 cw_X10_239 hd1 rfl rfl (Nat.le_of_ble_eq_true rfl) (tm_narrow (d - 1) hh_0 (M_10 6 p1.toNatClampNeg) p3 _ _ _ e_13) rfl ?_
        obtain ⟨c_16, h⟩ := aw_ck h
        refine x_iast (pc := 73) dX10_put_73 gm_8 c_16 ?_
        refine x_iconst (pc := 74) (w := 1) dX10_put_74 ic_1 ?_
        obtain ⟨rfl, rfl⟩ := aw_so h
        exact x_iret (pc := 75) dX10_put_75
      · have h := aw_pos h c_11
        refine x_aload_n (pc := 46) 0 dX10_put_46 rfl rfl ?_
        refine x_ldc (pc := 47) dX10_put_47 wk_X10_48 ?_
        refine x_callV (pc := 49) (As := [.int (-1000000001)]) (rest := []) (st' := [.int r]) (w := (some (.int r))) dX10_put_49 cw_X10_49 hd1 gm_0 rfl rfl rfl (Nat.le_of_ble_eq_true rfl) (tm_errs (d - 1) hh_0 (-1000000001) _ _ _ h) rfl ?_
        exact x_iret (pc := 52) dX10_put_52
    · have h := aw_pos h c_6
      refine x_aload_n (pc := 23) 0 dX10_put_23 rfl rfl ?_
      refine x_ldc (pc := 24) dX10_put_24 wk_X10_187 ?_
      refine x_callV (pc := 26) (As := [.int (-1000000002)]) (rest := []) (st' := [.int r]) (w := (some (.int r))) dX10_put_26 cw_X10_49 hd1 gm_0 rfl rfl rfl (Nat.le_of_ble_eq_true rfl) (tm_errs (d - 1) hh_0 (-1000000002) _ _ _ h) rfl ?_
      exact x_iret (pc := 29) dX10_put_29
  · have h := aw_pos h c_4
    refine x_aload_n (pc := 7) 0 dX10_put_7 rfl rfl ?_
    refine x_ldc (pc := 8) dX10_put_8 wk_X10_48 ?_
    refine x_callV (pc := 10) (As := [.int (-1000000001)]) (rest := []) (st' := [.int r]) (w := (some (.int r))) dX10_put_10 cw_X10_49 hd1 gm_0 rfl rfl rfl (Nat.le_of_ble_eq_true rfl) (tm_errs (d - 1) hh_0 (-1000000001) _ _ _ h) rfl ?_
    exact x_iret (pc := 13) dX10_put_13
def fm_move_L156 : Nat → Int32 → Int32 → Int32 → Int32 → aw_M → Option (Int32 × aw_M)
  | 0, _, _, _, _, _ => none
  | n + 1, p3, p4, p5, p6, M =>
    if p5 ≤ p6 then (
      some (p5, M)
    ) else (
      if aw_in p6 40 then none else (
      if aw_in (((40 * p3) + p4) + p6) 160 then none else (
      fm_move_L156 n p3 p4 p5 (p6 + 1) (aw_u M 8 (((40 * p3) + p4) + p6).toNatClampNeg (M 9 p6.toNatClampNeg))
      )
      )
    )
theorem fm_move_L156_s (n : Nat) (p3 : Int32) (p4 : Int32) (p5 : Int32) (p6 : Int32) (M : aw_M) : fm_move_L156 (n + 1) p3 p4 p5 p6 M = (
    if p5 ≤ p6 then (
      some (p5, M)
    ) else (
      if aw_in p6 40 then none else (
      if aw_in (((40 * p3) + p4) + p6) 160 then none else (
      fm_move_L156 n p3 p4 p5 (p6 + 1) (aw_u M 8 (((40 * p3) + p4) + p6).toNatClampNeg (M 9 p6.toNatClampNeg))
      )
      )
    )
    ) := rfl
set_option maxRecDepth 20000 in
theorem tm_move_L156 {l : Launch} {D : va_G} {cy : Nat → ClassId} {ad : Nat → Nat} {A : Nat → Prop} (d : Nat) (hd : 2 ≤ d) : ∀ (n : Nat) (p3 : Int32) (p4 : Int32) (p5 : Int32) (p6 : Int32) (M : aw_M) (r : Int32) (M1 : aw_M), fm_move_L156 n p3 p4 p5 p6 M = some (r, M1) → AW l D cy ad A gm_G RX10 cX10_move 7 (some .int) d (some (.int r)) M1 156 [(0, .ref (ad 0)), (3, .int p3), (4, .int p4), (5, .int p5), (6, .int p6)] [] M := by
  have hd1 : (d - 1) + 1 ≤ d := by omega
  have hm1 : 1 ≤ d := by omega
  have hh_0 : 0 ≤ d - 1 := by omega
  have hh_1 : 1 ≤ d - 1 := by omega
  intro n
  induction n with
  | zero => intro p3 p4 p5 p6 M r M1 h; cases h
  | succ n ih =>
    intro p3 p4 p5 p6 M r M1 h
    rw [fm_move_L156_s] at h
    refine x_iload (pc := 156) dX10_move_156 rfl ?_
    refine x_iload (pc := 158) dX10_move_158 rfl ?_
    refine x_icmp_ge (pc := 160) 191 dX10_move_160 (by decide) (fun c_26 => ?_) (fun c_26 => ?_)
    · have h := aw_pos h c_26
      refine x_iload (pc := 191) dX10_move_191 rfl ?_
      obtain ⟨rfl, rfl⟩ := aw_so h
      exact x_iret (pc := 193) dX10_move_193
    · have h := aw_neg h c_26
      refine x_aload_n (pc := 163) 0 dX10_move_163 rfl rfl ?_
      refine x_get (pc := 164) dX10_move_164 lk_X10_31 gm_0 rfl rfl ?_
      refine x_bipush (pc := 167) (w := 40) dX10_move_167 bi_40 ?_
      refine x_iload_n (pc := 169) 3 dX10_move_169 rfl rfl ?_
      refine x_imul (pc := 170) dX10_move_170 ?_
      refine x_iload (pc := 171) dX10_move_171 rfl ?_
      refine x_iadd (pc := 173) dX10_move_173 ?_
      refine x_iload (pc := 174) dX10_move_174 rfl ?_
      refine x_iadd (pc := 176) dX10_move_176 ?_
      refine x_aload_n (pc := 177) 0 dX10_move_177 rfl rfl ?_
      refine x_get (pc := 178) dX10_move_178 lk_X10_34 gm_0 rfl rfl ?_
      refine x_iload (pc := 181) dX10_move_181 rfl ?_
      obtain ⟨c_27, h⟩ := aw_ck h
      refine x_iald (pc := 183) dX10_move_183 gm_9 c_27 ?_
      obtain ⟨c_28, h⟩ := aw_ck h
      refine x_iast (pc := 184) dX10_move_184 gm_8 c_28 ?_
      refine x_iinc (pc := 185) (p6 + 1) [(6, .int (p6 + 1)), (0, .ref (ad 0)), (3, .int p3), (4, .int p4), (5, .int p5)] dX10_move_185 rfl (congrArg (fun z => p6 + z) ic_1) (by decide) rfl ?_
      refine x_goto (pc := 188) 156 dX10_move_188 (by decide) ?_
      refine x_lv [1, 2, 3, 4, 0] [(0, .ref (ad 0)), (3, .int p3), (4, .int p4), (5, .int p5), (6, .int (p6 + 1))] rfl ?_
      exact ih p3 p4 p5 (p6 + 1) _ _ _ h
def fm_move_L119 : Nat → Int32 → Int32 → Int32 → Int32 → Int32 → Int32 → aw_M → Option (Int32 × aw_M)
  | 0, _, _, _, _, _, _, _ => none
  | n + 1, p1, p2, p3, p4, p5, p6, M =>
    if p5 ≤ p6 then (
      fm_move_L156  2000 p3 p4 p5 0 M
    ) else (
      if aw_in (((40 * p1) + p2) + p6) 160 then none else (
      if aw_in p6 40 then none else (
      fm_move_L119 n p1 p2 p3 p4 p5 (p6 + 1) (aw_u M 9 p6.toNatClampNeg (M 8 (((40 * p1) + p2) + p6).toNatClampNeg))
      )
      )
    )
theorem fm_move_L119_s (n : Nat) (p1 : Int32) (p2 : Int32) (p3 : Int32) (p4 : Int32) (p5 : Int32) (p6 : Int32) (M : aw_M) : fm_move_L119 (n + 1) p1 p2 p3 p4 p5 p6 M = (
    if p5 ≤ p6 then (
      fm_move_L156  2000 p3 p4 p5 0 M
    ) else (
      if aw_in (((40 * p1) + p2) + p6) 160 then none else (
      if aw_in p6 40 then none else (
      fm_move_L119 n p1 p2 p3 p4 p5 (p6 + 1) (aw_u M 9 p6.toNatClampNeg (M 8 (((40 * p1) + p2) + p6).toNatClampNeg))
      )
      )
    )
    ) := rfl
set_option maxRecDepth 20000 in
theorem tm_move_L119 {l : Launch} {D : va_G} {cy : Nat → ClassId} {ad : Nat → Nat} {A : Nat → Prop} (d : Nat) (hd : 2 ≤ d) : ∀ (n : Nat) (p1 : Int32) (p2 : Int32) (p3 : Int32) (p4 : Int32) (p5 : Int32) (p6 : Int32) (M : aw_M) (r : Int32) (M1 : aw_M), fm_move_L119 n p1 p2 p3 p4 p5 p6 M = some (r, M1) → AW l D cy ad A gm_G RX10 cX10_move 7 (some .int) d (some (.int r)) M1 119 [(0, .ref (ad 0)), (1, .int p1), (2, .int p2), (3, .int p3), (4, .int p4), (5, .int p5), (6, .int p6)] [] M := by
  have hd1 : (d - 1) + 1 ≤ d := by omega
  have hm1 : 1 ≤ d := by omega
  have hh_0 : 0 ≤ d - 1 := by omega
  have hh_1 : 1 ≤ d - 1 := by omega
  intro n
  induction n with
  | zero => intro p1 p2 p3 p4 p5 p6 M r M1 h; cases h
  | succ n ih =>
    intro p1 p2 p3 p4 p5 p6 M r M1 h
    rw [fm_move_L119_s] at h
    refine x_iload (pc := 119) dX10_move_119 rfl ?_
    refine x_iload (pc := 121) dX10_move_121 rfl ?_
    refine x_icmp_ge (pc := 123) 153 dX10_move_123 (by decide) (fun c_23 => ?_) (fun c_23 => ?_)
    · have h := aw_pos h c_23
      refine x_iconst (pc := 153) (w := 0) dX10_move_153 ic_0 ?_
      refine x_istore (pc := 154) 6 [(6, .int 0), (0, .ref (ad 0)), (1, .int p1), (2, .int p2), (3, .int p3), (4, .int p4), (5, .int p5)] dX10_move_154 (by decide) rfl ?_
      refine x_lv [1, 4, 5, 6, 0] [(0, .ref (ad 0)), (3, .int p3), (4, .int p4), (5, .int p5), (6, .int 0)] rfl ?_
      exact tm_move_L156 d hd  2000 p3 p4 p5 0 _ _ _ h
    · have h := aw_neg h c_23
      refine x_aload_n (pc := 126) 0 dX10_move_126 rfl rfl ?_
      refine x_get (pc := 127) dX10_move_127 lk_X10_34 gm_0 rfl rfl ?_
      refine x_iload (pc := 130) dX10_move_130 rfl ?_
      refine x_aload_n (pc := 132) 0 dX10_move_132 rfl rfl ?_
      refine x_get (pc := 133) dX10_move_133 lk_X10_31 gm_0 rfl rfl ?_
      refine x_bipush (pc := 136) (w := 40) dX10_move_136 bi_40 ?_
      refine x_iload_n (pc := 138) 1 dX10_move_138 rfl rfl ?_
      refine x_imul (pc := 139) dX10_move_139 ?_
      refine x_iload_n (pc := 140) 2 dX10_move_140 rfl rfl ?_
      refine x_iadd (pc := 141) dX10_move_141 ?_
      refine x_iload (pc := 142) dX10_move_142 rfl ?_
      refine x_iadd (pc := 144) dX10_move_144 ?_
      obtain ⟨c_24, h⟩ := aw_ck h
      refine x_iald (pc := 145) dX10_move_145 gm_8 c_24 ?_
      obtain ⟨c_25, h⟩ := aw_ck h
      refine x_iast (pc := 146) dX10_move_146 gm_9 c_25 ?_
      refine x_iinc (pc := 147) (p6 + 1) [(6, .int (p6 + 1)), (0, .ref (ad 0)), (1, .int p1), (2, .int p2), (3, .int p3), (4, .int p4), (5, .int p5)] dX10_move_147 rfl (congrArg (fun z => p6 + z) ic_1) (by decide) rfl ?_
      refine x_goto (pc := 150) 119 dX10_move_150 (by decide) ?_
      refine x_lv [1, 2, 3, 4, 5, 6, 0] [(0, .ref (ad 0)), (1, .int p1), (2, .int p2), (3, .int p3), (4, .int p4), (5, .int p5), (6, .int (p6 + 1))] rfl ?_
      exact ih p1 p2 p3 p4 p5 (p6 + 1) _ _ _ h
def fm_move (p1 : Int32) (p2 : Int32) (p3 : Int32) (p4 : Int32) (p5 : Int32) (M : aw_M) : Option (Int32 × aw_M) :=
  aw_bi (fm_isSheet p1 M) fun r_2 M_3 => (
  if r_2 = 0 then (
    fm_errs (-1000000001) M_3
  ) else (
    aw_bi (fm_isSheet p3 M_3) fun r_6 M_7 => (
    if r_6 = 0 then (
      fm_errs (-1000000001) M_7
    ) else (
      if aw_in p1 4 then none else (
      if (M_7 6 p1.toNatClampNeg) = 0 then (
        fm_errs (-1000000002) M_7
      ) else (
        if aw_in p3 4 then none else (
        if (M_7 6 p3.toNatClampNeg) = 0 then (
          fm_errs (-1000000002) M_7
        ) else (
          if aw_in p1 4 then none else (
          if aw_in p3 4 then none else (
          if (M_7 6 p1.toNatClampNeg) = (M_7 6 p3.toNatClampNeg) then (
            if p5 < 0 then (
              fm_errs (-1000000001) M_7
            ) else (
              if p2 < 0 then (
                fm_errs (-1000000001) M_7
              ) else (
                if p4 < 0 then (
                  fm_errs (-1000000001) M_7
                ) else (
                  if aw_in p1 4 then none else (
                  if ((M_7 7 p1.toNatClampNeg) - p5) < p2 then (
                    fm_errs (-1000000001) M_7
                  ) else (
                    if aw_in p3 4 then none else (
                    if p4 ≤ ((M_7 7 p3.toNatClampNeg) - p5) then (
                      fm_move_L119  2000 p1 p2 p3 p4 p5 0 M_7
                    ) else (
                      fm_errs (-1000000001) M_7
                    )
                    )
                  )
                  )
                )
              )
            )
          ) else (
            fm_errs (-1000000005) M_7
          )
          )
          )
        )
        )
      )
      )
    )
    )
  )
  )
set_option maxRecDepth 20000 in
theorem tm_move {l : Launch} {D : va_G} {cy : Nat → ClassId} {ad : Nat → Nat} {A : Nat → Prop} (d : Nat) (hd : 2 ≤ d) (p1 : Int32) (p2 : Int32) (p3 : Int32) (p4 : Int32) (p5 : Int32) (M : aw_M) (r : Int32) (M1 : aw_M) (h : fm_move p1 p2 p3 p4 p5 M = some (r, M1)) : AX l D cy ad A gm_G yX10_move cX10_move 7 (some .int) d [.ref (ad 0), .int p1, .int p2, .int p3, .int p4, .int p5] M (some (.int r)) M1 := by
  have hd1 : (d - 1) + 1 ≤ d := by omega
  have hm1 : 1 ≤ d := by omega
  have hh_0 : 0 ≤ d - 1 := by omega
  have hh_1 : 1 ≤ d - 1 := by omega
  refine AX.of (own := RX10) (by decide +kernel) rfl (Nat.le_of_ble_eq_true rfl) ?_
  unfold fm_move at h
  show AW l D cy ad A gm_G RX10 cX10_move 7 (some .int) d (some (.int r)) M1 0 [(0, .ref (ad 0)), (1, .int p1), (2, .int p2), (3, .int p3), (4, .int p4), (5, .int p5)] [] M
  refine x_iload_n (pc := 0) 1 dX10_move_0 rfl rfl ?_
  obtain ⟨r_2, M_3, e_1, h⟩ := aw_bi_e h
  refine x_callS (pc := 1) (As := [.int p1]) (rest := []) (st' := [.int r_2]) (w := (some (.int r_2))) dX10_move_1 cw_X10_191 hd1 rfl rfl (Nat.le_of_ble_eq_true rfl) (tm_isSheet (d - 1) hh_1 p1 _ _ _ e_1) rfl ?_
  refine x_if_eq (pc := 4) 14 dX10_move_4 (by decide) (fun c_4 => ?_) (fun c_4 => ?_)
  · have h := aw_pos h c_4
    refine x_aload_n (pc := 14) 0 dX10_move_14 rfl rfl ?_
    refine x_ldc (pc := 15) dX10_move_15 wk_X10_48 ?_
    refine x_callV (pc := 17) (As := [.int (-1000000001)]) (rest := []) (st' := [.int r]) (w := (some (.int r))) dX10_move_17 cw_X10_49 hd1 gm_0 rfl rfl rfl (Nat.le_of_ble_eq_true rfl) (tm_errs (d - 1) hh_0 (-1000000001) _ _ _ h) rfl ?_
    exact x_iret (pc := 20) dX10_move_20
  · have h := aw_neg h c_4
    refine x_iload_n (pc := 7) 3 dX10_move_7 rfl rfl ?_
    obtain ⟨r_6, M_7, e_5, h⟩ := aw_bi_e h
    refine x_callS (pc := 8) (As := [.int p3]) (rest := []) (st' := [.int r_6]) (w := (some (.int r_6))) dX10_move_8 cw_X10_191 hd1 rfl rfl (Nat.le_of_ble_eq_true rfl) (tm_isSheet (d - 1) hh_1 p3 _ _ _ e_5) rfl ?_
    refine x_if_ne (pc := 11) 21 dX10_move_11 (by decide) (fun c_8 => ?_) (fun c_8 => ?_)
    · have h := aw_neg h c_8
      refine x_aload_n (pc := 21) 0 dX10_move_21 rfl rfl ?_
      refine x_get (pc := 22) dX10_move_22 lk_X10_25 gm_0 rfl rfl ?_
      refine x_iload_n (pc := 25) 1 dX10_move_25 rfl rfl ?_
      obtain ⟨c_9, h⟩ := aw_ck h
      refine x_iald (pc := 26) dX10_move_26 gm_6 c_9 ?_
      refine x_if_eq (pc := 27) 39 dX10_move_27 (by decide) (fun c_10 => ?_) (fun c_10 => ?_)
      · have h := aw_pos h c_10
        refine x_aload_n (pc := 39) 0 dX10_move_39 rfl rfl ?_
        refine x_ldc (pc := 40) dX10_move_40 wk_X10_187 ?_
        refine x_callV (pc := 42) (As := [.int (-1000000002)]) (rest := []) (st' := [.int r]) (w := (some (.int r))) dX10_move_42 cw_X10_49 hd1 gm_0 rfl rfl rfl (Nat.le_of_ble_eq_true rfl) (tm_errs (d - 1) hh_0 (-1000000002) _ _ _ h) rfl ?_
        exact x_iret (pc := 45) dX10_move_45
      · have h := aw_neg h c_10
        refine x_aload_n (pc := 30) 0 dX10_move_30 rfl rfl ?_
        refine x_get (pc := 31) dX10_move_31 lk_X10_25 gm_0 rfl rfl ?_
        refine x_iload_n (pc := 34) 3 dX10_move_34 rfl rfl ?_
        obtain ⟨c_11, h⟩ := aw_ck h
        refine x_iald (pc := 35) dX10_move_35 gm_6 c_11 ?_
        refine x_if_ne (pc := 36) 46 dX10_move_36 (by decide) (fun c_12 => ?_) (fun c_12 => ?_)
        · have h := aw_neg h c_12
          refine x_aload_n (pc := 46) 0 dX10_move_46 rfl rfl ?_
          refine x_get (pc := 47) dX10_move_47 lk_X10_25 gm_0 rfl rfl ?_
          refine x_iload_n (pc := 50) 1 dX10_move_50 rfl rfl ?_
          obtain ⟨c_13, h⟩ := aw_ck h
          refine x_iald (pc := 51) dX10_move_51 gm_6 c_13 ?_
          refine x_aload_n (pc := 52) 0 dX10_move_52 rfl rfl ?_
          refine x_get (pc := 53) dX10_move_53 lk_X10_25 gm_0 rfl rfl ?_
          refine x_iload_n (pc := 56) 3 dX10_move_56 rfl rfl ?_
          obtain ⟨c_14, h⟩ := aw_ck h
          refine x_iald (pc := 57) dX10_move_57 gm_6 c_14 ?_
          refine x_icmp_eq (pc := 58) 68 dX10_move_58 (by decide) (fun c_15 => ?_) (fun c_15 => ?_)
          · have h := aw_pos h c_15
            refine x_iload (pc := 68) dX10_move_68 rfl ?_
            refine x_if_lt (pc := 70) 109 dX10_move_70 (by decide) (fun c_16 => ?_) (fun c_16 => ?_)
            · have h := aw_pos h c_16
              refine x_aload_n (pc := 109) 0 dX10_move_109 rfl rfl ?_
              refine x_ldc (pc := 110) dX10_move_110 wk_X10_48 ?_
              refine x_callV (pc := 112) (As := [.int (-1000000001)]) (rest := []) (st' := [.int r]) (w := (some (.int r))) dX10_move_112 cw_X10_49 hd1 gm_0 rfl rfl rfl (Nat.le_of_ble_eq_true rfl) (tm_errs (d - 1) hh_0 (-1000000001) _ _ _ h) rfl ?_
              exact x_iret (pc := 115) dX10_move_115
            · have h := aw_neg h c_16
              refine x_iload_n (pc := 73) 2 dX10_move_73 rfl rfl ?_
              refine x_if_lt (pc := 74) 109 dX10_move_74 (by decide) (fun c_17 => ?_) (fun c_17 => ?_)
              · have h := aw_pos h c_17
                refine x_aload_n (pc := 109) 0 dX10_move_109 rfl rfl ?_
                refine x_ldc (pc := 110) dX10_move_110 wk_X10_48 ?_
                refine x_callV (pc := 112) (As := [.int (-1000000001)]) (rest := []) (st' := [.int r]) (w := (some (.int r))) dX10_move_112 cw_X10_49 hd1 gm_0 rfl rfl rfl (Nat.le_of_ble_eq_true rfl) (tm_errs (d - 1) hh_0 (-1000000001) _ _ _ h) rfl ?_
                exact x_iret (pc := 115) dX10_move_115
              · have h := aw_neg h c_17
                refine x_iload (pc := 77) dX10_move_77 rfl ?_
                refine x_if_lt (pc := 79) 109 dX10_move_79 (by decide) (fun c_18 => ?_) (fun c_18 => ?_)
                · have h := aw_pos h c_18
                  refine x_aload_n (pc := 109) 0 dX10_move_109 rfl rfl ?_
                  refine x_ldc (pc := 110) dX10_move_110 wk_X10_48 ?_
                  refine x_callV (pc := 112) (As := [.int (-1000000001)]) (rest := []) (st' := [.int r]) (w := (some (.int r))) dX10_move_112 cw_X10_49 hd1 gm_0 rfl rfl rfl (Nat.le_of_ble_eq_true rfl) (tm_errs (d - 1) hh_0 (-1000000001) _ _ _ h) rfl ?_
                  exact x_iret (pc := 115) dX10_move_115
                · have h := aw_neg h c_18
                  refine x_iload_n (pc := 82) 2 dX10_move_82 rfl rfl ?_
                  refine x_aload_n (pc := 83) 0 dX10_move_83 rfl rfl ?_
                  refine x_get (pc := 84) dX10_move_84 lk_X10_28 gm_0 rfl rfl ?_
                  refine x_iload_n (pc := 87) 1 dX10_move_87 rfl rfl ?_
                  obtain ⟨c_19, h⟩ := aw_ck h
                  refine x_iald (pc := 88) dX10_move_88 gm_7 c_19 ?_
                  refine x_iload (pc := 89) dX10_move_89 rfl ?_
                  refine x_isub (pc := 91) dX10_move_91 ?_
                  refine x_icmp_gt (pc := 92) 109 dX10_move_92 (by decide) (fun c_20 => ?_) (fun c_20 => ?_)
                  · have h := aw_pos h c_20
                    refine x_aload_n (pc := 109) 0 dX10_move_109 rfl rfl ?_
                    refine x_ldc (pc := 110) dX10_move_110 wk_X10_48 ?_
                    refine x_callV (pc := 112) (As := [.int (-1000000001)]) (rest := []) (st' := [.int r]) (w := (some (.int r))) dX10_move_112 cw_X10_49 hd1 gm_0 rfl rfl rfl (Nat.le_of_ble_eq_true rfl) (tm_errs (d - 1) hh_0 (-1000000001) _ _ _ h) rfl ?_
                    exact x_iret (pc := 115) dX10_move_115
                  · have h := aw_neg h c_20
                    refine x_iload (pc := 95) dX10_move_95 rfl ?_
                    refine x_aload_n (pc := 97) 0 dX10_move_97 rfl rfl ?_
                    refine x_get (pc := 98) dX10_move_98 lk_X10_28 gm_0 rfl rfl ?_
                    refine x_iload_n (pc := 101) 3 dX10_move_101 rfl rfl ?_
                    obtain ⟨c_21, h⟩ := aw_ck h
                    refine x_iald (pc := 102) dX10_move_102 gm_7 c_21 ?_
                    refine x_iload (pc := 103) dX10_move_103 rfl ?_
                    refine x_isub (pc := 105) dX10_move_105 ?_
                    refine x_icmp_le (pc := 106) 116 dX10_move_106 (by decide) (fun c_22 => ?_) (fun c_22 => ?_)
                    · have h := aw_pos h c_22
                      refine x_iconst (pc := 116) (w := 0) dX10_move_116 ic_0 ?_
                      refine x_istore (pc := 117) 6 [(6, .int 0), (0, .ref (ad 0)), (1, .int p1), (2, .int p2), (3, .int p3), (4, .int p4), (5, .int p5)] dX10_move_117 (by decide) rfl ?_
                      refine x_lv [1, 2, 3, 4, 5, 6, 0] [(0, .ref (ad 0)), (1, .int p1), (2, .int p2), (3, .int p3), (4, .int p4), (5, .int p5), (6, .int 0)] rfl ?_
                      exact tm_move_L119 d hd  2000 p1 p2 p3 p4 p5 0 _ _ _ h
                    · have h := aw_neg h c_22
                      refine x_aload_n (pc := 109) 0 dX10_move_109 rfl rfl ?_
                      refine x_ldc (pc := 110) dX10_move_110 wk_X10_48 ?_
                      refine x_callV (pc := 112) (As := [.int (-1000000001)]) (rest := []) (st' := [.int r]) (w := (some (.int r))) dX10_move_112 cw_X10_49 hd1 gm_0 rfl rfl rfl (Nat.le_of_ble_eq_true rfl) (tm_errs (d - 1) hh_0 (-1000000001) _ _ _ h) rfl ?_
                      exact x_iret (pc := 115) dX10_move_115
          · have h := aw_neg h c_15
            refine x_aload_n (pc := 61) 0 dX10_move_61 rfl rfl ?_
            refine x_ldc (pc := 62) dX10_move_62 wk_X10_84 ?_
            refine x_callV (pc := 64) (As := [.int (-1000000005)]) (rest := []) (st' := [.int r]) (w := (some (.int r))) dX10_move_64 cw_X10_49 hd1 gm_0 rfl rfl rfl (Nat.le_of_ble_eq_true rfl) (tm_errs (d - 1) hh_0 (-1000000005) _ _ _ h) rfl ?_
            exact x_iret (pc := 67) dX10_move_67
        · have h := aw_pos h c_12
          refine x_aload_n (pc := 39) 0 dX10_move_39 rfl rfl ?_
          refine x_ldc (pc := 40) dX10_move_40 wk_X10_187 ?_
          refine x_callV (pc := 42) (As := [.int (-1000000002)]) (rest := []) (st' := [.int r]) (w := (some (.int r))) dX10_move_42 cw_X10_49 hd1 gm_0 rfl rfl rfl (Nat.le_of_ble_eq_true rfl) (tm_errs (d - 1) hh_0 (-1000000002) _ _ _ h) rfl ?_
          exact x_iret (pc := 45) dX10_move_45
    · have h := aw_pos h c_8
      refine x_aload_n (pc := 14) 0 dX10_move_14 rfl rfl ?_
      refine x_ldc (pc := 15) dX10_move_15 wk_X10_48 ?_
      refine x_callV (pc := 17) (As := [.int (-1000000001)]) (rest := []) (st' := [.int r]) (w := (some (.int r))) dX10_move_17 cw_X10_49 hd1 gm_0 rfl rfl rfl (Nat.le_of_ble_eq_true rfl) (tm_errs (d - 1) hh_0 (-1000000001) _ _ _ h) rfl ?_
      exact x_iret (pc := 20) dX10_move_20
def fm_thicks_L32 : Nat → Int32 → Int32 → aw_M → Option (Int32 × aw_M)
  | 0, _, _, _ => none
  | n + 1, p1, p2, M =>
    if aw_in p1 4 then none else (
    if (M 7 p1.toNatClampNeg) ≤ p2 then (
      some (p2, M)
    ) else (
      aw_bi (fm_isCloth p2 M) fun r_10 M_11 => (
      if r_10 = 0 then (
        some (p2, M_11)
      ) else (
        if aw_in ((40 * p1) + p2) 160 then none else (
        aw_bi (fm_in (M_11 8 ((40 * p1) + p2).toNatClampNeg) 0 9 M_11) fun r_15 M_16 => (
        if r_15 = 0 then (
          some (p2, M_16)
        ) else (
          if aw_in ((40 * p1) + p2) 160 then none else (
          aw_bv (fm_gets p2 2 (M_16 8 ((40 * p1) + p2).toNatClampNeg) M_16) fun M_20 => (
          fm_thicks_L32 n p1 (p2 + 1) M_20
          )
          )
        )
        )
        )
      )
      )
    )
    )
theorem fm_thicks_L32_s (n : Nat) (p1 : Int32) (p2 : Int32) (M : aw_M) : fm_thicks_L32 (n + 1) p1 p2 M = (
    if aw_in p1 4 then none else (
    if (M 7 p1.toNatClampNeg) ≤ p2 then (
      some (p2, M)
    ) else (
      aw_bi (fm_isCloth p2 M) fun r_10 M_11 => (
      if r_10 = 0 then (
        some (p2, M_11)
      ) else (
        if aw_in ((40 * p1) + p2) 160 then none else (
        aw_bi (fm_in (M_11 8 ((40 * p1) + p2).toNatClampNeg) 0 9 M_11) fun r_15 M_16 => (
        if r_15 = 0 then (
          some (p2, M_16)
        ) else (
          if aw_in ((40 * p1) + p2) 160 then none else (
          aw_bv (fm_gets p2 2 (M_16 8 ((40 * p1) + p2).toNatClampNeg) M_16) fun M_20 => (
          fm_thicks_L32 n p1 (p2 + 1) M_20
          )
          )
        )
        )
        )
      )
      )
    )
    )
    ) := rfl
set_option maxRecDepth 20000 in
theorem tm_thicks_L32 {l : Launch} {D : va_G} {cy : Nat → ClassId} {ad : Nat → Nat} {A : Nat → Prop} (d : Nat) (hd : 2 ≤ d) : ∀ (n : Nat) (p1 : Int32) (p2 : Int32) (M : aw_M) (r : Int32) (M1 : aw_M), fm_thicks_L32 n p1 p2 M = some (r, M1) → AW l D cy ad A gm_G RX10 cX10_thicks 3 (some .int) d (some (.int r)) M1 32 [(0, .ref (ad 0)), (1, .int p1), (2, .int p2)] [] M := by
  have hd1 : (d - 1) + 1 ≤ d := by omega
  have hm1 : 1 ≤ d := by omega
  have hh_0 : 0 ≤ d - 1 := by omega
  have hh_1 : 1 ≤ d - 1 := by omega
  intro n
  induction n with
  | zero => intro p1 p2 M r M1 h; cases h
  | succ n ih =>
    intro p1 p2 M r M1 h
    rw [fm_thicks_L32_s] at h
    refine x_iload_n (pc := 32) 2 dX10_thicks_32 rfl rfl ?_
    refine x_aload_n (pc := 33) 0 dX10_thicks_33 rfl rfl ?_
    refine x_get (pc := 34) dX10_thicks_34 lk_X10_28 gm_0 rfl rfl ?_
    refine x_iload_n (pc := 37) 1 dX10_thicks_37 rfl rfl ?_
    obtain ⟨c_7, h⟩ := aw_ck h
    refine x_iald (pc := 38) dX10_thicks_38 gm_7 c_7 ?_
    refine x_icmp_ge (pc := 39) 93 dX10_thicks_39 (by decide) (fun c_8 => ?_) (fun c_8 => ?_)
    · have h := aw_pos h c_8
      refine x_iload_n (pc := 93) 2 dX10_thicks_93 rfl rfl ?_
      obtain ⟨rfl, rfl⟩ := aw_so h
      exact x_iret (pc := 94) dX10_thicks_94
    · have h := aw_neg h c_8
      refine x_aload_n (pc := 42) 0 dX10_thicks_42 rfl rfl ?_
      refine x_iload_n (pc := 43) 2 dX10_thicks_43 rfl rfl ?_
      obtain ⟨r_10, M_11, e_9, h⟩ := aw_bi_e h
      refine x_callV (pc := 44) (As := [.int p2]) (rest := []) (st' := [.int r_10]) (w := (some (.int r_10))) dX10_thicks_44 cw_X10_62 hd1 gm_0 rfl rfl rfl (Nat.le_of_ble_eq_true rfl) (tm_isCloth (d - 1) hh_1 p2 _ _ _ e_9) rfl ?_
      refine x_if_eq (pc := 47) 93 dX10_thicks_47 (by decide) (fun c_12 => ?_) (fun c_12 => ?_)
      · have h := aw_pos h c_12
        refine x_iload_n (pc := 93) 2 dX10_thicks_93 rfl rfl ?_
        obtain ⟨rfl, rfl⟩ := aw_so h
        exact x_iret (pc := 94) dX10_thicks_94
      · have h := aw_neg h c_12
        refine x_aload_n (pc := 50) 0 dX10_thicks_50 rfl rfl ?_
        refine x_get (pc := 51) dX10_thicks_51 lk_X10_31 gm_0 rfl rfl ?_
        refine x_bipush (pc := 54) (w := 40) dX10_thicks_54 bi_40 ?_
        refine x_iload_n (pc := 56) 1 dX10_thicks_56 rfl rfl ?_
        refine x_imul (pc := 57) dX10_thicks_57 ?_
        refine x_iload_n (pc := 58) 2 dX10_thicks_58 rfl rfl ?_
        refine x_iadd (pc := 59) dX10_thicks_59 ?_
        obtain ⟨c_13, h⟩ := aw_ck h
        refine x_iald (pc := 60) dX10_thicks_60 gm_8 c_13 ?_
        refine x_iconst (pc := 61) (w := 0) dX10_thicks_61 ic_0 ?_
        refine x_bipush (pc := 62) (w := 9) dX10_thicks_62 bi_9 ?_
        obtain ⟨r_15, M_16, e_14, h⟩ := aw_bi_e h
        refine x_callS (pc := 64) (As := [.int (M_11 8 ((40 * p1) + p2).toNatClampNeg), .int 0, .int 9]) (rest := []) (st' := [.int r_15]) (w := (some (.int r_15))) dX10_thicks_64 cw_X10_44 hd1 rfl rfl (Nat.le_of_ble_eq_true rfl) (tm_in (d - 1) hh_0 (M_11 8 ((40 * p1) + p2).toNatClampNeg) 0 9 _ _ _ e_14) rfl ?_
        refine x_if_eq (pc := 67) 93 dX10_thicks_67 (by decide) (fun c_17 => ?_) (fun c_17 => ?_)
        · have h := aw_pos h c_17
          refine x_iload_n (pc := 93) 2 dX10_thicks_93 rfl rfl ?_
          obtain ⟨rfl, rfl⟩ := aw_so h
          exact x_iret (pc := 94) dX10_thicks_94
        · have h := aw_neg h c_17
          refine x_aload_n (pc := 70) 0 dX10_thicks_70 rfl rfl ?_
          refine x_iload_n (pc := 71) 2 dX10_thicks_71 rfl rfl ?_
          refine x_iconst (pc := 72) (w := 2) dX10_thicks_72 ic_2 ?_
          refine x_aload_n (pc := 73) 0 dX10_thicks_73 rfl rfl ?_
          refine x_get (pc := 74) dX10_thicks_74 lk_X10_31 gm_0 rfl rfl ?_
          refine x_bipush (pc := 77) (w := 40) dX10_thicks_77 bi_40 ?_
          refine x_iload_n (pc := 79) 1 dX10_thicks_79 rfl rfl ?_
          refine x_imul (pc := 80) dX10_thicks_80 ?_
          refine x_iload_n (pc := 81) 2 dX10_thicks_81 rfl rfl ?_
          refine x_iadd (pc := 82) dX10_thicks_82 ?_
          obtain ⟨c_18, h⟩ := aw_ck h
          refine x_iald (pc := 83) dX10_thicks_83 gm_8 c_18 ?_
          obtain ⟨M_20, e_19, h⟩ := aw_bv_e h
          refine x_callV (pc := 84) (As := [.int p2, .int 2, .int (M_16 8 ((40 * p1) + p2).toNatClampNeg)]) (rest := []) (st' := []) (w := none) dX10_thicks_84 cw_X10_58 hd1 gm_0 rfl rfl rfl (Nat.le_of_ble_eq_true rfl) (tm_gets (d - 1) hh_0 p2 2 (M_16 8 ((40 * p1) + p2).toNatClampNeg) _  _ e_19) rfl ?_
          refine x_iinc (pc := 87) (p2 + 1) [(2, .int (p2 + 1)), (0, .ref (ad 0)), (1, .int p1)] dX10_thicks_87 rfl (congrArg (fun z => p2 + z) ic_1) (by decide) rfl ?_
          refine x_goto (pc := 90) 32 dX10_thicks_90 (by decide) ?_
          refine x_lv [1, 2, 0] [(0, .ref (ad 0)), (1, .int p1), (2, .int (p2 + 1))] rfl ?_
          exact ih p1 (p2 + 1) _ _ _ h
def fm_thicks (p1 : Int32) (M : aw_M) : Option (Int32 × aw_M) :=
  aw_bi (fm_isSheet p1 M) fun r_2 M_3 => (
  if r_2 = 0 then (
    fm_errs (-1000000001) M_3
  ) else (
    if aw_in p1 4 then none else (
    if (M_3 6 p1.toNatClampNeg) = 0 then (
      fm_errs (-1000000002) M_3
    ) else (
      fm_thicks_L32  2000 p1 0 M_3
    )
    )
  )
  )
set_option maxRecDepth 20000 in
theorem tm_thicks {l : Launch} {D : va_G} {cy : Nat → ClassId} {ad : Nat → Nat} {A : Nat → Prop} (d : Nat) (hd : 2 ≤ d) (p1 : Int32) (M : aw_M) (r : Int32) (M1 : aw_M) (h : fm_thicks p1 M = some (r, M1)) : AX l D cy ad A gm_G yX10_thicks cX10_thicks 3 (some .int) d [.ref (ad 0), .int p1] M (some (.int r)) M1 := by
  have hd1 : (d - 1) + 1 ≤ d := by omega
  have hm1 : 1 ≤ d := by omega
  have hh_0 : 0 ≤ d - 1 := by omega
  have hh_1 : 1 ≤ d - 1 := by omega
  refine AX.of (own := RX10) (by decide +kernel) rfl (Nat.le_of_ble_eq_true rfl) ?_
  unfold fm_thicks at h
  show AW l D cy ad A gm_G RX10 cX10_thicks 3 (some .int) d (some (.int r)) M1 0 [(0, .ref (ad 0)), (1, .int p1)] [] M
  refine x_iload_n (pc := 0) 1 dX10_thicks_0 rfl rfl ?_
  obtain ⟨r_2, M_3, e_1, h⟩ := aw_bi_e h
  refine x_callS (pc := 1) (As := [.int p1]) (rest := []) (st' := [.int r_2]) (w := (some (.int r_2))) dX10_thicks_1 cw_X10_191 hd1 rfl rfl (Nat.le_of_ble_eq_true rfl) (tm_isSheet (d - 1) hh_1 p1 _ _ _ e_1) rfl ?_
  refine x_if_ne (pc := 4) 14 dX10_thicks_4 (by decide) (fun c_4 => ?_) (fun c_4 => ?_)
  · have h := aw_neg h c_4
    refine x_aload_n (pc := 14) 0 dX10_thicks_14 rfl rfl ?_
    refine x_get (pc := 15) dX10_thicks_15 lk_X10_25 gm_0 rfl rfl ?_
    refine x_iload_n (pc := 18) 1 dX10_thicks_18 rfl rfl ?_
    obtain ⟨c_5, h⟩ := aw_ck h
    refine x_iald (pc := 19) dX10_thicks_19 gm_6 c_5 ?_
    refine x_if_ne (pc := 20) 30 dX10_thicks_20 (by decide) (fun c_6 => ?_) (fun c_6 => ?_)
    · have h := aw_neg h c_6
      refine x_iconst (pc := 30) (w := 0) dX10_thicks_30 ic_0 ?_
      refine x_istore_n (pc := 31) 2 [(2, .int 0), (0, .ref (ad 0)), (1, .int p1)] dX10_thicks_31 rfl (by decide) rfl ?_
      refine x_lv [1, 2, 0] [(0, .ref (ad 0)), (1, .int p1), (2, .int 0)] rfl ?_
      exact tm_thicks_L32 d hd  2000 p1 0 _ _ _ h
    · have h := aw_pos h c_6
      refine x_aload_n (pc := 23) 0 dX10_thicks_23 rfl rfl ?_
      refine x_ldc (pc := 24) dX10_thicks_24 wk_X10_187 ?_
      refine x_callV (pc := 26) (As := [.int (-1000000002)]) (rest := []) (st' := [.int r]) (w := (some (.int r))) dX10_thicks_26 cw_X10_49 hd1 gm_0 rfl rfl rfl (Nat.le_of_ble_eq_true rfl) (tm_errs (d - 1) hh_0 (-1000000002) _ _ _ h) rfl ?_
      exact x_iret (pc := 29) dX10_thicks_29
  · have h := aw_pos h c_4
    refine x_aload_n (pc := 7) 0 dX10_thicks_7 rfl rfl ?_
    refine x_ldc (pc := 8) dX10_thicks_8 wk_X10_48 ?_
    refine x_callV (pc := 10) (As := [.int (-1000000001)]) (rest := []) (st' := [.int r]) (w := (some (.int r))) dX10_thicks_10 cw_X10_49 hd1 gm_0 rfl rfl rfl (Nat.le_of_ble_eq_true rfl) (tm_errs (d - 1) hh_0 (-1000000001) _ _ _ h) rfl ?_
    exact x_iret (pc := 13) dX10_thicks_13
def fm_judge_J77 (p1 : Int32) (p2 : Int32) (M : aw_M) : Option (Int32 × aw_M) :=
    if p2 = (M 1 2) then (
      if aw_in p1 4 then none else (
      if p2 = (M 7 p1.toNatClampNeg) then (
        some ((-1), M)
      ) else (
        some (p2, M)
      )
      )
    ) else (
      some (p2, M)
    )
set_option maxRecDepth 20000 in
theorem tm_judge_J77 {l : Launch} {D : va_G} {cy : Nat → ClassId} {ad : Nat → Nat} {A : Nat → Prop} (d : Nat) (hd : 107 ≤ d) (p1 : Int32) (p2 : Int32) (M : aw_M) (r : Int32) (M1 : aw_M) (h : fm_judge_J77 p1 p2 M = some (r, M1)) : AW l D cy ad A gm_G RX10 cX10_judge 3 (some .int) d (some (.int r)) M1 77 [(0, .ref (ad 0)), (1, .int p1), (2, .int p2)] [] M := by
  have hd1 : (d - 1) + 1 ≤ d := by omega
  have hm1 : 1 ≤ d := by omega
  have hh_0 : 0 ≤ d - 1 := by omega
  have hh_1 : 1 ≤ d - 1 := by omega
  have hh_106 : 106 ≤ d - 1 := by omega
  unfold fm_judge_J77 at h
  refine x_iload_n (pc := 77) 2 dX10_judge_77 rfl rfl ?_
  refine x_aload_n (pc := 78) 0 dX10_judge_78 rfl rfl ?_
  refine x_get (pc := 79) dX10_judge_79 lk_X10_7 gm_0 rfl rfl ?_
  refine x_iconst (pc := 82) (w := 2) dX10_judge_82 ic_2 ?_
  refine x_ialdJ (pc := 83) 2 dX10_judge_83 gm_1 (by decide) tn_2 ?_
  refine x_icmp_ne (pc := 84) 101 dX10_judge_84 (by decide) (fun c_15 => ?_) (fun c_15 => ?_)
  · have h := aw_neg h c_15
    refine x_iload_n (pc := 101) 2 dX10_judge_101 rfl rfl ?_
    obtain ⟨rfl, rfl⟩ := aw_so h
    exact x_iret (pc := 102) dX10_judge_102
  · have h := aw_pos h c_15
    refine x_iload_n (pc := 87) 2 dX10_judge_87 rfl rfl ?_
    refine x_aload_n (pc := 88) 0 dX10_judge_88 rfl rfl ?_
    refine x_get (pc := 89) dX10_judge_89 lk_X10_28 gm_0 rfl rfl ?_
    refine x_iload_n (pc := 92) 1 dX10_judge_92 rfl rfl ?_
    obtain ⟨c_16, h⟩ := aw_ck h
    refine x_iald (pc := 93) dX10_judge_93 gm_7 c_16 ?_
    refine x_icmp_ne (pc := 94) 101 dX10_judge_94 (by decide) (fun c_17 => ?_) (fun c_17 => ?_)
    · have h := aw_neg h c_17
      refine x_iload_n (pc := 101) 2 dX10_judge_101 rfl rfl ?_
      obtain ⟨rfl, rfl⟩ := aw_so h
      exact x_iret (pc := 102) dX10_judge_102
    · have h := aw_pos h c_17
      refine x_iconst (pc := 97) (w := (-1)) dX10_judge_97 ic_m1 ?_
      refine x_goto (pc := 98) 102 dX10_judge_98 (by decide) ?_
      obtain ⟨rfl, rfl⟩ := aw_so h
      exact x_iret (pc := 102) dX10_judge_102
def fm_judge_L32 : Nat → Int32 → Int32 → aw_M → Option (Int32 × aw_M)
  | 0, _, _, _ => none
  | n + 1, p1, p2, M =>
    if (M 1 2) ≤ p2 then (
      fm_judge_J77  p1 p2 M
    ) else (
      if aw_in p1 4 then none else (
      if (M 7 p1.toNatClampNeg) ≤ p2 then (
        fm_judge_J77  p1 p2 M
      ) else (
        if aw_in ((40 * p1) + p2) 160 then none else (
        aw_bi (fm_shows p2 M) fun r_12 M_13 => (
        if (M 8 ((40 * p1) + p2).toNatClampNeg) = r_12 then (
          fm_judge_L32 n p1 (p2 + 1) M_13
        ) else (
          fm_judge_J77  p1 p2 M_13
        )
        )
        )
      )
      )
    )
theorem fm_judge_L32_s (n : Nat) (p1 : Int32) (p2 : Int32) (M : aw_M) : fm_judge_L32 (n + 1) p1 p2 M = (
    if (M 1 2) ≤ p2 then (
      fm_judge_J77  p1 p2 M
    ) else (
      if aw_in p1 4 then none else (
      if (M 7 p1.toNatClampNeg) ≤ p2 then (
        fm_judge_J77  p1 p2 M
      ) else (
        if aw_in ((40 * p1) + p2) 160 then none else (
        aw_bi (fm_shows p2 M) fun r_12 M_13 => (
        if (M 8 ((40 * p1) + p2).toNatClampNeg) = r_12 then (
          fm_judge_L32 n p1 (p2 + 1) M_13
        ) else (
          fm_judge_J77  p1 p2 M_13
        )
        )
        )
      )
      )
    )
    ) := rfl
set_option maxRecDepth 20000 in
theorem tm_judge_L32 {l : Launch} {D : va_G} {cy : Nat → ClassId} {ad : Nat → Nat} {A : Nat → Prop} (d : Nat) (hd : 107 ≤ d) : ∀ (n : Nat) (p1 : Int32) (p2 : Int32) (M : aw_M) (r : Int32) (M1 : aw_M), fm_judge_L32 n p1 p2 M = some (r, M1) → AW l D cy ad A gm_G RX10 cX10_judge 3 (some .int) d (some (.int r)) M1 32 [(0, .ref (ad 0)), (1, .int p1), (2, .int p2)] [] M := by
  have hd1 : (d - 1) + 1 ≤ d := by omega
  have hm1 : 1 ≤ d := by omega
  have hh_0 : 0 ≤ d - 1 := by omega
  have hh_1 : 1 ≤ d - 1 := by omega
  have hh_106 : 106 ≤ d - 1 := by omega
  intro n
  induction n with
  | zero => intro p1 p2 M r M1 h; cases h
  | succ n ih =>
    intro p1 p2 M r M1 h
    rw [fm_judge_L32_s] at h
    refine x_iload_n (pc := 32) 2 dX10_judge_32 rfl rfl ?_
    refine x_aload_n (pc := 33) 0 dX10_judge_33 rfl rfl ?_
    refine x_get (pc := 34) dX10_judge_34 lk_X10_7 gm_0 rfl rfl ?_
    refine x_iconst (pc := 37) (w := 2) dX10_judge_37 ic_2 ?_
    refine x_ialdJ (pc := 38) 2 dX10_judge_38 gm_1 (by decide) tn_2 ?_
    refine x_icmp_ge (pc := 39) 77 dX10_judge_39 (by decide) (fun c_7 => ?_) (fun c_7 => ?_)
    · have h := aw_pos h c_7
      refine x_lv [0, 1, 2] [(0, .ref (ad 0)), (1, .int p1), (2, .int p2)] rfl ?_
      exact tm_judge_J77 d hd  p1 p2 _ _ _ h
    · have h := aw_neg h c_7
      refine x_iload_n (pc := 42) 2 dX10_judge_42 rfl rfl ?_
      refine x_aload_n (pc := 43) 0 dX10_judge_43 rfl rfl ?_
      refine x_get (pc := 44) dX10_judge_44 lk_X10_28 gm_0 rfl rfl ?_
      refine x_iload_n (pc := 47) 1 dX10_judge_47 rfl rfl ?_
      obtain ⟨c_8, h⟩ := aw_ck h
      refine x_iald (pc := 48) dX10_judge_48 gm_7 c_8 ?_
      refine x_icmp_ge (pc := 49) 77 dX10_judge_49 (by decide) (fun c_9 => ?_) (fun c_9 => ?_)
      · have h := aw_pos h c_9
        refine x_lv [0, 1, 2] [(0, .ref (ad 0)), (1, .int p1), (2, .int p2)] rfl ?_
        exact tm_judge_J77 d hd  p1 p2 _ _ _ h
      · have h := aw_neg h c_9
        refine x_aload_n (pc := 52) 0 dX10_judge_52 rfl rfl ?_
        refine x_get (pc := 53) dX10_judge_53 lk_X10_31 gm_0 rfl rfl ?_
        refine x_bipush (pc := 56) (w := 40) dX10_judge_56 bi_40 ?_
        refine x_iload_n (pc := 58) 1 dX10_judge_58 rfl rfl ?_
        refine x_imul (pc := 59) dX10_judge_59 ?_
        refine x_iload_n (pc := 60) 2 dX10_judge_60 rfl rfl ?_
        refine x_iadd (pc := 61) dX10_judge_61 ?_
        obtain ⟨c_10, h⟩ := aw_ck h
        refine x_iald (pc := 62) dX10_judge_62 gm_8 c_10 ?_
        refine x_aload_n (pc := 63) 0 dX10_judge_63 rfl rfl ?_
        refine x_iload_n (pc := 64) 2 dX10_judge_64 rfl rfl ?_
        obtain ⟨r_12, M_13, e_11, h⟩ := aw_bi_e h
        refine x_callV (pc := 65) (As := [.int p2]) (rest := [.int (M 8 ((40 * p1) + p2).toNatClampNeg)]) (st' := [.int r_12, .int (M 8 ((40 * p1) + p2).toNatClampNeg)]) (w := (some (.int r_12))) dX10_judge_65 cw_X10_75 hd1 gm_0 rfl rfl rfl (Nat.le_of_ble_eq_true rfl) (tm_shows (d - 1) hh_106 p2 _ _ _ e_11) rfl ?_
        refine x_icmp_ne (pc := 68) 77 dX10_judge_68 (by decide) (fun c_14 => ?_) (fun c_14 => ?_)
        · have h := aw_neg h c_14
          refine x_lv [0, 1, 2] [(0, .ref (ad 0)), (1, .int p1), (2, .int p2)] rfl ?_
          exact tm_judge_J77 d hd  p1 p2 _ _ _ h
        · have h := aw_pos h c_14
          refine x_iinc (pc := 71) (p2 + 1) [(2, .int (p2 + 1)), (0, .ref (ad 0)), (1, .int p1)] dX10_judge_71 rfl (congrArg (fun z => p2 + z) ic_1) (by decide) rfl ?_
          refine x_goto (pc := 74) 32 dX10_judge_74 (by decide) ?_
          refine x_lv [1, 2, 0] [(0, .ref (ad 0)), (1, .int p1), (2, .int (p2 + 1))] rfl ?_
          exact ih p1 (p2 + 1) _ _ _ h
def fm_judge (p1 : Int32) (M : aw_M) : Option (Int32 × aw_M) :=
  aw_bi (fm_isSheet p1 M) fun r_2 M_3 => (
  if r_2 = 0 then (
    fm_errs (-1000000001) M_3
  ) else (
    if aw_in p1 4 then none else (
    if (M_3 6 p1.toNatClampNeg) = 0 then (
      fm_errs (-1000000002) M_3
    ) else (
      fm_judge_L32  2000 p1 0 M_3
    )
    )
  )
  )
set_option maxRecDepth 20000 in
theorem tm_judge {l : Launch} {D : va_G} {cy : Nat → ClassId} {ad : Nat → Nat} {A : Nat → Prop} (d : Nat) (hd : 107 ≤ d) (p1 : Int32) (M : aw_M) (r : Int32) (M1 : aw_M) (h : fm_judge p1 M = some (r, M1)) : AX l D cy ad A gm_G yX10_judge cX10_judge 3 (some .int) d [.ref (ad 0), .int p1] M (some (.int r)) M1 := by
  have hd1 : (d - 1) + 1 ≤ d := by omega
  have hm1 : 1 ≤ d := by omega
  have hh_0 : 0 ≤ d - 1 := by omega
  have hh_1 : 1 ≤ d - 1 := by omega
  have hh_106 : 106 ≤ d - 1 := by omega
  refine AX.of (own := RX10) (by decide +kernel) rfl (Nat.le_of_ble_eq_true rfl) ?_
  unfold fm_judge at h
  show AW l D cy ad A gm_G RX10 cX10_judge 3 (some .int) d (some (.int r)) M1 0 [(0, .ref (ad 0)), (1, .int p1)] [] M
  refine x_iload_n (pc := 0) 1 dX10_judge_0 rfl rfl ?_
  obtain ⟨r_2, M_3, e_1, h⟩ := aw_bi_e h
  refine x_callS (pc := 1) (As := [.int p1]) (rest := []) (st' := [.int r_2]) (w := (some (.int r_2))) dX10_judge_1 cw_X10_191 hd1 rfl rfl (Nat.le_of_ble_eq_true rfl) (tm_isSheet (d - 1) hh_1 p1 _ _ _ e_1) rfl ?_
  refine x_if_ne (pc := 4) 14 dX10_judge_4 (by decide) (fun c_4 => ?_) (fun c_4 => ?_)
  · have h := aw_neg h c_4
    refine x_aload_n (pc := 14) 0 dX10_judge_14 rfl rfl ?_
    refine x_get (pc := 15) dX10_judge_15 lk_X10_25 gm_0 rfl rfl ?_
    refine x_iload_n (pc := 18) 1 dX10_judge_18 rfl rfl ?_
    obtain ⟨c_5, h⟩ := aw_ck h
    refine x_iald (pc := 19) dX10_judge_19 gm_6 c_5 ?_
    refine x_if_ne (pc := 20) 30 dX10_judge_20 (by decide) (fun c_6 => ?_) (fun c_6 => ?_)
    · have h := aw_neg h c_6
      refine x_iconst (pc := 30) (w := 0) dX10_judge_30 ic_0 ?_
      refine x_istore_n (pc := 31) 2 [(2, .int 0), (0, .ref (ad 0)), (1, .int p1)] dX10_judge_31 rfl (by decide) rfl ?_
      refine x_lv [1, 2, 0] [(0, .ref (ad 0)), (1, .int p1), (2, .int 0)] rfl ?_
      exact tm_judge_L32 d hd  2000 p1 0 _ _ _ h
    · have h := aw_pos h c_6
      refine x_aload_n (pc := 23) 0 dX10_judge_23 rfl rfl ?_
      refine x_ldc (pc := 24) dX10_judge_24 wk_X10_187 ?_
      refine x_callV (pc := 26) (As := [.int (-1000000002)]) (rest := []) (st' := [.int r]) (w := (some (.int r))) dX10_judge_26 cw_X10_49 hd1 gm_0 rfl rfl rfl (Nat.le_of_ble_eq_true rfl) (tm_errs (d - 1) hh_0 (-1000000002) _ _ _ h) rfl ?_
      exact x_iret (pc := 29) dX10_judge_29
  · have h := aw_pos h c_4
    refine x_aload_n (pc := 7) 0 dX10_judge_7 rfl rfl ?_
    refine x_ldc (pc := 8) dX10_judge_8 wk_X10_48 ?_
    refine x_callV (pc := 10) (As := [.int (-1000000001)]) (rest := []) (st' := [.int r]) (w := (some (.int r))) dX10_judge_10 cw_X10_49 hd1 gm_0 rfl rfl rfl (Nat.le_of_ble_eq_true rfl) (tm_errs (d - 1) hh_0 (-1000000001) _ _ _ h) rfl ?_
    exact x_iret (pc := 13) dX10_judge_13
def fm_image  (M : aw_M) : Option (Int32 × aw_M) :=
  aw_bv (fm_moveAll 1 2 M) fun M_2 => (
  some (((aw_u (aw_u M_2 0 4 1) 0 5 (((aw_u M_2 0 4 1) 0 5) + 1)) 0 5), (aw_u (aw_u M_2 0 4 1) 0 5 (((aw_u M_2 0 4 1) 0 5) + 1)))
  )
set_option maxRecDepth 20000 in
theorem tm_image {l : Launch} {D : va_G} {cy : Nat → ClassId} {ad : Nat → Nat} {A : Nat → Prop} (d : Nat) (hd : 1 ≤ d)  (M : aw_M) (r : Int32) (M1 : aw_M) (h : fm_image  M = some (r, M1)) : AX l D cy ad A gm_G yX10_image cX10_image 1 (some .int) d [.ref (ad 0)] M (some (.int r)) M1 := by
  have hd1 : (d - 1) + 1 ≤ d := by omega
  have hm1 : 1 ≤ d := by omega
  have hh_0 : 0 ≤ d - 1 := by omega
  refine AX.of (own := RX10) (by decide +kernel) rfl (Nat.le_of_ble_eq_true rfl) ?_
  unfold fm_image at h
  show AW l D cy ad A gm_G RX10 cX10_image 1 (some .int) d (some (.int r)) M1 0 [(0, .ref (ad 0))] [] M
  refine x_aload_n (pc := 0) 0 dX10_image_0 rfl rfl ?_
  refine x_aload_n (pc := 1) 0 dX10_image_1 rfl rfl ?_
  refine x_get (pc := 2) dX10_image_2 lk_X10_7 gm_0 rfl rfl ?_
  refine x_aload_n (pc := 5) 0 dX10_image_5 rfl rfl ?_
  refine x_get (pc := 6) dX10_image_6 lk_X10_13 gm_0 rfl rfl ?_
  obtain ⟨M_2, e_1, h⟩ := aw_bv_e h
  refine x_callV (pc := 9) (As := [.ref (ad 1), .ref (ad 2)]) (rest := []) (st' := []) (w := none) dX10_image_9 cw_X10_158 hd1 gm_0 rfl rfl rfl (Nat.le_of_ble_eq_true rfl) (tm_moveAll (d - 1) hh_0 1 gm_1 2 gm_2 _  _ e_1) rfl ?_
  refine x_aload_n (pc := 12) 0 dX10_image_12 rfl rfl ?_
  refine x_iconst (pc := 13) (w := 1) dX10_image_13 ic_1 ?_
  refine x_put (pc := 14) (x := 1) dX10_image_14 lk_X10_242 lp_X10_4 gm_0 rfl rfl (by decide +kernel) (by decide +kernel) ?_
  refine x_aload_n (pc := 17) 0 dX10_image_17 rfl rfl ?_
  refine x_dup (pc := 18) dX10_image_18 rfl ?_
  refine x_get (pc := 19) dX10_image_19 lk_X10_245 gm_0 rfl rfl ?_
  refine x_iconst (pc := 22) (w := 1) dX10_image_22 ic_1 ?_
  refine x_iadd (pc := 23) dX10_image_23 ?_
  refine x_put (pc := 24) (x := (((aw_u M_2 0 4 1) 0 5) + 1)) dX10_image_24 lk_X10_245 lp_X10_5 gm_0 rfl rfl rfl rfl ?_
  refine x_aload_n (pc := 27) 0 dX10_image_27 rfl rfl ?_
  refine x_get (pc := 28) dX10_image_28 lk_X10_245 gm_0 rfl rfl ?_
  obtain ⟨rfl, rfl⟩ := aw_so h
  exact x_iret (pc := 31) dX10_image_31
def fm_restore  (M : aw_M) : Option (Int32 × aw_M) :=
  if (M 0 4) = 0 then (
    fm_errs (-1000000002) M
  ) else (
    aw_bv (fm_moveAll 2 1 M) fun M_3 => (
    some ((M_3 1 0), M_3)
    )
  )
set_option maxRecDepth 20000 in
theorem tm_restore {l : Launch} {D : va_G} {cy : Nat → ClassId} {ad : Nat → Nat} {A : Nat → Prop} (d : Nat) (hd : 1 ≤ d)  (M : aw_M) (r : Int32) (M1 : aw_M) (h : fm_restore  M = some (r, M1)) : AX l D cy ad A gm_G yX10_restore cX10_restore 1 (some .int) d [.ref (ad 0)] M (some (.int r)) M1 := by
  have hd1 : (d - 1) + 1 ≤ d := by omega
  have hm1 : 1 ≤ d := by omega
  have hh_0 : 0 ≤ d - 1 := by omega
  refine AX.of (own := RX10) (by decide +kernel) rfl (Nat.le_of_ble_eq_true rfl) ?_
  unfold fm_restore at h
  show AW l D cy ad A gm_G RX10 cX10_restore 1 (some .int) d (some (.int r)) M1 0 [(0, .ref (ad 0))] [] M
  refine x_aload_n (pc := 0) 0 dX10_restore_0 rfl rfl ?_
  refine x_get (pc := 1) dX10_restore_1 lk_X10_242 gm_0 rfl rfl ?_
  refine x_if_ne (pc := 4) 14 dX10_restore_4 (by decide) (fun c_1 => ?_) (fun c_1 => ?_)
  · have h := aw_neg h c_1
    refine x_aload_n (pc := 14) 0 dX10_restore_14 rfl rfl ?_
    refine x_aload_n (pc := 15) 0 dX10_restore_15 rfl rfl ?_
    refine x_get (pc := 16) dX10_restore_16 lk_X10_13 gm_0 rfl rfl ?_
    refine x_aload_n (pc := 19) 0 dX10_restore_19 rfl rfl ?_
    refine x_get (pc := 20) dX10_restore_20 lk_X10_7 gm_0 rfl rfl ?_
    obtain ⟨M_3, e_2, h⟩ := aw_bv_e h
    refine x_callV (pc := 23) (As := [.ref (ad 2), .ref (ad 1)]) (rest := []) (st' := []) (w := none) dX10_restore_23 cw_X10_158 hd1 gm_0 rfl rfl rfl (Nat.le_of_ble_eq_true rfl) (tm_moveAll (d - 1) hh_0 2 gm_2 1 gm_1 _  _ e_2) rfl ?_
    refine x_aload_n (pc := 26) 0 dX10_restore_26 rfl rfl ?_
    refine x_get (pc := 27) dX10_restore_27 lk_X10_7 gm_0 rfl rfl ?_
    refine x_iconst (pc := 30) (w := 0) dX10_restore_30 ic_0 ?_
    refine x_ialdJ (pc := 31) 0 dX10_restore_31 gm_1 (by decide) tn_0 ?_
    obtain ⟨rfl, rfl⟩ := aw_so h
    exact x_iret (pc := 32) dX10_restore_32
  · have h := aw_pos h c_1
    refine x_aload_n (pc := 7) 0 dX10_restore_7 rfl rfl ?_
    refine x_ldc (pc := 8) dX10_restore_8 wk_X10_187 ?_
    refine x_callV (pc := 10) (As := [.int (-1000000002)]) (rest := []) (st' := [.int r]) (w := (some (.int r))) dX10_restore_10 cw_X10_49 hd1 gm_0 rfl rfl rfl (Nat.le_of_ble_eq_true rfl) (tm_errs (d - 1) hh_0 (-1000000002) _ _ _ h) rfl ?_
    exact x_iret (pc := 13) dX10_restore_13
def fm_tell (p1 : Int32) (M : aw_M) : Option (Int32 × aw_M) :=
  if (M 1 4) = 20 then (
    fm_errs (-1000000004) M
  ) else (
    if aw_in (93 + (M 1 4)) 213 then none else (
    some (((aw_u (aw_u M 1 (93 + (M 1 4)).toNatClampNeg p1) 1 4 (((aw_u M 1 (93 + (M 1 4)).toNatClampNeg p1) 1 4) + 1)) 1 4), (aw_u (aw_u M 1 (93 + (M 1 4)).toNatClampNeg p1) 1 4 (((aw_u M 1 (93 + (M 1 4)).toNatClampNeg p1) 1 4) + 1)))
    )
  )
set_option maxRecDepth 20000 in
theorem tm_tell {l : Launch} {D : va_G} {cy : Nat → ClassId} {ad : Nat → Nat} {A : Nat → Prop} (d : Nat) (hd : 1 ≤ d) (p1 : Int32) (M : aw_M) (r : Int32) (M1 : aw_M) (h : fm_tell p1 M = some (r, M1)) : AX l D cy ad A gm_G yX10_tell cX10_tell 2 (some .int) d [.ref (ad 0), .int p1] M (some (.int r)) M1 := by
  have hd1 : (d - 1) + 1 ≤ d := by omega
  have hm1 : 1 ≤ d := by omega
  have hh_0 : 0 ≤ d - 1 := by omega
  refine AX.of (own := RX10) (by decide +kernel) rfl (Nat.le_of_ble_eq_true rfl) ?_
  unfold fm_tell at h
  show AW l D cy ad A gm_G RX10 cX10_tell 2 (some .int) d (some (.int r)) M1 0 [(0, .ref (ad 0)), (1, .int p1)] [] M
  refine x_aload_n (pc := 0) 0 dX10_tell_0 rfl rfl ?_
  refine x_get (pc := 1) dX10_tell_1 lk_X10_7 gm_0 rfl rfl ?_
  refine x_iconst (pc := 4) (w := 4) dX10_tell_4 ic_4 ?_
  refine x_ialdJ (pc := 5) 4 dX10_tell_5 gm_1 (by decide) tn_4 ?_
  refine x_bipush (pc := 6) (w := 20) dX10_tell_6 bi_20 ?_
  refine x_icmp_ne (pc := 8) 18 dX10_tell_8 (by decide) (fun c_1 => ?_) (fun c_1 => ?_)
  · have h := aw_neg h c_1
    refine x_aload_n (pc := 18) 0 dX10_tell_18 rfl rfl ?_
    refine x_get (pc := 19) dX10_tell_19 lk_X10_7 gm_0 rfl rfl ?_
    refine x_bipush (pc := 22) (w := 93) dX10_tell_22 bi_93 ?_
    refine x_aload_n (pc := 24) 0 dX10_tell_24 rfl rfl ?_
    refine x_get (pc := 25) dX10_tell_25 lk_X10_7 gm_0 rfl rfl ?_
    refine x_iconst (pc := 28) (w := 4) dX10_tell_28 ic_4 ?_
    refine x_ialdJ (pc := 29) 4 dX10_tell_29 gm_1 (by decide) tn_4 ?_
    refine x_iadd (pc := 30) dX10_tell_30 ?_
    refine x_iload_n (pc := 31) 1 dX10_tell_31 rfl rfl ?_
    obtain ⟨c_2, h⟩ := aw_ck h
    refine x_iast (pc := 32) dX10_tell_32 gm_1 c_2 ?_
    refine x_aload_n (pc := 33) 0 dX10_tell_33 rfl rfl ?_
    refine x_get (pc := 34) dX10_tell_34 lk_X10_7 gm_0 rfl rfl ?_
    refine x_iconst (pc := 37) (w := 4) dX10_tell_37 ic_4 ?_
    refine x_dup2_11 (pc := 38) dX10_tell_38 rfl rfl ?_
    refine x_ialdJ (pc := 39) 4 dX10_tell_39 gm_1 (by decide) tn_4 ?_
    refine x_iconst (pc := 40) (w := 1) dX10_tell_40 ic_1 ?_
    refine x_iadd (pc := 41) dX10_tell_41 ?_
    refine x_iastJ (pc := 42) 4 dX10_tell_42 gm_1 (by decide) tn_4 ?_
    refine x_aload_n (pc := 43) 0 dX10_tell_43 rfl rfl ?_
    refine x_get (pc := 44) dX10_tell_44 lk_X10_7 gm_0 rfl rfl ?_
    refine x_iconst (pc := 47) (w := 4) dX10_tell_47 ic_4 ?_
    refine x_ialdJ (pc := 48) 4 dX10_tell_48 gm_1 (by decide) tn_4 ?_
    obtain ⟨rfl, rfl⟩ := aw_so h
    exact x_iret (pc := 49) dX10_tell_49
  · have h := aw_pos h c_1
    refine x_aload_n (pc := 11) 0 dX10_tell_11 rfl rfl ?_
    refine x_ldc (pc := 12) dX10_tell_12 wk_X10_57 ?_
    refine x_callV (pc := 14) (As := [.int (-1000000004)]) (rest := []) (st' := [.int r]) (w := (some (.int r))) dX10_tell_14 cw_X10_49 hd1 gm_0 rfl rfl rfl (Nat.le_of_ble_eq_true rfl) (tm_errs (d - 1) hh_0 (-1000000004) _ _ _ h) rfl ?_
    exact x_iret (pc := 17) dX10_tell_17
def fm_check_J53 (K30 : Int32 → Int32 → Int32 → aw_M → Option (Int32 × aw_M)) (p1 : Int32) (p2 : Int32) (p100 : Int32) (M : aw_M) : Option (Int32 × aw_M) :=
    if p100 = 0 then (
      if p100 = 0 then (
        K30 p1 (p2 + 0) p100 M
      ) else (
        K30 p1 (p2 + 1) p100 M
      )
    ) else (
      aw_bi (fm_yard 0 M) fun r_15 M_16 => (
      if r_15 < 0 then (
        if (0 : Int32) = 0 then (
          K30 p1 (p2 + 0) 0 M_16
        ) else (
          K30 p1 (p2 + 1) 0 M_16
        )
      ) else (
        aw_bi (fm_shows 0 M_16) fun r_20 M_21 => (
        if aw_in (93 + p2) 213 then none else (
        if r_20 = (M_21 1 (93 + p2).toNatClampNeg) then (
          if (1 : Int32) = 0 then (
            K30 p1 (p2 + 0) 1 M_21
          ) else (
            K30 p1 (p2 + 1) 1 M_21
          )
        ) else (
          if (0 : Int32) = 0 then (
            K30 p1 (p2 + 0) 0 M_21
          ) else (
            K30 p1 (p2 + 1) 0 M_21
          )
        )
        )
        )
      )
      )
    )
set_option maxRecDepth 20000 in
theorem tm_check_J53 {l : Launch} {D : va_G} {cy : Nat → ClassId} {ad : Nat → Nat} {A : Nat → Prop} (d : Nat) (hd : 108 ≤ d) (K30 : Int32 → Int32 → Int32 → aw_M → Option (Int32 × aw_M)) (hK30 : ∀ (p1 : Int32) (p2 : Int32) (p3 : Int32) (M : aw_M) (r : Int32) (M1 : aw_M), K30  p1 p2 p3 M = some (r, M1) → AW l D cy ad A gm_G RX10 cX10_check 4 (some .int) d (some (.int r)) M1 30 [(0, .ref (ad 0)), (1, .int p1), (2, .int p2), (3, .int p3)] [] M) (p1 : Int32) (p2 : Int32) (p100 : Int32) (M : aw_M) (r : Int32) (M1 : aw_M) (h : fm_check_J53 K30 p1 p2 p100 M = some (r, M1)) : AW l D cy ad A gm_G RX10 cX10_check 4 (some .int) d (some (.int r)) M1 53 [(0, .ref (ad 0)), (1, .int p1), (2, .int p2)] [.int p100] M := by
  have hd1 : (d - 1) + 1 ≤ d := by omega
  have hm1 : 1 ≤ d := by omega
  have hh_0 : 0 ≤ d - 1 := by omega
  have hh_106 : 106 ≤ d - 1 := by omega
  have hh_107 : 107 ≤ d - 1 := by omega
  unfold fm_check_J53 at h
  refine x_istore_n (pc := 53) 3 [(3, .int p100), (0, .ref (ad 0)), (1, .int p1), (2, .int p2)] dX10_check_53 rfl (by decide) rfl ?_
  refine x_iload_n (pc := 54) 3 dX10_check_54 rfl rfl ?_
  refine x_if_eq (pc := 55) 89 dX10_check_55 (by decide) (fun c_12 => ?_) (fun c_12 => ?_)
  · have h := aw_pos h c_12
    refine x_iload_n (pc := 89) 2 dX10_check_89 rfl rfl ?_
    refine x_iload_n (pc := 90) 3 dX10_check_90 rfl rfl ?_
    refine x_if_eq (pc := 91) 98 dX10_check_91 (by decide) (fun c_13 => ?_) (fun c_13 => ?_)
    · have h := aw_pos h c_13
      refine x_iconst (pc := 98) (w := 0) dX10_check_98 ic_0 ?_
      refine x_iadd (pc := 99) dX10_check_99 ?_
      refine x_istore_n (pc := 100) 2 [(2, .int (p2 + 0)), (3, .int p100), (0, .ref (ad 0)), (1, .int p1)] dX10_check_100 rfl (by decide) rfl ?_
      refine x_goto (pc := 101) 30 dX10_check_101 (by decide) ?_
      refine x_lv [2, 3, 0, 1] [(0, .ref (ad 0)), (1, .int p1), (2, .int (p2 + 0)), (3, .int p100)] rfl ?_
      exact hK30 p1 (p2 + 0) p100 _ _ _ h
    · have h := aw_neg h c_13
      refine x_iconst (pc := 94) (w := 1) dX10_check_94 ic_1 ?_
      refine x_goto (pc := 95) 99 dX10_check_95 (by decide) ?_
      refine x_iadd (pc := 99) dX10_check_99 ?_
      refine x_istore_n (pc := 100) 2 [(2, .int (p2 + 1)), (3, .int p100), (0, .ref (ad 0)), (1, .int p1)] dX10_check_100 rfl (by decide) rfl ?_
      refine x_goto (pc := 101) 30 dX10_check_101 (by decide) ?_
      refine x_lv [2, 3, 0, 1] [(0, .ref (ad 0)), (1, .int p1), (2, .int (p2 + 1)), (3, .int p100)] rfl ?_
      exact hK30 p1 (p2 + 1) p100 _ _ _ h
  · have h := aw_neg h c_12
    refine x_aload_n (pc := 58) 0 dX10_check_58 rfl rfl ?_
    refine x_iconst (pc := 59) (w := 0) dX10_check_59 ic_0 ?_
    obtain ⟨r_15, M_16, e_14, h⟩ := aw_bi_e h
    refine x_callV (pc := 60) (As := [.int 0]) (rest := []) (st' := [.int r_15]) (w := (some (.int r_15))) dX10_check_60 cw_X10_165 hd1 gm_0 rfl rfl rfl (Nat.le_of_ble_eq_true rfl) (tm_yard (d - 1) hh_107 0 _ _ _ e_14) rfl ?_
    refine x_if_lt (pc := 63) 87 dX10_check_63 (by decide) (fun c_17 => ?_) (fun c_17 => ?_)
    · have h := aw_pos h c_17
      refine x_iconst (pc := 87) (w := 0) dX10_check_87 ic_0 ?_
      refine x_istore_n (pc := 88) 3 [(3, .int 0), (0, .ref (ad 0)), (1, .int p1), (2, .int p2)] dX10_check_88 rfl (by decide) rfl ?_
      refine x_iload_n (pc := 89) 2 dX10_check_89 rfl rfl ?_
      refine x_iload_n (pc := 90) 3 dX10_check_90 rfl rfl ?_
      refine x_if_eq (pc := 91) 98 dX10_check_91 (by decide) (fun c_18 => ?_) (fun c_18 => ?_)
      · have h := aw_pos h c_18
        refine x_iconst (pc := 98) (w := 0) dX10_check_98 ic_0 ?_
        refine x_iadd (pc := 99) dX10_check_99 ?_
        refine x_istore_n (pc := 100) 2 [(2, .int (p2 + 0)), (3, .int 0), (0, .ref (ad 0)), (1, .int p1)] dX10_check_100 rfl (by decide) rfl ?_
        refine x_goto (pc := 101) 30 dX10_check_101 (by decide) ?_
        refine x_lv [2, 3, 0, 1] [(0, .ref (ad 0)), (1, .int p1), (2, .int (p2 + 0)), (3, .int 0)] rfl ?_
        exact hK30 p1 (p2 + 0) 0 _ _ _ h
      · have h := aw_neg h c_18
        refine x_iconst (pc := 94) (w := 1) dX10_check_94 ic_1 ?_
        refine x_goto (pc := 95) 99 dX10_check_95 (by decide) ?_
        refine x_iadd (pc := 99) dX10_check_99 ?_
        refine x_istore_n (pc := 100) 2 [(2, .int (p2 + 1)), (3, .int 0), (0, .ref (ad 0)), (1, .int p1)] dX10_check_100 rfl (by decide) rfl ?_
        refine x_goto (pc := 101) 30 dX10_check_101 (by decide) ?_
        refine x_lv [2, 3, 0, 1] [(0, .ref (ad 0)), (1, .int p1), (2, .int (p2 + 1)), (3, .int 0)] rfl ?_
        exact hK30 p1 (p2 + 1) 0 _ _ _ h
    · have h := aw_neg h c_17
      refine x_aload_n (pc := 66) 0 dX10_check_66 rfl rfl ?_
      refine x_iconst (pc := 67) (w := 0) dX10_check_67 ic_0 ?_
      obtain ⟨r_20, M_21, e_19, h⟩ := aw_bi_e h
      refine x_callV (pc := 68) (As := [.int 0]) (rest := []) (st' := [.int r_20]) (w := (some (.int r_20))) dX10_check_68 cw_X10_75 hd1 gm_0 rfl rfl rfl (Nat.le_of_ble_eq_true rfl) (tm_shows (d - 1) hh_106 0 _ _ _ e_19) rfl ?_
      refine x_aload_n (pc := 71) 0 dX10_check_71 rfl rfl ?_
      refine x_get (pc := 72) dX10_check_72 lk_X10_7 gm_0 rfl rfl ?_
      refine x_bipush (pc := 75) (w := 93) dX10_check_75 bi_93 ?_
      refine x_iload_n (pc := 77) 2 dX10_check_77 rfl rfl ?_
      refine x_iadd (pc := 78) dX10_check_78 ?_
      obtain ⟨c_22, h⟩ := aw_ck h
      refine x_iald (pc := 79) dX10_check_79 gm_1 c_22 ?_
      refine x_icmp_ne (pc := 80) 87 dX10_check_80 (by decide) (fun c_23 => ?_) (fun c_23 => ?_)
      · have h := aw_neg h c_23
        refine x_iconst (pc := 87) (w := 0) dX10_check_87 ic_0 ?_
        refine x_istore_n (pc := 88) 3 [(3, .int 0), (0, .ref (ad 0)), (1, .int p1), (2, .int p2)] dX10_check_88 rfl (by decide) rfl ?_
        refine x_iload_n (pc := 89) 2 dX10_check_89 rfl rfl ?_
        refine x_iload_n (pc := 90) 3 dX10_check_90 rfl rfl ?_
        refine x_if_eq (pc := 91) 98 dX10_check_91 (by decide) (fun c_24 => ?_) (fun c_24 => ?_)
        · have h := aw_pos h c_24
          refine x_iconst (pc := 98) (w := 0) dX10_check_98 ic_0 ?_
          refine x_iadd (pc := 99) dX10_check_99 ?_
          refine x_istore_n (pc := 100) 2 [(2, .int (p2 + 0)), (3, .int 0), (0, .ref (ad 0)), (1, .int p1)] dX10_check_100 rfl (by decide) rfl ?_
          refine x_goto (pc := 101) 30 dX10_check_101 (by decide) ?_
          refine x_lv [2, 3, 0, 1] [(0, .ref (ad 0)), (1, .int p1), (2, .int (p2 + 0)), (3, .int 0)] rfl ?_
          exact hK30 p1 (p2 + 0) 0 _ _ _ h
        · have h := aw_neg h c_24
          refine x_iconst (pc := 94) (w := 1) dX10_check_94 ic_1 ?_
          refine x_goto (pc := 95) 99 dX10_check_95 (by decide) ?_
          refine x_iadd (pc := 99) dX10_check_99 ?_
          refine x_istore_n (pc := 100) 2 [(2, .int (p2 + 1)), (3, .int 0), (0, .ref (ad 0)), (1, .int p1)] dX10_check_100 rfl (by decide) rfl ?_
          refine x_goto (pc := 101) 30 dX10_check_101 (by decide) ?_
          refine x_lv [2, 3, 0, 1] [(0, .ref (ad 0)), (1, .int p1), (2, .int (p2 + 1)), (3, .int 0)] rfl ?_
          exact hK30 p1 (p2 + 1) 0 _ _ _ h
      · have h := aw_pos h c_23
        refine x_iconst (pc := 83) (w := 1) dX10_check_83 ic_1 ?_
        refine x_goto (pc := 84) 88 dX10_check_84 (by decide) ?_
        refine x_istore_n (pc := 88) 3 [(3, .int 1), (0, .ref (ad 0)), (1, .int p1), (2, .int p2)] dX10_check_88 rfl (by decide) rfl ?_
        refine x_iload_n (pc := 89) 2 dX10_check_89 rfl rfl ?_
        refine x_iload_n (pc := 90) 3 dX10_check_90 rfl rfl ?_
        refine x_if_eq (pc := 91) 98 dX10_check_91 (by decide) (fun c_25 => ?_) (fun c_25 => ?_)
        · have h := aw_pos h c_25
          refine x_iconst (pc := 98) (w := 0) dX10_check_98 ic_0 ?_
          refine x_iadd (pc := 99) dX10_check_99 ?_
          refine x_istore_n (pc := 100) 2 [(2, .int (p2 + 0)), (3, .int 1), (0, .ref (ad 0)), (1, .int p1)] dX10_check_100 rfl (by decide) rfl ?_
          refine x_goto (pc := 101) 30 dX10_check_101 (by decide) ?_
          refine x_lv [2, 3, 0, 1] [(0, .ref (ad 0)), (1, .int p1), (2, .int (p2 + 0)), (3, .int 1)] rfl ?_
          exact hK30 p1 (p2 + 0) 1 _ _ _ h
        · have h := aw_neg h c_25
          refine x_iconst (pc := 94) (w := 1) dX10_check_94 ic_1 ?_
          refine x_goto (pc := 95) 99 dX10_check_95 (by decide) ?_
          refine x_iadd (pc := 99) dX10_check_99 ?_
          refine x_istore_n (pc := 100) 2 [(2, .int (p2 + 1)), (3, .int 1), (0, .ref (ad 0)), (1, .int p1)] dX10_check_100 rfl (by decide) rfl ?_
          refine x_goto (pc := 101) 30 dX10_check_101 (by decide) ?_
          refine x_lv [2, 3, 0, 1] [(0, .ref (ad 0)), (1, .int p1), (2, .int (p2 + 1)), (3, .int 1)] rfl ?_
          exact hK30 p1 (p2 + 1) 1 _ _ _ h
def fm_check_L30 : Nat → Int32 → Int32 → Int32 → aw_M → Option (Int32 × aw_M)
  | 0, _, _, _, _ => none
  | n + 1, p1, p2, p3, M =>
    if p1 ≤ p2 then (
      aw_bv (fm_moveAll 3 1 M) fun M_5 => (
      if p3 = 0 then (
        some ((1 + p2), M_5)
      ) else (
        some (0, M_5)
      )
      )
    ) else (
      if p3 = 0 then (
        aw_bv (fm_moveAll 3 1 M) fun M_9 => (
        if p3 = 0 then (
          some ((1 + p2), M_9)
        ) else (
          some (0, M_9)
        )
        )
      ) else (
        if (M 1 2) ≤ 0 then (
          fm_check_J53 (fm_check_L30 n) p1 p2 0 M
        ) else (
          fm_check_J53 (fm_check_L30 n) p1 p2 1 M
        )
      )
    )
theorem fm_check_L30_s (n : Nat) (p1 : Int32) (p2 : Int32) (p3 : Int32) (M : aw_M) : fm_check_L30 (n + 1) p1 p2 p3 M = (
    if p1 ≤ p2 then (
      aw_bv (fm_moveAll 3 1 M) fun M_5 => (
      if p3 = 0 then (
        some ((1 + p2), M_5)
      ) else (
        some (0, M_5)
      )
      )
    ) else (
      if p3 = 0 then (
        aw_bv (fm_moveAll 3 1 M) fun M_9 => (
        if p3 = 0 then (
          some ((1 + p2), M_9)
        ) else (
          some (0, M_9)
        )
        )
      ) else (
        if (M 1 2) ≤ 0 then (
          fm_check_J53 (fm_check_L30 n) p1 p2 0 M
        ) else (
          fm_check_J53 (fm_check_L30 n) p1 p2 1 M
        )
      )
    )
    ) := rfl
set_option maxRecDepth 20000 in
theorem tm_check_L30 {l : Launch} {D : va_G} {cy : Nat → ClassId} {ad : Nat → Nat} {A : Nat → Prop} (d : Nat) (hd : 108 ≤ d) : ∀ (n : Nat) (p1 : Int32) (p2 : Int32) (p3 : Int32) (M : aw_M) (r : Int32) (M1 : aw_M), fm_check_L30 n p1 p2 p3 M = some (r, M1) → AW l D cy ad A gm_G RX10 cX10_check 4 (some .int) d (some (.int r)) M1 30 [(0, .ref (ad 0)), (1, .int p1), (2, .int p2), (3, .int p3)] [] M := by
  have hd1 : (d - 1) + 1 ≤ d := by omega
  have hm1 : 1 ≤ d := by omega
  have hh_0 : 0 ≤ d - 1 := by omega
  have hh_106 : 106 ≤ d - 1 := by omega
  have hh_107 : 107 ≤ d - 1 := by omega
  intro n
  induction n with
  | zero => intro p1 p2 p3 M r M1 h; cases h
  | succ n ih =>
    intro p1 p2 p3 M r M1 h
    rw [fm_check_L30_s] at h
    refine x_iload_n (pc := 30) 2 dX10_check_30 rfl rfl ?_
    refine x_iload_n (pc := 31) 1 dX10_check_31 rfl rfl ?_
    refine x_icmp_ge (pc := 32) 104 dX10_check_32 (by decide) (fun c_3 => ?_) (fun c_3 => ?_)
    · have h := aw_pos h c_3
      refine x_aload_n (pc := 104) 0 dX10_check_104 rfl rfl ?_
      refine x_aload_n (pc := 105) 0 dX10_check_105 rfl rfl ?_
      refine x_get (pc := 106) dX10_check_106 lk_X10_16 gm_0 rfl rfl ?_
      refine x_aload_n (pc := 109) 0 dX10_check_109 rfl rfl ?_
      refine x_get (pc := 110) dX10_check_110 lk_X10_7 gm_0 rfl rfl ?_
      obtain ⟨M_5, e_4, h⟩ := aw_bv_e h
      refine x_callV (pc := 113) (As := [.ref (ad 3), .ref (ad 1)]) (rest := []) (st' := []) (w := none) dX10_check_113 cw_X10_158 hd1 gm_0 rfl rfl rfl (Nat.le_of_ble_eq_true rfl) (tm_moveAll (d - 1) hh_0 3 gm_3 1 gm_1 _  _ e_4) rfl ?_
      refine x_iload_n (pc := 116) 3 dX10_check_116 rfl rfl ?_
      refine x_if_eq (pc := 117) 124 dX10_check_117 (by decide) (fun c_6 => ?_) (fun c_6 => ?_)
      · have h := aw_pos h c_6
        refine x_iconst (pc := 124) (w := 1) dX10_check_124 ic_1 ?_
        refine x_iload_n (pc := 125) 2 dX10_check_125 rfl rfl ?_
        refine x_iadd (pc := 126) dX10_check_126 ?_
        obtain ⟨rfl, rfl⟩ := aw_so h
        exact x_iret (pc := 127) dX10_check_127
      · have h := aw_neg h c_6
        refine x_iconst (pc := 120) (w := 0) dX10_check_120 ic_0 ?_
        refine x_goto (pc := 121) 127 dX10_check_121 (by decide) ?_
        obtain ⟨rfl, rfl⟩ := aw_so h
        exact x_iret (pc := 127) dX10_check_127
    · have h := aw_neg h c_3
      refine x_iload_n (pc := 35) 3 dX10_check_35 rfl rfl ?_
      refine x_if_eq (pc := 36) 104 dX10_check_36 (by decide) (fun c_7 => ?_) (fun c_7 => ?_)
      · have h := aw_pos h c_7
        refine x_aload_n (pc := 104) 0 dX10_check_104 rfl rfl ?_
        refine x_aload_n (pc := 105) 0 dX10_check_105 rfl rfl ?_
        refine x_get (pc := 106) dX10_check_106 lk_X10_16 gm_0 rfl rfl ?_
        refine x_aload_n (pc := 109) 0 dX10_check_109 rfl rfl ?_
        refine x_get (pc := 110) dX10_check_110 lk_X10_7 gm_0 rfl rfl ?_
        obtain ⟨M_9, e_8, h⟩ := aw_bv_e h
        refine x_callV (pc := 113) (As := [.ref (ad 3), .ref (ad 1)]) (rest := []) (st' := []) (w := none) dX10_check_113 cw_X10_158 hd1 gm_0 rfl rfl rfl (Nat.le_of_ble_eq_true rfl) (tm_moveAll (d - 1) hh_0 3 gm_3 1 gm_1 _  _ e_8) rfl ?_
        refine x_iload_n (pc := 116) 3 dX10_check_116 rfl rfl ?_
        refine x_if_eq (pc := 117) 124 dX10_check_117 (by decide) (fun c_10 => ?_) (fun c_10 => ?_)
        · have h := aw_pos h c_10
          refine x_iconst (pc := 124) (w := 1) dX10_check_124 ic_1 ?_
          refine x_iload_n (pc := 125) 2 dX10_check_125 rfl rfl ?_
          refine x_iadd (pc := 126) dX10_check_126 ?_
          obtain ⟨rfl, rfl⟩ := aw_so h
          exact x_iret (pc := 127) dX10_check_127
        · have h := aw_neg h c_10
          refine x_iconst (pc := 120) (w := 0) dX10_check_120 ic_0 ?_
          refine x_goto (pc := 121) 127 dX10_check_121 (by decide) ?_
          obtain ⟨rfl, rfl⟩ := aw_so h
          exact x_iret (pc := 127) dX10_check_127
      · have h := aw_neg h c_7
        refine x_aload_n (pc := 39) 0 dX10_check_39 rfl rfl ?_
        refine x_get (pc := 40) dX10_check_40 lk_X10_7 gm_0 rfl rfl ?_
        refine x_iconst (pc := 43) (w := 2) dX10_check_43 ic_2 ?_
        refine x_ialdJ (pc := 44) 2 dX10_check_44 gm_1 (by decide) tn_2 ?_
        refine x_if_le (pc := 45) 52 dX10_check_45 (by decide) (fun c_11 => ?_) (fun c_11 => ?_)
        · have h := aw_pos h c_11
          refine x_iconst (pc := 52) (w := 0) dX10_check_52 ic_0 ?_
          refine x_lv [0, 1, 2] [(0, .ref (ad 0)), (1, .int p1), (2, .int p2)] rfl ?_
          exact tm_check_J53 d hd _ ih p1 p2 0 _ _ _ h
        · have h := aw_neg h c_11
          refine x_iconst (pc := 48) (w := 1) dX10_check_48 ic_1 ?_
          refine x_goto (pc := 49) 53 dX10_check_49 (by decide) ?_
          refine x_lv [0, 1, 2] [(0, .ref (ad 0)), (1, .int p1), (2, .int p2)] rfl ?_
          exact tm_check_J53 d hd _ ih p1 p2 1 _ _ _ h
def fm_check  (M : aw_M) : Option (Int32 × aw_M) :=
  aw_bv (fm_moveAll 1 3 (aw_u M 1 4 0)) fun M_2 => (
  fm_check_L30  2000 (M 1 4) 0 1 M_2
  )
set_option maxRecDepth 20000 in
theorem tm_check {l : Launch} {D : va_G} {cy : Nat → ClassId} {ad : Nat → Nat} {A : Nat → Prop} (d : Nat) (hd : 108 ≤ d)  (M : aw_M) (r : Int32) (M1 : aw_M) (h : fm_check  M = some (r, M1)) : AX l D cy ad A gm_G yX10_check cX10_check 4 (some .int) d [.ref (ad 0)] M (some (.int r)) M1 := by
  have hd1 : (d - 1) + 1 ≤ d := by omega
  have hm1 : 1 ≤ d := by omega
  have hh_0 : 0 ≤ d - 1 := by omega
  have hh_106 : 106 ≤ d - 1 := by omega
  have hh_107 : 107 ≤ d - 1 := by omega
  refine AX.of (own := RX10) (by decide +kernel) rfl (Nat.le_of_ble_eq_true rfl) ?_
  unfold fm_check at h
  show AW l D cy ad A gm_G RX10 cX10_check 4 (some .int) d (some (.int r)) M1 0 [(0, .ref (ad 0))] [] M
  refine x_aload_n (pc := 0) 0 dX10_check_0 rfl rfl ?_
  refine x_get (pc := 1) dX10_check_1 lk_X10_7 gm_0 rfl rfl ?_
  refine x_iconst (pc := 4) (w := 4) dX10_check_4 ic_4 ?_
  refine x_ialdJ (pc := 5) 4 dX10_check_5 gm_1 (by decide) tn_4 ?_
  refine x_istore_n (pc := 6) 1 [(1, .int (M 1 4)), (0, .ref (ad 0))] dX10_check_6 rfl (by decide) rfl ?_
  refine x_aload_n (pc := 7) 0 dX10_check_7 rfl rfl ?_
  refine x_get (pc := 8) dX10_check_8 lk_X10_7 gm_0 rfl rfl ?_
  refine x_iconst (pc := 11) (w := 4) dX10_check_11 ic_4 ?_
  refine x_iconst (pc := 12) (w := 0) dX10_check_12 ic_0 ?_
  refine x_iastJ (pc := 13) 4 dX10_check_13 gm_1 (by decide) tn_4 ?_
  refine x_aload_n (pc := 14) 0 dX10_check_14 rfl rfl ?_
  refine x_aload_n (pc := 15) 0 dX10_check_15 rfl rfl ?_
  refine x_get (pc := 16) dX10_check_16 lk_X10_7 gm_0 rfl rfl ?_
  refine x_aload_n (pc := 19) 0 dX10_check_19 rfl rfl ?_
  refine x_get (pc := 20) dX10_check_20 lk_X10_16 gm_0 rfl rfl ?_
  obtain ⟨M_2, e_1, h⟩ := aw_bv_e h
  refine x_callV (pc := 23) (As := [.ref (ad 1), .ref (ad 3)]) (rest := []) (st' := []) (w := none) dX10_check_23 cw_X10_158 hd1 gm_0 rfl rfl rfl (Nat.le_of_ble_eq_true rfl) (tm_moveAll (d - 1) hh_0 1 gm_1 3 gm_3 _  _ e_1) rfl ?_
  refine x_iconst (pc := 26) (w := 0) dX10_check_26 ic_0 ?_
  refine x_istore_n (pc := 27) 2 [(2, .int 0), (1, .int (M 1 4)), (0, .ref (ad 0))] dX10_check_27 rfl (by decide) rfl ?_
  refine x_iconst (pc := 28) (w := 1) dX10_check_28 ic_1 ?_
  refine x_istore_n (pc := 29) 3 [(3, .int 1), (2, .int 0), (1, .int (M 1 4)), (0, .ref (ad 0))] dX10_check_29 rfl (by decide) rfl ?_
  refine x_lv [3, 2, 1, 0] [(0, .ref (ad 0)), (1, .int (M 1 4)), (2, .int 0), (3, .int 1)] rfl ?_
  exact tm_check_L30 d hd  2000 (M 1 4) 0 1 _ _ _ h
