def fc_La_value_J115 (K6 : Nat → Int32 → Int32 → Int32 → Int32 → Int32 → aw_M → Option (Int32 × aw_M)) (i0 : Nat) (p1 : Int32) (p2 : Int32) (p3 : Int32) (p4 : Int32) (p5 : Int32) (p6 : Int32) (M : aw_M) : Option (Int32 × aw_M) :=
    if p6 < (-3) then (
      K6 i0 p1 p2 p3 p4 (p5 + 1) M
    ) else (
      if (50 : Int32) ≤ p4 then (
        K6 i0 p1 p2 p3 p4 (p5 + 1) M
      ) else (
        if p6 < 0 then (
          if p6 = (-1) then (
            if aw_in p4 50 then none else (
            K6 i0 p1 p2 p3 (p4 + 1) (p5 + 1) (aw_u M (34 + i0) p4.toNatClampNeg p1)
            )
          ) else (
            if p6 = (-2) then (
              if aw_in p4 50 then none else (
              K6 i0 p1 p2 p3 (p4 + 1) (p5 + 1) (aw_u M (34 + i0) p4.toNatClampNeg p2)
              )
            ) else (
              if aw_in p4 50 then none else (
              K6 i0 p1 p2 p3 (p4 + 1) (p5 + 1) (aw_u M (34 + i0) p4.toNatClampNeg p3)
              )
            )
          )
        ) else (
          if aw_in p4 50 then none else (
          K6 i0 p1 p2 p3 (p4 + 1) (p5 + 1) (aw_u M (34 + i0) p4.toNatClampNeg p6)
          )
        )
      )
    )
set_option maxRecDepth 20000 in
theorem tc_La_value_J115 {l : Launch} {D : va_G} {cy : Nat → ClassId} {ad : Nat → Nat} {A : Nat → Prop} (d : Nat) (hd : 1 ≤ d) (K6 : Nat → Int32 → Int32 → Int32 → Int32 → Int32 → aw_M → Option (Int32 × aw_M)) (hK6 : ∀ (i0 : Nat) (h0 : i0 < 4) (p1 : Int32) (p2 : Int32) (p3 : Int32) (p4 : Int32) (p5 : Int32) (M : aw_M) (r : Int32) (M1 : aw_M), K6 i0 p1 p2 p3 p4 p5 M = some (r, M1) → AW l D cy ad A gc_G RX3 cX3_value 7 (some .int) d (some (.int r)) M1 6 [(0, .ref (ad (26 + i0))), (1, .int p1), (2, .int p2), (3, .int p3), (4, .int p4), (5, .int p5)] [] M) (i0 : Nat) (h0 : i0 < 4) (p1 : Int32) (p2 : Int32) (p3 : Int32) (p4 : Int32) (p5 : Int32) (p6 : Int32) (M : aw_M) (r : Int32) (M1 : aw_M) (h : fc_La_value_J115 K6 i0 p1 p2 p3 p4 p5 p6 M = some (r, M1)) : AW l D cy ad A gc_G RX3 cX3_value 7 (some .int) d (some (.int r)) M1 115 [(0, .ref (ad (26 + i0))), (1, .int p1), (2, .int p2), (3, .int p3), (4, .int p4), (5, .int p5), (6, .int p6)] [] M := by
  have hd1 : (d - 1) + 1 ≤ d := by omega
  have hm1 : 1 ≤ d := by omega
  have hh_0 : 0 ≤ d - 1 := by omega
  unfold fc_La_value_J115 at h
  refine x_iload (pc := 115) dX3_value_115 rfl ?_
  refine x_bipush (pc := 117) (w := (-3)) dX3_value_117 bi_m3 ?_
  refine x_icmp_lt (pc := 119) 171 dX3_value_119 (by decide) (fun c_17 => ?_) (fun c_17 => ?_)
  · have h := aw_pos h c_17
    refine x_iinc (pc := 171) (p5 + 1) [(5, .int (p5 + 1)), (0, .ref (ad (26 + i0))), (1, .int p1), (2, .int p2), (3, .int p3), (4, .int p4), (6, .int p6)] dX3_value_171 rfl (congrArg (fun z => p5 + z) ic_1) (by decide) rfl ?_
    refine x_goto (pc := 174) 6 dX3_value_174 (by decide) ?_
    refine x_lv [1, 2, 3, 4, 5, 0] [(0, .ref (ad (26 + i0))), (1, .int p1), (2, .int p2), (3, .int p3), (4, .int p4), (5, .int (p5 + 1))] rfl ?_
    exact hK6 i0 h0 p1 p2 p3 p4 (p5 + 1) _ _ _ h
  · have h := aw_neg h c_17
    refine x_iload (pc := 122) dX3_value_122 rfl ?_
    refine x_bipush (pc := 124) (w := 50) dX3_value_124 bi_50 ?_
    refine x_icmp_ge (pc := 126) 171 dX3_value_126 (by decide) (fun c_18 => ?_) (fun c_18 => ?_)
    · have h := aw_pos h c_18
      refine x_iinc (pc := 171) (p5 + 1) [(5, .int (p5 + 1)), (0, .ref (ad (26 + i0))), (1, .int p1), (2, .int p2), (3, .int p3), (4, .int p4), (6, .int p6)] dX3_value_171 rfl (congrArg (fun z => p5 + z) ic_1) (by decide) rfl ?_
      refine x_goto (pc := 174) 6 dX3_value_174 (by decide) ?_
      refine x_lv [1, 2, 3, 4, 5, 0] [(0, .ref (ad (26 + i0))), (1, .int p1), (2, .int p2), (3, .int p3), (4, .int p4), (5, .int (p5 + 1))] rfl ?_
      exact hK6 i0 h0 p1 p2 p3 p4 (p5 + 1) _ _ _ h
    · have h := aw_neg h c_18
      refine x_aload_n (pc := 129) 0 dX3_value_129 rfl rfl ?_
      refine x_get (pc := 130) dX3_value_130 lk_X3_15 (gc_law (i := i0) h0) rfl rfl ?_
      refine x_iload (pc := 133) dX3_value_133 rfl ?_
      refine x_iload (pc := 135) dX3_value_135 rfl ?_
      refine x_if_lt (pc := 137) 145 dX3_value_137 (by decide) (fun c_19 => ?_) (fun c_19 => ?_)
      · have h := aw_pos h c_19
        refine x_iload (pc := 145) dX3_value_145 rfl ?_
        refine x_iconst (pc := 147) (w := (-1)) dX3_value_147 ic_m1 ?_
        refine x_icmp_ne (pc := 148) 155 dX3_value_148 (by decide) (fun c_20 => ?_) (fun c_20 => ?_)
        · have h := aw_neg h c_20
          refine x_iload (pc := 155) dX3_value_155 rfl ?_
          refine x_bipush (pc := 157) (w := (-2)) dX3_value_157 bi_m2 ?_
          refine x_icmp_ne (pc := 159) 166 dX3_value_159 (by decide) (fun c_21 => ?_) (fun c_21 => ?_)
          · have h := aw_neg h c_21
            refine x_iload_n (pc := 166) 3 dX3_value_166 rfl rfl ?_
            obtain ⟨c_22, h⟩ := aw_ck h
            refine x_iast (pc := 167) dX3_value_167 (gc_lstack (i := i0) h0) c_22 ?_
            refine x_iinc (pc := 168) (p4 + 1) [(4, .int (p4 + 1)), (0, .ref (ad (26 + i0))), (1, .int p1), (2, .int p2), (3, .int p3), (5, .int p5), (6, .int p6)] dX3_value_168 rfl (congrArg (fun z => p4 + z) ic_1) (by decide) rfl ?_
            refine x_iinc (pc := 171) (p5 + 1) [(5, .int (p5 + 1)), (4, .int (p4 + 1)), (0, .ref (ad (26 + i0))), (1, .int p1), (2, .int p2), (3, .int p3), (6, .int p6)] dX3_value_171 rfl (congrArg (fun z => p5 + z) ic_1) (by decide) rfl ?_
            refine x_goto (pc := 174) 6 dX3_value_174 (by decide) ?_
            refine x_lv [2, 3, 4, 5, 1, 0] [(0, .ref (ad (26 + i0))), (1, .int p1), (2, .int p2), (3, .int p3), (4, .int (p4 + 1)), (5, .int (p5 + 1))] rfl ?_
            exact hK6 i0 h0 p1 p2 p3 (p4 + 1) (p5 + 1) _ _ _ h
          · have h := aw_pos h c_21
            refine x_iload_n (pc := 162) 2 dX3_value_162 rfl rfl ?_
            refine x_goto (pc := 163) 167 dX3_value_163 (by decide) ?_
            obtain ⟨c_23, h⟩ := aw_ck h
            refine x_iast (pc := 167) dX3_value_167 (gc_lstack (i := i0) h0) c_23 ?_
            refine x_iinc (pc := 168) (p4 + 1) [(4, .int (p4 + 1)), (0, .ref (ad (26 + i0))), (1, .int p1), (2, .int p2), (3, .int p3), (5, .int p5), (6, .int p6)] dX3_value_168 rfl (congrArg (fun z => p4 + z) ic_1) (by decide) rfl ?_
            refine x_iinc (pc := 171) (p5 + 1) [(5, .int (p5 + 1)), (4, .int (p4 + 1)), (0, .ref (ad (26 + i0))), (1, .int p1), (2, .int p2), (3, .int p3), (6, .int p6)] dX3_value_171 rfl (congrArg (fun z => p5 + z) ic_1) (by decide) rfl ?_
            refine x_goto (pc := 174) 6 dX3_value_174 (by decide) ?_
            refine x_lv [2, 3, 4, 5, 1, 0] [(0, .ref (ad (26 + i0))), (1, .int p1), (2, .int p2), (3, .int p3), (4, .int (p4 + 1)), (5, .int (p5 + 1))] rfl ?_
            exact hK6 i0 h0 p1 p2 p3 (p4 + 1) (p5 + 1) _ _ _ h
        · have h := aw_pos h c_20
          refine x_iload_n (pc := 151) 1 dX3_value_151 rfl rfl ?_
          refine x_goto (pc := 152) 167 dX3_value_152 (by decide) ?_
          obtain ⟨c_24, h⟩ := aw_ck h
          refine x_iast (pc := 167) dX3_value_167 (gc_lstack (i := i0) h0) c_24 ?_
          refine x_iinc (pc := 168) (p4 + 1) [(4, .int (p4 + 1)), (0, .ref (ad (26 + i0))), (1, .int p1), (2, .int p2), (3, .int p3), (5, .int p5), (6, .int p6)] dX3_value_168 rfl (congrArg (fun z => p4 + z) ic_1) (by decide) rfl ?_
          refine x_iinc (pc := 171) (p5 + 1) [(5, .int (p5 + 1)), (4, .int (p4 + 1)), (0, .ref (ad (26 + i0))), (1, .int p1), (2, .int p2), (3, .int p3), (6, .int p6)] dX3_value_171 rfl (congrArg (fun z => p5 + z) ic_1) (by decide) rfl ?_
          refine x_goto (pc := 174) 6 dX3_value_174 (by decide) ?_
          refine x_lv [2, 3, 4, 5, 1, 0] [(0, .ref (ad (26 + i0))), (1, .int p1), (2, .int p2), (3, .int p3), (4, .int (p4 + 1)), (5, .int (p5 + 1))] rfl ?_
          exact hK6 i0 h0 p1 p2 p3 (p4 + 1) (p5 + 1) _ _ _ h
      · have h := aw_neg h c_19
        refine x_iload (pc := 140) dX3_value_140 rfl ?_
        refine x_goto (pc := 142) 167 dX3_value_142 (by decide) ?_
        obtain ⟨c_25, h⟩ := aw_ck h
        refine x_iast (pc := 167) dX3_value_167 (gc_lstack (i := i0) h0) c_25 ?_
        refine x_iinc (pc := 168) (p4 + 1) [(4, .int (p4 + 1)), (0, .ref (ad (26 + i0))), (1, .int p1), (2, .int p2), (3, .int p3), (5, .int p5), (6, .int p6)] dX3_value_168 rfl (congrArg (fun z => p4 + z) ic_1) (by decide) rfl ?_
        refine x_iinc (pc := 171) (p5 + 1) [(5, .int (p5 + 1)), (4, .int (p4 + 1)), (0, .ref (ad (26 + i0))), (1, .int p1), (2, .int p2), (3, .int p3), (6, .int p6)] dX3_value_171 rfl (congrArg (fun z => p5 + z) ic_1) (by decide) rfl ?_
        refine x_goto (pc := 174) 6 dX3_value_174 (by decide) ?_
        refine x_lv [2, 3, 4, 5, 1, 0] [(0, .ref (ad (26 + i0))), (1, .int p1), (2, .int p2), (3, .int p3), (4, .int (p4 + 1)), (5, .int (p5 + 1))] rfl ?_
        exact hK6 i0 h0 p1 p2 p3 (p4 + 1) (p5 + 1) _ _ _ h
def fc_La_value_J65 (K6 : Nat → Int32 → Int32 → Int32 → Int32 → Int32 → aw_M → Option (Int32 × aw_M)) (i0 : Nat) (p1 : Int32) (p2 : Int32) (p3 : Int32) (p4 : Int32) (p5 : Int32) (p6 : Int32) (M : aw_M) : Option (Int32 × aw_M) :=
    if ((-3) : Int32) ≤ p6 then (
      fc_La_value_J115 K6 i0 p1 p2 p3 p4 p5 p6 M
    ) else (
      if p4 ≤ 1 then (
        fc_La_value_J115 K6 i0 p1 p2 p3 p4 p5 p6 M
      ) else (
        if aw_in ((p4 + (-1)) - 1) 50 then none else (
        if aw_in (p4 + (-1)) 50 then none else (
        aw_bi (fc_La_joined (-p6) (M (34 + i0) ((p4 + (-1)) - 1).toNatClampNeg) (M (34 + i0) (p4 + (-1)).toNatClampNeg) M) fun r_14 M_15 => (
        if aw_in ((p4 + (-1)) - 1) 50 then none else (
        K6 i0 p1 p2 p3 (p4 + (-1)) (p5 + 1) (aw_u M_15 (34 + i0) ((p4 + (-1)) - 1).toNatClampNeg r_14)
        )
        )
        )
        )
      )
    )
set_option maxRecDepth 20000 in
theorem tc_La_value_J65 {l : Launch} {D : va_G} {cy : Nat → ClassId} {ad : Nat → Nat} {A : Nat → Prop} (d : Nat) (hd : 1 ≤ d) (K6 : Nat → Int32 → Int32 → Int32 → Int32 → Int32 → aw_M → Option (Int32 × aw_M)) (hK6 : ∀ (i0 : Nat) (h0 : i0 < 4) (p1 : Int32) (p2 : Int32) (p3 : Int32) (p4 : Int32) (p5 : Int32) (M : aw_M) (r : Int32) (M1 : aw_M), K6 i0 p1 p2 p3 p4 p5 M = some (r, M1) → AW l D cy ad A gc_G RX3 cX3_value 7 (some .int) d (some (.int r)) M1 6 [(0, .ref (ad (26 + i0))), (1, .int p1), (2, .int p2), (3, .int p3), (4, .int p4), (5, .int p5)] [] M) (i0 : Nat) (h0 : i0 < 4) (p1 : Int32) (p2 : Int32) (p3 : Int32) (p4 : Int32) (p5 : Int32) (p6 : Int32) (M : aw_M) (r : Int32) (M1 : aw_M) (h : fc_La_value_J65 K6 i0 p1 p2 p3 p4 p5 p6 M = some (r, M1)) : AW l D cy ad A gc_G RX3 cX3_value 7 (some .int) d (some (.int r)) M1 65 [(0, .ref (ad (26 + i0))), (1, .int p1), (2, .int p2), (3, .int p3), (4, .int p4), (5, .int p5), (6, .int p6)] [] M := by
  have hd1 : (d - 1) + 1 ≤ d := by omega
  have hm1 : 1 ≤ d := by omega
  have hh_0 : 0 ≤ d - 1 := by omega
  unfold fc_La_value_J65 at h
  refine x_iload (pc := 65) dX3_value_65 rfl ?_
  refine x_bipush (pc := 67) (w := (-3)) dX3_value_67 bi_m3 ?_
  refine x_icmp_ge (pc := 69) 115 dX3_value_69 (by decide) (fun c_9 => ?_) (fun c_9 => ?_)
  · have h := aw_pos h c_9
    refine x_lv [0, 1, 2, 3, 4, 5, 6] [(0, .ref (ad (26 + i0))), (1, .int p1), (2, .int p2), (3, .int p3), (4, .int p4), (5, .int p5), (6, .int p6)] rfl ?_
    exact tc_La_value_J115 d hd K6 hK6 i0 h0 p1 p2 p3 p4 p5 p6 _ _ _ h
  · have h := aw_neg h c_9
    refine x_iload (pc := 72) dX3_value_72 rfl ?_
    refine x_iconst (pc := 74) (w := 1) dX3_value_74 ic_1 ?_
    refine x_icmp_le (pc := 75) 115 dX3_value_75 (by decide) (fun c_10 => ?_) (fun c_10 => ?_)
    · have h := aw_pos h c_10
      refine x_lv [0, 1, 2, 3, 4, 5, 6] [(0, .ref (ad (26 + i0))), (1, .int p1), (2, .int p2), (3, .int p3), (4, .int p4), (5, .int p5), (6, .int p6)] rfl ?_
      exact tc_La_value_J115 d hd K6 hK6 i0 h0 p1 p2 p3 p4 p5 p6 _ _ _ h
    · have h := aw_neg h c_10
      refine x_iinc (pc := 78) (p4 + (-1)) [(4, .int (p4 + (-1))), (0, .ref (ad (26 + i0))), (1, .int p1), (2, .int p2), (3, .int p3), (5, .int p5), (6, .int p6)] dX3_value_78 rfl (congrArg (fun z => p4 + z) ic_m1) (by decide) rfl ?_
      refine x_aload_n (pc := 81) 0 dX3_value_81 rfl rfl ?_
      refine x_get (pc := 82) dX3_value_82 lk_X3_15 (gc_law (i := i0) h0) rfl rfl ?_
      refine x_iload (pc := 85) dX3_value_85 rfl ?_
      refine x_iconst (pc := 87) (w := 1) dX3_value_87 ic_1 ?_
      refine x_isub (pc := 88) dX3_value_88 ?_
      refine x_iload (pc := 89) dX3_value_89 rfl ?_
      refine x_ineg (pc := 91) dX3_value_91 ?_
      refine x_aload_n (pc := 92) 0 dX3_value_92 rfl rfl ?_
      refine x_get (pc := 93) dX3_value_93 lk_X3_15 (gc_law (i := i0) h0) rfl rfl ?_
      refine x_iload (pc := 96) dX3_value_96 rfl ?_
      refine x_iconst (pc := 98) (w := 1) dX3_value_98 ic_1 ?_
      refine x_isub (pc := 99) dX3_value_99 ?_
      obtain ⟨c_11, h⟩ := aw_ck h
      refine x_iald (pc := 100) dX3_value_100 (gc_lstack (i := i0) h0) c_11 ?_
      refine x_aload_n (pc := 101) 0 dX3_value_101 rfl rfl ?_
      refine x_get (pc := 102) dX3_value_102 lk_X3_15 (gc_law (i := i0) h0) rfl rfl ?_
      refine x_iload (pc := 105) dX3_value_105 rfl ?_
      obtain ⟨c_12, h⟩ := aw_ck h
      refine x_iald (pc := 107) dX3_value_107 (gc_lstack (i := i0) h0) c_12 ?_
      obtain ⟨r_14, M_15, e_13, h⟩ := aw_bi_e h
      refine x_callS (pc := 108) (As := [.int (-p6), .int (M (34 + i0) ((p4 + (-1)) - 1).toNatClampNeg), .int (M (34 + i0) (p4 + (-1)).toNatClampNeg)]) (rest := [.int ((p4 + (-1)) - 1), .ref (ad (34 + i0))]) (st' := [.int r_14, .int ((p4 + (-1)) - 1), .ref (ad (34 + i0))]) (w := (some (.int r_14))) dX3_value_108 cw_X3_38 hd1 rfl rfl (Nat.le_of_ble_eq_true rfl) (tc_La_joined (d - 1) hh_0 (-p6) (M (34 + i0) ((p4 + (-1)) - 1).toNatClampNeg) (M (34 + i0) (p4 + (-1)).toNatClampNeg) _ _ _ e_13) rfl ?_
      obtain ⟨c_16, h⟩ := aw_ck h
      refine x_iast (pc := 111) dX3_value_111 (gc_lstack (i := i0) h0) c_16 ?_
      refine x_goto (pc := 112) 171 dX3_value_112 (by decide) ?_
      refine x_iinc (pc := 171) (p5 + 1) [(5, .int (p5 + 1)), (4, .int (p4 + (-1))), (0, .ref (ad (26 + i0))), (1, .int p1), (2, .int p2), (3, .int p3), (6, .int p6)] dX3_value_171 rfl (congrArg (fun z => p5 + z) ic_1) (by decide) rfl ?_
      refine x_goto (pc := 174) 6 dX3_value_174 (by decide) ?_
      refine x_lv [2, 3, 4, 5, 1, 0] [(0, .ref (ad (26 + i0))), (1, .int p1), (2, .int p2), (3, .int p3), (4, .int (p4 + (-1))), (5, .int (p5 + 1))] rfl ?_
      exact hK6 i0 h0 p1 p2 p3 (p4 + (-1)) (p5 + 1) _ _ _ h
def fc_La_value_L6 : Nat → Nat → Int32 → Int32 → Int32 → Int32 → Int32 → aw_M → Option (Int32 × aw_M)
  | 0, _, _, _, _, _, _, _ => none
  | n + 1, i0, p1, p2, p3, p4, p5, M =>
    if (M (26 + i0) 2) ≤ p5 then (
      some ((M (34 + i0) 0), M)
    ) else (
      if aw_in p5 50 then none else (
      if (M (30 + i0) p5.toNatClampNeg) = (-33) then (
        if p4 ≤ 0 then (
          fc_La_value_J65 (fc_La_value_L6 n) i0 p1 p2 p3 p4 p5 (M (30 + i0) p5.toNatClampNeg) M
        ) else (
          if aw_in (p4 - 1) 50 then none else (
          if (M (34 + i0) (p4 - 1).toNatClampNeg) = 0 then (
            if aw_in (p4 - 1) 50 then none else (
            fc_La_value_L6 n i0 p1 p2 p3 p4 (p5 + 1) (aw_u M (34 + i0) (p4 - 1).toNatClampNeg 1)
            )
          ) else (
            if aw_in (p4 - 1) 50 then none else (
            fc_La_value_L6 n i0 p1 p2 p3 p4 (p5 + 1) (aw_u M (34 + i0) (p4 - 1).toNatClampNeg 0)
            )
          )
          )
        )
      ) else (
        fc_La_value_J65 (fc_La_value_L6 n) i0 p1 p2 p3 p4 p5 (M (30 + i0) p5.toNatClampNeg) M
      )
      )
    )
theorem fc_La_value_L6_s (n : Nat) (i0 : Nat) (p1 : Int32) (p2 : Int32) (p3 : Int32) (p4 : Int32) (p5 : Int32) (M : aw_M) : fc_La_value_L6 (n + 1) i0 p1 p2 p3 p4 p5 M = (
    if (M (26 + i0) 2) ≤ p5 then (
      some ((M (34 + i0) 0), M)
    ) else (
      if aw_in p5 50 then none else (
      if (M (30 + i0) p5.toNatClampNeg) = (-33) then (
        if p4 ≤ 0 then (
          fc_La_value_J65 (fc_La_value_L6 n) i0 p1 p2 p3 p4 p5 (M (30 + i0) p5.toNatClampNeg) M
        ) else (
          if aw_in (p4 - 1) 50 then none else (
          if (M (34 + i0) (p4 - 1).toNatClampNeg) = 0 then (
            if aw_in (p4 - 1) 50 then none else (
            fc_La_value_L6 n i0 p1 p2 p3 p4 (p5 + 1) (aw_u M (34 + i0) (p4 - 1).toNatClampNeg 1)
            )
          ) else (
            if aw_in (p4 - 1) 50 then none else (
            fc_La_value_L6 n i0 p1 p2 p3 p4 (p5 + 1) (aw_u M (34 + i0) (p4 - 1).toNatClampNeg 0)
            )
          )
          )
        )
      ) else (
        fc_La_value_J65 (fc_La_value_L6 n) i0 p1 p2 p3 p4 p5 (M (30 + i0) p5.toNatClampNeg) M
      )
      )
    )
    ) := rfl
set_option maxRecDepth 20000 in
theorem tc_La_value_L6 {l : Launch} {D : va_G} {cy : Nat → ClassId} {ad : Nat → Nat} {A : Nat → Prop} (d : Nat) (hd : 1 ≤ d) : ∀ (n : Nat) (i0 : Nat) (h0 : i0 < 4) (p1 : Int32) (p2 : Int32) (p3 : Int32) (p4 : Int32) (p5 : Int32) (M : aw_M) (r : Int32) (M1 : aw_M), fc_La_value_L6 n i0 p1 p2 p3 p4 p5 M = some (r, M1) → AW l D cy ad A gc_G RX3 cX3_value 7 (some .int) d (some (.int r)) M1 6 [(0, .ref (ad (26 + i0))), (1, .int p1), (2, .int p2), (3, .int p3), (4, .int p4), (5, .int p5)] [] M := by
  have hd1 : (d - 1) + 1 ≤ d := by omega
  have hm1 : 1 ≤ d := by omega
  have hh_0 : 0 ≤ d - 1 := by omega
  intro n
  induction n with
  | zero => intro i0 h0 p1 p2 p3 p4 p5 M r M1 h; cases h
  | succ n ih =>
    intro i0 h0 p1 p2 p3 p4 p5 M r M1 h
    rw [fc_La_value_L6_s] at h
    refine x_iload (pc := 6) dX3_value_6 rfl ?_
    refine x_aload_n (pc := 8) 0 dX3_value_8 rfl rfl ?_
    refine x_get (pc := 9) dX3_value_9 lk_X3_28 (gc_law (i := i0) h0) rfl rfl ?_
    refine x_icmp_ge (pc := 12) 177 dX3_value_12 (by decide) (fun c_1 => ?_) (fun c_1 => ?_)
    · have h := aw_pos h c_1
      refine x_aload_n (pc := 177) 0 dX3_value_177 rfl rfl ?_
      refine x_get (pc := 178) dX3_value_178 lk_X3_15 (gc_law (i := i0) h0) rfl rfl ?_
      refine x_iconst (pc := 181) (w := 0) dX3_value_181 ic_0 ?_
      refine x_ialdJ (pc := 182) 0 dX3_value_182 (gc_lstack (i := i0) h0) (by decide) tn_0 ?_
      obtain ⟨rfl, rfl⟩ := aw_so h
      exact x_iret (pc := 183) dX3_value_183
    · have h := aw_neg h c_1
      refine x_aload_n (pc := 15) 0 dX3_value_15 rfl rfl ?_
      refine x_get (pc := 16) dX3_value_16 lk_X3_9 (gc_law (i := i0) h0) rfl rfl ?_
      refine x_iload (pc := 19) dX3_value_19 rfl ?_
      obtain ⟨c_2, h⟩ := aw_ck h
      refine x_iald (pc := 21) dX3_value_21 (gc_lsteps (i := i0) h0) c_2 ?_
      refine x_istore (pc := 22) 6 [(6, .int (M (30 + i0) p5.toNatClampNeg)), (0, .ref (ad (26 + i0))), (1, .int p1), (2, .int p2), (3, .int p3), (4, .int p4), (5, .int p5)] dX3_value_22 (by decide) rfl ?_
      refine x_iload (pc := 24) dX3_value_24 rfl ?_
      refine x_bipush (pc := 26) (w := (-33)) dX3_value_26 bi_m33 ?_
      refine x_icmp_ne (pc := 28) 65 dX3_value_28 (by decide) (fun c_3 => ?_) (fun c_3 => ?_)
      · have h := aw_neg h c_3
        refine x_lv [1, 2, 3, 4, 5, 6, 0] [(0, .ref (ad (26 + i0))), (1, .int p1), (2, .int p2), (3, .int p3), (4, .int p4), (5, .int p5), (6, .int (M (30 + i0) p5.toNatClampNeg))] rfl ?_
        exact tc_La_value_J65 d hd _ ih i0 h0 p1 p2 p3 p4 p5 (M (30 + i0) p5.toNatClampNeg) _ _ _ h
      · have h := aw_pos h c_3
        refine x_iload (pc := 31) dX3_value_31 rfl ?_
        refine x_if_le (pc := 33) 65 dX3_value_33 (by decide) (fun c_4 => ?_) (fun c_4 => ?_)
        · have h := aw_pos h c_4
          refine x_lv [1, 2, 3, 4, 5, 6, 0] [(0, .ref (ad (26 + i0))), (1, .int p1), (2, .int p2), (3, .int p3), (4, .int p4), (5, .int p5), (6, .int (M (30 + i0) p5.toNatClampNeg))] rfl ?_
          exact tc_La_value_J65 d hd _ ih i0 h0 p1 p2 p3 p4 p5 (M (30 + i0) p5.toNatClampNeg) _ _ _ h
        · have h := aw_neg h c_4
          refine x_aload_n (pc := 36) 0 dX3_value_36 rfl rfl ?_
          refine x_get (pc := 37) dX3_value_37 lk_X3_15 (gc_law (i := i0) h0) rfl rfl ?_
          refine x_iload (pc := 40) dX3_value_40 rfl ?_
          refine x_iconst (pc := 42) (w := 1) dX3_value_42 ic_1 ?_
          refine x_isub (pc := 43) dX3_value_43 ?_
          refine x_aload_n (pc := 44) 0 dX3_value_44 rfl rfl ?_
          refine x_get (pc := 45) dX3_value_45 lk_X3_15 (gc_law (i := i0) h0) rfl rfl ?_
          refine x_iload (pc := 48) dX3_value_48 rfl ?_
          refine x_iconst (pc := 50) (w := 1) dX3_value_50 ic_1 ?_
          refine x_isub (pc := 51) dX3_value_51 ?_
          obtain ⟨c_5, h⟩ := aw_ck h
          refine x_iald (pc := 52) dX3_value_52 (gc_lstack (i := i0) h0) c_5 ?_
          refine x_if_ne (pc := 53) 60 dX3_value_53 (by decide) (fun c_6 => ?_) (fun c_6 => ?_)
          · have h := aw_neg h c_6
            refine x_iconst (pc := 60) (w := 0) dX3_value_60 ic_0 ?_
            obtain ⟨c_7, h⟩ := aw_ck h
            refine x_iast (pc := 61) dX3_value_61 (gc_lstack (i := i0) h0) c_7 ?_
            refine x_goto (pc := 62) 171 dX3_value_62 (by decide) ?_
            refine x_iinc (pc := 171) (p5 + 1) [(5, .int (p5 + 1)), (6, .int (M (30 + i0) p5.toNatClampNeg)), (0, .ref (ad (26 + i0))), (1, .int p1), (2, .int p2), (3, .int p3), (4, .int p4)] dX3_value_171 rfl (congrArg (fun z => p5 + z) ic_1) (by decide) rfl ?_
            refine x_goto (pc := 174) 6 dX3_value_174 (by decide) ?_
            refine x_lv [2, 3, 4, 5, 6, 0] [(0, .ref (ad (26 + i0))), (1, .int p1), (2, .int p2), (3, .int p3), (4, .int p4), (5, .int (p5 + 1))] rfl ?_
            exact ih i0 h0 p1 p2 p3 p4 (p5 + 1) _ _ _ h
          · have h := aw_pos h c_6
            refine x_iconst (pc := 56) (w := 1) dX3_value_56 ic_1 ?_
            refine x_goto (pc := 57) 61 dX3_value_57 (by decide) ?_
            obtain ⟨c_8, h⟩ := aw_ck h
            refine x_iast (pc := 61) dX3_value_61 (gc_lstack (i := i0) h0) c_8 ?_
            refine x_goto (pc := 62) 171 dX3_value_62 (by decide) ?_
            refine x_iinc (pc := 171) (p5 + 1) [(5, .int (p5 + 1)), (6, .int (M (30 + i0) p5.toNatClampNeg)), (0, .ref (ad (26 + i0))), (1, .int p1), (2, .int p2), (3, .int p3), (4, .int p4)] dX3_value_171 rfl (congrArg (fun z => p5 + z) ic_1) (by decide) rfl ?_
            refine x_goto (pc := 174) 6 dX3_value_174 (by decide) ?_
            refine x_lv [2, 3, 4, 5, 6, 0] [(0, .ref (ad (26 + i0))), (1, .int p1), (2, .int p2), (3, .int p3), (4, .int p4), (5, .int (p5 + 1))] rfl ?_
            exact ih i0 h0 p1 p2 p3 p4 (p5 + 1) _ _ _ h
def fc_La_value (i0 : Nat) (p1 : Int32) (p2 : Int32) (p3 : Int32) (M : aw_M) : Option (Int32 × aw_M) :=
  fc_La_value_L6  2000 i0 p1 p2 p3 0 0 M
set_option maxRecDepth 20000 in
theorem tc_La_value {l : Launch} {D : va_G} {cy : Nat → ClassId} {ad : Nat → Nat} {A : Nat → Prop} (d : Nat) (hd : 1 ≤ d) (i0 : Nat) (h0 : i0 < 4) (p1 : Int32) (p2 : Int32) (p3 : Int32) (M : aw_M) (r : Int32) (M1 : aw_M) (h : fc_La_value i0 p1 p2 p3 M = some (r, M1)) : AX l D cy ad A gc_G yX3_value cX3_value 7 (some .int) d [.ref (ad (26 + i0)), .int p1, .int p2, .int p3] M (some (.int r)) M1 := by
  have hd1 : (d - 1) + 1 ≤ d := by omega
  have hm1 : 1 ≤ d := by omega
  have hh_0 : 0 ≤ d - 1 := by omega
  refine AX.of (own := RX3) (by decide +kernel) rfl (Nat.le_of_ble_eq_true rfl) ?_
  unfold fc_La_value at h
  show AW l D cy ad A gc_G RX3 cX3_value 7 (some .int) d (some (.int r)) M1 0 [(0, .ref (ad (26 + i0))), (1, .int p1), (2, .int p2), (3, .int p3)] [] M
  refine x_iconst (pc := 0) (w := 0) dX3_value_0 ic_0 ?_
  refine x_istore (pc := 1) 4 [(4, .int 0), (0, .ref (ad (26 + i0))), (1, .int p1), (2, .int p2), (3, .int p3)] dX3_value_1 (by decide) rfl ?_
  refine x_iconst (pc := 3) (w := 0) dX3_value_3 ic_0 ?_
  refine x_istore (pc := 4) 5 [(5, .int 0), (4, .int 0), (0, .ref (ad (26 + i0))), (1, .int p1), (2, .int p2), (3, .int p3)] dX3_value_4 (by decide) rfl ?_
  refine x_lv [2, 3, 4, 5, 1, 0] [(0, .ref (ad (26 + i0))), (1, .int p1), (2, .int p2), (3, .int p3), (4, .int 0), (5, .int 0)] rfl ?_
  exact tc_La_value_L6 d hd  2000 i0 h0 p1 p2 p3 0 0 _ _ _ h
def fc_St_gives (p1 : Int32) (p2 : Int32) (p3 : Int32) (p4 : Int32) (M : aw_M) : Option (Int32 × aw_M) :=
  if p1 = 0 then (
    if (M 26 2) = 0 then (
      fc_LB_held (2 + (p2 / 2)) (-9) 19 M
    ) else (
      aw_bi (fc_La_value 0 p2 p3 p4 M) fun r_8 M_9 => (
      fc_LB_held r_8 (-9) 19 M_9
      )
    )
  ) else (
    if (M 27 2) = 0 then (
      fc_LB_held 4 0 9 M
    ) else (
      aw_bi (fc_La_value 1 p2 p3 p4 M) fun r_4 M_5 => (
      fc_LB_held r_4 0 9 M_5
      )
    )
  )
set_option maxRecDepth 20000 in
theorem tc_St_gives {l : Launch} {D : va_G} {cy : Nat → ClassId} {ad : Nat → Nat} {A : Nat → Prop} (d : Nat) (hd : 2 ≤ d) (p1 : Int32) (p2 : Int32) (p3 : Int32) (p4 : Int32) (M : aw_M) (r : Int32) (M1 : aw_M) (h : fc_St_gives p1 p2 p3 p4 M = some (r, M1)) : AX l D cy ad A gc_G yX7_gives cX7_gives 6 (some .int) d [.ref (ad 1), .int p1, .int p2, .int p3, .int p4] M (some (.int r)) M1 := by
  have hd1 : (d - 1) + 1 ≤ d := by omega
  have hm1 : 1 ≤ d := by omega
  have hh_1 : 1 ≤ d - 1 := by omega
  refine AX.of (own := RX7) (by decide +kernel) rfl (Nat.le_of_ble_eq_true rfl) ?_
  unfold fc_St_gives at h
  show AW l D cy ad A gc_G RX7 cX7_gives 6 (some .int) d (some (.int r)) M1 0 [(0, .ref (ad 1)), (1, .int p1), (2, .int p2), (3, .int p3), (4, .int p4)] [] M
  refine x_iload_n (pc := 0) 1 dX7_gives_0 rfl rfl ?_
  refine x_if_ne (pc := 1) 45 dX7_gives_1 (by decide) (fun c_1 => ?_) (fun c_1 => ?_)
  · have h := aw_neg h c_1
    refine x_aload_n (pc := 45) 0 dX7_gives_45 rfl rfl ?_
    refine x_get (pc := 46) dX7_gives_46 lk_X7_26 gc_1 rfl rfl ?_
    refine x_iconst (pc := 49) (w := 1) dX7_gives_49 ic_1 ?_
    refine x_aald (pc := 50) dX7_gives_50 gc_8 (fun _ => rfl) (by decide) rfl ?_
    refine x_astore (pc := 51) 5 [(5, .ref (ad 27)), (0, .ref (ad 1)), (1, .int p1), (2, .int p2), (3, .int p3), (4, .int p4)] dX7_gives_51 (by decide) rfl ?_
    refine x_aload (pc := 53) dX7_gives_53 rfl ?_
    refine x_get (pc := 55) dX7_gives_55 lk_X7_66 (gc_law (i := 1) (by decide)) rfl rfl ?_
    refine x_if_ne (pc := 58) 65 dX7_gives_58 (by decide) (fun c_2 => ?_) (fun c_2 => ?_)
    · have h := aw_neg h c_2
      refine x_aload (pc := 65) dX7_gives_65 rfl ?_
      refine x_iload_n (pc := 67) 2 dX7_gives_67 rfl rfl ?_
      refine x_iload_n (pc := 68) 3 dX7_gives_68 rfl rfl ?_
      refine x_iload (pc := 69) dX7_gives_69 rfl ?_
      obtain ⟨r_4, M_5, e_3, h⟩ := aw_bi_e h
      refine x_callV (pc := 71) (As := [.int p2, .int p3, .int p4]) (rest := []) (st' := [.int r_4]) (w := (some (.int r_4))) dX7_gives_71 cw_X7_79 hd1 (gc_law (i := 1) (by decide)) rfl rfl rfl (Nat.le_of_ble_eq_true rfl) (tc_La_value (d - 1) hh_1 1 (by decide) p2 p3 p4 _ _ _ e_3) rfl ?_
      refine x_iconst (pc := 74) (w := 0) dX7_gives_74 ic_0 ?_
      refine x_bipush (pc := 75) (w := 9) dX7_gives_75 bi_9 ?_
      refine x_callSN (pc := 77) (As := [.int r_4, .int 0, .int 9]) (rest := []) (st' := [.int r]) (w := (some (.int r))) (host := "LoopsBelow") dX7_gives_77 (by decide +kernel) cw_X7_83 hd1 rfl rfl (Nat.le_of_ble_eq_true rfl) (tc_LB_held (d - 1) hh_1 r_4 0 9 _ _ _ h) rfl ?_
      exact x_iret (pc := 80) dX7_gives_80
    · have h := aw_pos h c_2
      refine x_iconst (pc := 61) (w := 4) dX7_gives_61 ic_4 ?_
      refine x_goto (pc := 62) 74 dX7_gives_62 (by decide) ?_
      refine x_iconst (pc := 74) (w := 0) dX7_gives_74 ic_0 ?_
      refine x_bipush (pc := 75) (w := 9) dX7_gives_75 bi_9 ?_
      refine x_callSN (pc := 77) (As := [.int 4, .int 0, .int 9]) (rest := []) (st' := [.int r]) (w := (some (.int r))) (host := "LoopsBelow") dX7_gives_77 (by decide +kernel) cw_X7_83 hd1 rfl rfl (Nat.le_of_ble_eq_true rfl) (tc_LB_held (d - 1) hh_1 4 0 9 _ _ _ h) rfl ?_
      exact x_iret (pc := 80) dX7_gives_80
  · have h := aw_pos h c_1
    refine x_aload_n (pc := 4) 0 dX7_gives_4 rfl rfl ?_
    refine x_get (pc := 5) dX7_gives_5 lk_X7_26 gc_1 rfl rfl ?_
    refine x_iconst (pc := 8) (w := 0) dX7_gives_8 ic_0 ?_
    refine x_aald (pc := 9) dX7_gives_9 gc_8 (fun _ => rfl) (by decide) rfl ?_
    refine x_astore (pc := 10) 5 [(5, .ref (ad 26)), (0, .ref (ad 1)), (1, .int p1), (2, .int p2), (3, .int p3), (4, .int p4)] dX7_gives_10 (by decide) rfl ?_
    refine x_aload (pc := 12) dX7_gives_12 rfl ?_
    refine x_get (pc := 14) dX7_gives_14 lk_X7_66 (gc_law (i := 0) (by decide)) rfl rfl ?_
    refine x_if_ne (pc := 17) 28 dX7_gives_17 (by decide) (fun c_6 => ?_) (fun c_6 => ?_)
    · have h := aw_neg h c_6
      refine x_aload (pc := 28) dX7_gives_28 rfl ?_
      refine x_iload_n (pc := 30) 2 dX7_gives_30 rfl rfl ?_
      refine x_iload_n (pc := 31) 3 dX7_gives_31 rfl rfl ?_
      refine x_iload (pc := 32) dX7_gives_32 rfl ?_
      obtain ⟨r_8, M_9, e_7, h⟩ := aw_bi_e h
      refine x_callV (pc := 34) (As := [.int p2, .int p3, .int p4]) (rest := []) (st' := [.int r_8]) (w := (some (.int r_8))) dX7_gives_34 cw_X7_79 hd1 (gc_law (i := 0) (by decide)) rfl rfl rfl (Nat.le_of_ble_eq_true rfl) (tc_La_value (d - 1) hh_1 0 (by decide) p2 p3 p4 _ _ _ e_7) rfl ?_
      refine x_bipush (pc := 37) (w := (-9)) dX7_gives_37 bi_m9 ?_
      refine x_bipush (pc := 39) (w := 19) dX7_gives_39 bi_19 ?_
      refine x_callSN (pc := 41) (As := [.int r_8, .int (-9), .int 19]) (rest := []) (st' := [.int r]) (w := (some (.int r))) (host := "LoopsBelow") dX7_gives_41 (by decide +kernel) cw_X7_83 hd1 rfl rfl (Nat.le_of_ble_eq_true rfl) (tc_LB_held (d - 1) hh_1 r_8 (-9) 19 _ _ _ h) rfl ?_
      exact x_iret (pc := 44) dX7_gives_44
    · have h := aw_pos h c_6
      refine x_iconst (pc := 20) (w := 2) dX7_gives_20 ic_2 ?_
      refine x_iload_n (pc := 21) 2 dX7_gives_21 rfl rfl ?_
      refine x_iconst (pc := 22) (w := 2) dX7_gives_22 ic_2 ?_
      refine x_idiv (pc := 23) dX7_gives_23 (by decide) ?_
      refine x_iadd (pc := 24) dX7_gives_24 ?_
      refine x_goto (pc := 25) 37 dX7_gives_25 (by decide) ?_
      refine x_bipush (pc := 37) (w := (-9)) dX7_gives_37 bi_m9 ?_
      refine x_bipush (pc := 39) (w := 19) dX7_gives_39 bi_19 ?_
      refine x_callSN (pc := 41) (As := [.int (2 + (p2 / 2)), .int (-9), .int 19]) (rest := []) (st' := [.int r]) (w := (some (.int r))) (host := "LoopsBelow") dX7_gives_41 (by decide +kernel) cw_X7_83 hd1 rfl rfl (Nat.le_of_ble_eq_true rfl) (tc_LB_held (d - 1) hh_1 (2 + (p2 / 2)) (-9) 19 _ _ _ h) rfl ?_
      exact x_iret (pc := 44) dX7_gives_44
def fc_Ar_fill_L5 : Nat → Nat → Nat → Int32 → Int32 → Int32 → aw_M → Option aw_M
  | 0, _, _, _, _, _, _ => none
  | n + 1, o0, n0, p1, p2, p3, M =>
    if p3 ≤ p2 then (
      some M
    ) else (
      if aw_in p2 n0 then none else (
      fc_Ar_fill_L5 n o0 n0 p1 (p2 + 1) p3 (aw_u M o0 p2.toNatClampNeg p1)
      )
    )
theorem fc_Ar_fill_L5_s (n : Nat) (o0 : Nat) (n0 : Nat) (p1 : Int32) (p2 : Int32) (p3 : Int32) (M : aw_M) : fc_Ar_fill_L5 (n + 1) o0 n0 p1 p2 p3 M = (
    if p3 ≤ p2 then (
      some M
    ) else (
      if aw_in p2 n0 then none else (
      fc_Ar_fill_L5 n o0 n0 p1 (p2 + 1) p3 (aw_u M o0 p2.toNatClampNeg p1)
      )
    )
    ) := rfl
set_option maxRecDepth 20000 in
theorem tc_Ar_fill_L5 {l : Launch} {D : va_G} {cy : Nat → ClassId} {ad : Nat → Nat} {A : Nat → Prop} (d : Nat) (hd : 0 ≤ d) : ∀ (n : Nat) (o0 : Nat) (n0 : Nat) (g0 : gc_G[o0]? = some (1, n0, [])) (p1 : Int32) (p2 : Int32) (p3 : Int32) (M : aw_M) (M1 : aw_M), fc_Ar_fill_L5 n o0 n0 p1 p2 p3 M = some M1 → AW l D cy ad A gc_G RJ7 cJ7_fill_53178 4 none d none M1 5 [(0, .ref (ad o0)), (1, .int p1), (2, .int p2), (3, .int p3)] [] M := by
  intro n
  induction n with
  | zero => intro o0 n0 g0 p1 p2 p3 M M1 h; cases h
  | succ n ih =>
    intro o0 n0 g0 p1 p2 p3 M M1 h
    rw [fc_Ar_fill_L5_s] at h
    refine x_iload_n (pc := 5) 2 dJ7_fill_53178_5 rfl rfl ?_
    refine x_iload_n (pc := 6) 3 dJ7_fill_53178_6 rfl rfl ?_
    refine x_icmp_ge (pc := 7) 20 dJ7_fill_53178_7 (by decide) (fun c_1 => ?_) (fun c_1 => ?_)
    · have h := aw_pos h c_1
      obtain rfl := aw_sv h
      exact x_vret (pc := 20) dJ7_fill_53178_20
    · have h := aw_neg h c_1
      refine x_aload_n (pc := 10) 0 dJ7_fill_53178_10 rfl rfl ?_
      refine x_iload_n (pc := 11) 2 dJ7_fill_53178_11 rfl rfl ?_
      refine x_iload_n (pc := 12) 1 dJ7_fill_53178_12 rfl rfl ?_
      obtain ⟨c_2, h⟩ := aw_ck h
      refine x_iast (pc := 13) dJ7_fill_53178_13 g0 c_2 ?_
      refine x_iinc (pc := 14) (p2 + 1) [(2, .int (p2 + 1)), (0, .ref (ad o0)), (1, .int p1), (3, .int p3)] dJ7_fill_53178_14 rfl (congrArg (fun z => p2 + z) ic_1) (by decide) rfl ?_
      refine x_goto (pc := 17) 5 dJ7_fill_53178_17 (by decide) ?_
      refine x_lv [1, 2, 0, 3] [(0, .ref (ad o0)), (1, .int p1), (2, .int (p2 + 1)), (3, .int p3)] rfl ?_
      exact ih o0 n0 g0 p1 (p2 + 1) p3 _ _ h
def fc_Ar_fill (o0 : Nat) (n0 : Nat) (p1 : Int32) (M : aw_M) : Option aw_M :=
  fc_Ar_fill_L5  2000 o0 n0 p1 0 (Int32.ofNat n0) M
set_option maxRecDepth 20000 in
theorem tc_Ar_fill {l : Launch} {D : va_G} {cy : Nat → ClassId} {ad : Nat → Nat} {A : Nat → Prop} (d : Nat) (hd : 0 ≤ d) (o0 : Nat) (n0 : Nat) (g0 : gc_G[o0]? = some (1, n0, [])) (p1 : Int32) (M : aw_M) (M1 : aw_M) (h : fc_Ar_fill o0 n0 p1 M = some M1) : AX l D cy ad A gc_G yJ7_fill_53178 cJ7_fill_53178 4 none d [.ref (ad o0), .int p1] M none M1 := by
  refine AX.of (own := RJ7) (by decide +kernel) rfl (Nat.le_of_ble_eq_true rfl) ?_
  unfold fc_Ar_fill at h
  show AW l D cy ad A gc_G RJ7 cJ7_fill_53178 4 none d none M1 0 [(0, .ref (ad o0)), (1, .int p1)] [] M
  refine x_iconst (pc := 0) (w := 0) dJ7_fill_53178_0 ic_0 ?_
  refine x_istore_n (pc := 1) 2 [(2, .int 0), (0, .ref (ad o0)), (1, .int p1)] dJ7_fill_53178_1 rfl (by decide) rfl ?_
  refine x_aload_n (pc := 2) 0 dJ7_fill_53178_2 rfl rfl ?_
  refine x_alen (pc := 3) (w := Int32.ofNat n0) dJ7_fill_53178_3 g0 rfl ?_
  refine x_istore_n (pc := 4) 3 [(3, .int (Int32.ofNat n0)), (2, .int 0), (0, .ref (ad o0)), (1, .int p1)] dJ7_fill_53178_4 rfl (by decide) rfl ?_
  refine x_lv [2, 3, 1, 0] [(0, .ref (ad o0)), (1, .int p1), (2, .int 0), (3, .int (Int32.ofNat n0))] rfl ?_
  exact tc_Ar_fill_L5 d hd  2000 o0 n0 g0 p1 0 (Int32.ofNat n0) _ _ h
def fc_Ga_refresh (i0 : Nat) (M : aw_M) : Option aw_M :=
  aw_bi (fc_St_gives 0 (M (14 + i0) 2) (M (14 + i0) 1) (M (14 + i0) 0) M) fun r_2 M_3 => (
  aw_bi (fc_Cl_wantsMore i0 M_3) fun r_5 M_6 => (
  aw_bi (fc_Cl_bears i0 (aw_u M_6 (39 + i0) 3 (r_2 + r_5))) fun r_8 M_9 => (
  aw_bv (fc_Ar_fill (45 + i0) 100 (-1) (aw_u M_9 (39 + i0) 4 r_8)) fun M_11 => (
  some M_11
  )
  )
  )
  )
set_option maxRecDepth 20000 in
theorem tc_Ga_refresh {l : Launch} {D : va_G} {cy : Nat → ClassId} {ad : Nat → Nat} {A : Nat → Prop} (d : Nat) (hd : 3 ≤ d) (i0 : Nat) (h0 : i0 < 6) (M : aw_M) (M1 : aw_M) (h : fc_Ga_refresh i0 M = some M1) : AX l D cy ad A gc_G yX2_refresh cX2_refresh 1 none d [.ref (ad (39 + i0))] M none M1 := by
  have hd1 : (d - 1) + 1 ≤ d := by omega
  have hm1 : 1 ≤ d := by omega
  have hh_0 : 0 ≤ d - 1 := by omega
  have hh_1 : 1 ≤ d - 1 := by omega
  have hh_2 : 2 ≤ d - 1 := by omega
  refine AX.of (own := RX2) (by decide +kernel) rfl (Nat.le_of_ble_eq_true rfl) ?_
  unfold fc_Ga_refresh at h
  show AW l D cy ad A gc_G RX2 cX2_refresh 1 none d none M1 0 [(0, .ref (ad (39 + i0)))] [] M
  refine x_aload_n (pc := 0) 0 dX2_refresh_0 rfl rfl ?_
  refine x_aload_n (pc := 1) 0 dX2_refresh_1 rfl rfl ?_
  refine x_get (pc := 2) dX2_refresh_2 lk_X2_15 (gc_gauge (i := i0) h0) rfl rfl ?_
  refine x_iconst (pc := 5) (w := 0) dX2_refresh_5 ic_0 ?_
  refine x_aload_n (pc := 6) 0 dX2_refresh_6 rfl rfl ?_
  refine x_get (pc := 7) dX2_refresh_7 lk_X2_19 (gc_gauge (i := i0) h0) rfl rfl ?_
  refine x_get (pc := 10) dX2_refresh_10 lk_X2_23 (gc_cloth (i := i0) (Nat.lt_of_lt_of_le h0 (by decide))) rfl rfl ?_
  refine x_aload_n (pc := 13) 0 dX2_refresh_13 rfl rfl ?_
  refine x_get (pc := 14) dX2_refresh_14 lk_X2_19 (gc_gauge (i := i0) h0) rfl rfl ?_
  refine x_get (pc := 17) dX2_refresh_17 lk_X2_29 (gc_cloth (i := i0) (Nat.lt_of_lt_of_le h0 (by decide))) rfl rfl ?_
  refine x_aload_n (pc := 20) 0 dX2_refresh_20 rfl rfl ?_
  refine x_get (pc := 21) dX2_refresh_21 lk_X2_19 (gc_gauge (i := i0) h0) rfl rfl ?_
  refine x_get (pc := 24) dX2_refresh_24 lk_X2_32 (gc_cloth (i := i0) (Nat.lt_of_lt_of_le h0 (by decide))) rfl rfl ?_
  obtain ⟨r_2, M_3, e_1, h⟩ := aw_bi_e h
  refine x_callV (pc := 27) (As := [.int 0, .int (M (14 + i0) 2), .int (M (14 + i0) 1), .int (M (14 + i0) 0)]) (rest := [.ref (ad (39 + i0))]) (st' := [.int r_2, .ref (ad (39 + i0))]) (w := (some (.int r_2))) dX2_refresh_27 cw_X2_35 hd1 gc_1 rfl rfl rfl (Nat.le_of_ble_eq_true rfl) (tc_St_gives (d - 1) hh_2 0 (M (14 + i0) 2) (M (14 + i0) 1) (M (14 + i0) 0) _ _ _ e_1) rfl ?_
  refine x_aload_n (pc := 30) 0 dX2_refresh_30 rfl rfl ?_
  refine x_get (pc := 31) dX2_refresh_31 lk_X2_19 (gc_gauge (i := i0) h0) rfl rfl ?_
  obtain ⟨r_5, M_6, e_4, h⟩ := aw_bi_e h
  refine x_callV (pc := 34) (As := []) (rest := [.int r_2, .ref (ad (39 + i0))]) (st' := [.int r_5, .int r_2, .ref (ad (39 + i0))]) (w := (some (.int r_5))) dX2_refresh_34 cw_X2_41 hd1 (gc_cloth (i := i0) (Nat.lt_of_lt_of_le h0 (by decide))) rfl rfl rfl (Nat.le_of_ble_eq_true rfl) (tc_Cl_wantsMore (d - 1) hh_1 i0 (Nat.lt_of_lt_of_le h0 (by decide)) _ _ _ e_4) rfl ?_
  refine x_iadd (pc := 37) dX2_refresh_37 ?_
  refine x_put (pc := 38) (x := (r_2 + r_5)) dX2_refresh_38 lk_X2_45 lp_X2_3 (gc_gauge (i := i0) h0) rfl rfl rfl rfl ?_
  refine x_aload_n (pc := 41) 0 dX2_refresh_41 rfl rfl ?_
  refine x_aload_n (pc := 42) 0 dX2_refresh_42 rfl rfl ?_
  refine x_get (pc := 43) dX2_refresh_43 lk_X2_19 (gc_gauge (i := i0) h0) rfl rfl ?_
  obtain ⟨r_8, M_9, e_7, h⟩ := aw_bi_e h
  refine x_callV (pc := 46) (As := []) (rest := [.ref (ad (39 + i0))]) (st' := [.int r_8, .ref (ad (39 + i0))]) (w := (some (.int r_8))) dX2_refresh_46 cw_X2_48 hd1 (gc_cloth (i := i0) (Nat.lt_of_lt_of_le h0 (by decide))) rfl rfl rfl (Nat.le_of_ble_eq_true rfl) (tc_Cl_bears (d - 1) hh_0 i0 (Nat.lt_of_lt_of_le h0 (by decide)) _ _ _ e_7) rfl ?_
  refine x_put (pc := 49) (x := r_8) dX2_refresh_49 lk_X2_51 lp_X2_4 (gc_gauge (i := i0) h0) rfl rfl rfl rfl ?_
  refine x_aload_n (pc := 52) 0 dX2_refresh_52 rfl rfl ?_
  refine x_get (pc := 53) dX2_refresh_53 lk_X2_9 (gc_gauge (i := i0) h0) rfl rfl ?_
  refine x_iconst (pc := 56) (w := (-1)) dX2_refresh_56 ic_m1 ?_
  obtain ⟨M_11, e_10, h⟩ := aw_bv_e h
  refine x_callS (pc := 57) (As := [.ref (ad (45 + i0)), .int (-1)]) (rest := []) (st' := []) (w := none) dX2_refresh_57 cw_X2_53 hd1 rfl rfl (Nat.le_of_ble_eq_true rfl) (tc_Ar_fill (d - 1) hh_0 (45 + i0) 100 (gc_limits (i := i0) h0) (-1) _  _ e_10) rfl ?_
  obtain rfl := aw_sv h
  exact x_vret (pc := 60) dX2_refresh_60
def fc_Ga_off (i0 : Nat) (i1 : Nat) (M : aw_M) : Option (Int32 × aw_M) :=
  some (((((M (3 + i1) 1) - (M (3 + i1) 2)) - ((M (3 + i1) 4) / 20)) - (M (39 + i0) 3)), M)
set_option maxRecDepth 20000 in
theorem tc_Ga_off {l : Launch} {D : va_G} {cy : Nat → ClassId} {ad : Nat → Nat} {A : Nat → Prop} (d : Nat) (hd : 0 ≤ d) (i0 : Nat) (h0 : i0 < 6) (i1 : Nat) (h1 : i1 < 3) (M : aw_M) (r : Int32) (M1 : aw_M) (h : fc_Ga_off i0 i1 M = some (r, M1)) : AX l D cy ad A gc_G yX2_off cX2_off 2 (some .int) d [.ref (ad (39 + i0)), .ref (ad (3 + i1))] M (some (.int r)) M1 := by
  refine AX.of (own := RX2) (by decide +kernel) rfl (Nat.le_of_ble_eq_true rfl) ?_
  unfold fc_Ga_off at h
  show AW l D cy ad A gc_G RX2 cX2_off 2 (some .int) d (some (.int r)) M1 0 [(0, .ref (ad (39 + i0))), (1, .ref (ad (3 + i1)))] [] M
  refine x_aload_n (pc := 0) 1 dX2_off_0 rfl rfl ?_
  refine x_get (pc := 1) dX2_off_1 lk_X2_59 (gc_mach (i := i1) h1) rfl rfl ?_
  refine x_aload_n (pc := 4) 1 dX2_off_4 rfl rfl ?_
  refine x_get (pc := 5) dX2_off_5 lk_X2_64 (gc_mach (i := i1) h1) rfl rfl ?_
  refine x_isub (pc := 8) dX2_off_8 ?_
  refine x_aload_n (pc := 9) 1 dX2_off_9 rfl rfl ?_
  refine x_get (pc := 10) dX2_off_10 lk_X2_67 (gc_mach (i := i1) h1) rfl rfl ?_
  refine x_bipush (pc := 13) (w := 20) dX2_off_13 bi_20 ?_
  refine x_idiv (pc := 15) dX2_off_15 (by decide) ?_
  refine x_isub (pc := 16) dX2_off_16 ?_
  refine x_aload_n (pc := 17) 0 dX2_off_17 rfl rfl ?_
  refine x_get (pc := 18) dX2_off_18 lk_X2_45 (gc_gauge (i := i0) h0) rfl rfl ?_
  refine x_isub (pc := 21) dX2_off_21 ?_
  obtain ⟨rfl, rfl⟩ := aw_so h
  exact x_iret (pc := 22) dX2_off_22
def fc_Ga_limitAt (i0 : Nat) (p1 : Int32) (M : aw_M) : Option (Int32 × aw_M) :=
  aw_bi (fc_LB_held p1 0 99 M) fun r_2 M_3 => (
  if aw_in r_2 100 then none else (
  if (M_3 (45 + i0) r_2.toNatClampNeg) = (-1) then (
    aw_bi (fc_St_gives 1 (M_3 (14 + i0) 2) (M_3 (14 + i0) 1) r_2 M_3) fun r_8 M_9 => (
    if aw_in r_2 100 then none else (
    if aw_in r_2 100 then none else (
    some (((aw_u M_9 (45 + i0) r_2.toNatClampNeg r_8) (45 + i0) r_2.toNatClampNeg), (aw_u M_9 (45 + i0) r_2.toNatClampNeg r_8))
    )
    )
    )
  ) else (
    if aw_in r_2 100 then none else (
    some ((M_3 (45 + i0) r_2.toNatClampNeg), M_3)
    )
  )
  )
  )
set_option maxRecDepth 20000 in
theorem tc_Ga_limitAt {l : Launch} {D : va_G} {cy : Nat → ClassId} {ad : Nat → Nat} {A : Nat → Prop} (d : Nat) (hd : 3 ≤ d) (i0 : Nat) (h0 : i0 < 6) (p1 : Int32) (M : aw_M) (r : Int32) (M1 : aw_M) (h : fc_Ga_limitAt i0 p1 M = some (r, M1)) : AX l D cy ad A gc_G yX2_limitAt cX2_limitAt 3 (some .int) d [.ref (ad (39 + i0)), .int p1] M (some (.int r)) M1 := by
  have hd1 : (d - 1) + 1 ≤ d := by omega
  have hm1 : 1 ≤ d := by omega
  have hh_1 : 1 ≤ d - 1 := by omega
  have hh_2 : 2 ≤ d - 1 := by omega
  refine AX.of (own := RX2) (by decide +kernel) rfl (Nat.le_of_ble_eq_true rfl) ?_
  unfold fc_Ga_limitAt at h
  show AW l D cy ad A gc_G RX2 cX2_limitAt 3 (some .int) d (some (.int r)) M1 0 [(0, .ref (ad (39 + i0))), (1, .int p1)] [] M
  refine x_iload_n (pc := 0) 1 dX2_limitAt_0 rfl rfl ?_
  refine x_iconst (pc := 1) (w := 0) dX2_limitAt_1 ic_0 ?_
  refine x_bipush (pc := 2) (w := 99) dX2_limitAt_2 bi_99 ?_
  obtain ⟨r_2, M_3, e_1, h⟩ := aw_bi_e h
  refine x_callSN (pc := 4) (As := [.int p1, .int 0, .int 99]) (rest := []) (st' := [.int r_2]) (w := (some (.int r_2))) (host := "LoopsBelow") dX2_limitAt_4 (by decide +kernel) cw_X2_87 hd1 rfl rfl (Nat.le_of_ble_eq_true rfl) (tc_LB_held (d - 1) hh_1 p1 0 99 _ _ _ e_1) rfl ?_
  refine x_istore_n (pc := 7) 2 [(2, .int r_2), (0, .ref (ad (39 + i0))), (1, .int p1)] dX2_limitAt_7 rfl (by decide) rfl ?_
  refine x_aload_n (pc := 8) 0 dX2_limitAt_8 rfl rfl ?_
  refine x_get (pc := 9) dX2_limitAt_9 lk_X2_9 (gc_gauge (i := i0) h0) rfl rfl ?_
  refine x_iload_n (pc := 12) 2 dX2_limitAt_12 rfl rfl ?_
  obtain ⟨c_4, h⟩ := aw_ck h
  refine x_iald (pc := 13) dX2_limitAt_13 (gc_limits (i := i0) h0) c_4 ?_
  refine x_iconst (pc := 14) (w := (-1)) dX2_limitAt_14 ic_m1 ?_
  refine x_icmp_ne (pc := 15) 47 dX2_limitAt_15 (by decide) (fun c_5 => ?_) (fun c_5 => ?_)
  · have h := aw_neg h c_5
    refine x_aload_n (pc := 47) 0 dX2_limitAt_47 rfl rfl ?_
    refine x_get (pc := 48) dX2_limitAt_48 lk_X2_9 (gc_gauge (i := i0) h0) rfl rfl ?_
    refine x_iload_n (pc := 51) 2 dX2_limitAt_51 rfl rfl ?_
    obtain ⟨c_6, h⟩ := aw_ck h
    refine x_iald (pc := 52) dX2_limitAt_52 (gc_limits (i := i0) h0) c_6 ?_
    obtain ⟨rfl, rfl⟩ := aw_so h
    exact x_iret (pc := 53) dX2_limitAt_53
  · have h := aw_pos h c_5
    refine x_aload_n (pc := 18) 0 dX2_limitAt_18 rfl rfl ?_
    refine x_get (pc := 19) dX2_limitAt_19 lk_X2_9 (gc_gauge (i := i0) h0) rfl rfl ?_
    refine x_iload_n (pc := 22) 2 dX2_limitAt_22 rfl rfl ?_
    refine x_aload_n (pc := 23) 0 dX2_limitAt_23 rfl rfl ?_
    refine x_get (pc := 24) dX2_limitAt_24 lk_X2_15 (gc_gauge (i := i0) h0) rfl rfl ?_
    refine x_iconst (pc := 27) (w := 1) dX2_limitAt_27 ic_1 ?_
    refine x_aload_n (pc := 28) 0 dX2_limitAt_28 rfl rfl ?_
    refine x_get (pc := 29) dX2_limitAt_29 lk_X2_19 (gc_gauge (i := i0) h0) rfl rfl ?_
    refine x_get (pc := 32) dX2_limitAt_32 lk_X2_23 (gc_cloth (i := i0) (Nat.lt_of_lt_of_le h0 (by decide))) rfl rfl ?_
    refine x_aload_n (pc := 35) 0 dX2_limitAt_35 rfl rfl ?_
    refine x_get (pc := 36) dX2_limitAt_36 lk_X2_19 (gc_gauge (i := i0) h0) rfl rfl ?_
    refine x_get (pc := 39) dX2_limitAt_39 lk_X2_29 (gc_cloth (i := i0) (Nat.lt_of_lt_of_le h0 (by decide))) rfl rfl ?_
    refine x_iload_n (pc := 42) 2 dX2_limitAt_42 rfl rfl ?_
    obtain ⟨r_8, M_9, e_7, h⟩ := aw_bi_e h
    refine x_callV (pc := 43) (As := [.int 1, .int (M_3 (14 + i0) 2), .int (M_3 (14 + i0) 1), .int r_2]) (rest := [.int r_2, .ref (ad (45 + i0))]) (st' := [.int r_8, .int r_2, .ref (ad (45 + i0))]) (w := (some (.int r_8))) dX2_limitAt_43 cw_X2_35 hd1 gc_1 rfl rfl rfl (Nat.le_of_ble_eq_true rfl) (tc_St_gives (d - 1) hh_2 1 (M_3 (14 + i0) 2) (M_3 (14 + i0) 1) r_2 _ _ _ e_7) rfl ?_
    obtain ⟨c_10, h⟩ := aw_ck h
    refine x_iast (pc := 46) dX2_limitAt_46 (gc_limits (i := i0) h0) c_10 ?_
    refine x_aload_n (pc := 47) 0 dX2_limitAt_47 rfl rfl ?_
    refine x_get (pc := 48) dX2_limitAt_48 lk_X2_9 (gc_gauge (i := i0) h0) rfl rfl ?_
    refine x_iload_n (pc := 51) 2 dX2_limitAt_51 rfl rfl ?_
    obtain ⟨c_11, h⟩ := aw_ck h
    refine x_iald (pc := 52) dX2_limitAt_52 (gc_limits (i := i0) h0) c_11 ?_
    obtain ⟨rfl, rfl⟩ := aw_so h
    exact x_iret (pc := 53) dX2_limitAt_53
def fc_Ga_shows (i0 : Nat) (i1 : Nat) (M : aw_M) : Option (Int32 × aw_M) :=
  if (M (3 + i1) 0) = 0 then (
    if (M (3 + i1) 3) = 2 then (
      some (3, M)
    ) else (
      if (M (3 + i1) 3) = 1 then (
        aw_bi (fc_Ga_limitAt i0 (M (3 + i1) 4) M) fun r_10 M_11 => (
        if (M (3 + i1) 5) ≤ r_10 then (
          aw_bi (fc_Ga_off i0 i1 M_11) fun r_14 M_15 => (
          if (-(M_15 (39 + i0) 4)) ≤ r_14 then (
            if r_14 ≤ (M_15 (39 + i0) 4) then (
              some (0, M_15)
            ) else (
              some (2, M_15)
            )
          ) else (
            some (1, M_15)
          )
          )
        ) else (
          some (3, M_11)
        )
        )
      ) else (
        aw_bi (fc_Ga_off i0 i1 M) fun r_5 M_6 => (
        if (-(M_6 (39 + i0) 4)) ≤ r_5 then (
          if r_5 ≤ (M_6 (39 + i0) 4) then (
            some (0, M_6)
          ) else (
            some (2, M_6)
          )
        ) else (
          some (1, M_6)
        )
        )
      )
    )
  ) else (
    some (4, M)
  )
set_option maxRecDepth 20000 in
theorem tc_Ga_shows {l : Launch} {D : va_G} {cy : Nat → ClassId} {ad : Nat → Nat} {A : Nat → Prop} (d : Nat) (hd : 4 ≤ d) (i0 : Nat) (h0 : i0 < 6) (i1 : Nat) (h1 : i1 < 3) (M : aw_M) (r : Int32) (M1 : aw_M) (h : fc_Ga_shows i0 i1 M = some (r, M1)) : AX l D cy ad A gc_G yX2_shows cX2_shows 3 (some .int) d [.ref (ad (39 + i0)), .ref (ad (3 + i1))] M (some (.int r)) M1 := by
  have hd1 : (d - 1) + 1 ≤ d := by omega
  have hm1 : 1 ≤ d := by omega
  have hh_0 : 0 ≤ d - 1 := by omega
  have hh_3 : 3 ≤ d - 1 := by omega
  refine AX.of (own := RX2) (by decide +kernel) rfl (Nat.le_of_ble_eq_true rfl) ?_
  unfold fc_Ga_shows at h
  show AW l D cy ad A gc_G RX2 cX2_shows 3 (some .int) d (some (.int r)) M1 0 [(0, .ref (ad (39 + i0))), (1, .ref (ad (3 + i1)))] [] M
  refine x_aload_n (pc := 0) 1 dX2_shows_0 rfl rfl ?_
  refine x_get (pc := 1) dX2_shows_1 lk_X2_70 (gc_mach (i := i1) h1) rfl rfl ?_
  refine x_if_eq (pc := 4) 9 dX2_shows_4 (by decide) (fun c_1 => ?_) (fun c_1 => ?_)
  · have h := aw_pos h c_1
    refine x_aload_n (pc := 9) 1 dX2_shows_9 rfl rfl ?_
    refine x_get (pc := 10) dX2_shows_10 lk_X2_73 (gc_mach (i := i1) h1) rfl rfl ?_
    refine x_iconst (pc := 13) (w := 2) dX2_shows_13 ic_2 ?_
    refine x_icmp_eq (pc := 14) 40 dX2_shows_14 (by decide) (fun c_2 => ?_) (fun c_2 => ?_)
    · have h := aw_pos h c_2
      refine x_iconst (pc := 40) (w := 3) dX2_shows_40 ic_3 ?_
      obtain ⟨rfl, rfl⟩ := aw_so h
      exact x_iret (pc := 41) dX2_shows_41
    · have h := aw_neg h c_2
      refine x_aload_n (pc := 17) 1 dX2_shows_17 rfl rfl ?_
      refine x_get (pc := 18) dX2_shows_18 lk_X2_73 (gc_mach (i := i1) h1) rfl rfl ?_
      refine x_iconst (pc := 21) (w := 1) dX2_shows_21 ic_1 ?_
      refine x_icmp_ne (pc := 22) 42 dX2_shows_22 (by decide) (fun c_3 => ?_) (fun c_3 => ?_)
      · have h := aw_neg h c_3
        refine x_aload_n (pc := 42) 0 dX2_shows_42 rfl rfl ?_
        refine x_aload_n (pc := 43) 1 dX2_shows_43 rfl rfl ?_
        obtain ⟨r_5, M_6, e_4, h⟩ := aw_bi_e h
        refine x_callV (pc := 44) (As := [.ref (ad (3 + i1))]) (rest := []) (st' := [.int r_5]) (w := (some (.int r_5))) dX2_shows_44 cw_X2_83 hd1 (gc_gauge (i := i0) h0) rfl rfl rfl (Nat.le_of_ble_eq_true rfl) (tc_Ga_off (d - 1) hh_0 i0 h0 i1 h1 _ _ _ e_4) rfl ?_
        refine x_istore_n (pc := 47) 2 [(2, .int r_5), (0, .ref (ad (39 + i0))), (1, .ref (ad (3 + i1)))] dX2_shows_47 rfl (by decide) rfl ?_
        refine x_iload_n (pc := 48) 2 dX2_shows_48 rfl rfl ?_
        refine x_aload_n (pc := 49) 0 dX2_shows_49 rfl rfl ?_
        refine x_get (pc := 50) dX2_shows_50 lk_X2_51 (gc_gauge (i := i0) h0) rfl rfl ?_
        refine x_ineg (pc := 53) dX2_shows_53 ?_
        refine x_icmp_ge (pc := 54) 59 dX2_shows_54 (by decide) (fun c_7 => ?_) (fun c_7 => ?_)
        · have h := aw_pos h c_7
          refine x_iload_n (pc := 59) 2 dX2_shows_59 rfl rfl ?_
          refine x_aload_n (pc := 60) 0 dX2_shows_60 rfl rfl ?_
          refine x_get (pc := 61) dX2_shows_61 lk_X2_51 (gc_gauge (i := i0) h0) rfl rfl ?_
          refine x_icmp_le (pc := 64) 71 dX2_shows_64 (by decide) (fun c_8 => ?_) (fun c_8 => ?_)
          · have h := aw_pos h c_8
            refine x_iconst (pc := 71) (w := 0) dX2_shows_71 ic_0 ?_
            obtain ⟨rfl, rfl⟩ := aw_so h
            exact x_iret (pc := 72) dX2_shows_72
          · have h := aw_neg h c_8
            refine x_iconst (pc := 67) (w := 2) dX2_shows_67 ic_2 ?_
            refine x_goto (pc := 68) 72 dX2_shows_68 (by decide) ?_
            obtain ⟨rfl, rfl⟩ := aw_so h
            exact x_iret (pc := 72) dX2_shows_72
        · have h := aw_neg h c_7
          refine x_iconst (pc := 57) (w := 1) dX2_shows_57 ic_1 ?_
          obtain ⟨rfl, rfl⟩ := aw_so h
          exact x_iret (pc := 58) dX2_shows_58
      · have h := aw_pos h c_3
        refine x_aload_n (pc := 25) 1 dX2_shows_25 rfl rfl ?_
        refine x_get (pc := 26) dX2_shows_26 lk_X2_76 (gc_mach (i := i1) h1) rfl rfl ?_
        refine x_aload_n (pc := 29) 0 dX2_shows_29 rfl rfl ?_
        refine x_aload_n (pc := 30) 1 dX2_shows_30 rfl rfl ?_
        refine x_get (pc := 31) dX2_shows_31 lk_X2_67 (gc_mach (i := i1) h1) rfl rfl ?_
        obtain ⟨r_10, M_11, e_9, h⟩ := aw_bi_e h
        refine x_callV (pc := 34) (As := [.int (M (3 + i1) 4)]) (rest := [.int (M (3 + i1) 5)]) (st' := [.int r_10, .int (M (3 + i1) 5)]) (w := (some (.int r_10))) dX2_shows_34 cw_X2_79 hd1 (gc_gauge (i := i0) h0) rfl rfl rfl (Nat.le_of_ble_eq_true rfl) (tc_Ga_limitAt (d - 1) hh_3 i0 h0 (M (3 + i1) 4) _ _ _ e_9) rfl ?_
        refine x_icmp_le (pc := 37) 42 dX2_shows_37 (by decide) (fun c_12 => ?_) (fun c_12 => ?_)
        · have h := aw_pos h c_12
          refine x_aload_n (pc := 42) 0 dX2_shows_42 rfl rfl ?_
          refine x_aload_n (pc := 43) 1 dX2_shows_43 rfl rfl ?_
          obtain ⟨r_14, M_15, e_13, h⟩ := aw_bi_e h
          refine x_callV (pc := 44) (As := [.ref (ad (3 + i1))]) (rest := []) (st' := [.int r_14]) (w := (some (.int r_14))) dX2_shows_44 cw_X2_83 hd1 (gc_gauge (i := i0) h0) rfl rfl rfl (Nat.le_of_ble_eq_true rfl) (tc_Ga_off (d - 1) hh_0 i0 h0 i1 h1 _ _ _ e_13) rfl ?_
          refine x_istore_n (pc := 47) 2 [(2, .int r_14), (0, .ref (ad (39 + i0))), (1, .ref (ad (3 + i1)))] dX2_shows_47 rfl (by decide) rfl ?_
          refine x_iload_n (pc := 48) 2 dX2_shows_48 rfl rfl ?_
          refine x_aload_n (pc := 49) 0 dX2_shows_49 rfl rfl ?_
          refine x_get (pc := 50) dX2_shows_50 lk_X2_51 (gc_gauge (i := i0) h0) rfl rfl ?_
          refine x_ineg (pc := 53) dX2_shows_53 ?_
          refine x_icmp_ge (pc := 54) 59 dX2_shows_54 (by decide) (fun c_16 => ?_) (fun c_16 => ?_)
          · have h := aw_pos h c_16
            refine x_iload_n (pc := 59) 2 dX2_shows_59 rfl rfl ?_
            refine x_aload_n (pc := 60) 0 dX2_shows_60 rfl rfl ?_
            refine x_get (pc := 61) dX2_shows_61 lk_X2_51 (gc_gauge (i := i0) h0) rfl rfl ?_
            refine x_icmp_le (pc := 64) 71 dX2_shows_64 (by decide) (fun c_17 => ?_) (fun c_17 => ?_)
            · have h := aw_pos h c_17
              refine x_iconst (pc := 71) (w := 0) dX2_shows_71 ic_0 ?_
              obtain ⟨rfl, rfl⟩ := aw_so h
              exact x_iret (pc := 72) dX2_shows_72
            · have h := aw_neg h c_17
              refine x_iconst (pc := 67) (w := 2) dX2_shows_67 ic_2 ?_
              refine x_goto (pc := 68) 72 dX2_shows_68 (by decide) ?_
              obtain ⟨rfl, rfl⟩ := aw_so h
              exact x_iret (pc := 72) dX2_shows_72
          · have h := aw_neg h c_16
            refine x_iconst (pc := 57) (w := 1) dX2_shows_57 ic_1 ?_
            obtain ⟨rfl, rfl⟩ := aw_so h
            exact x_iret (pc := 58) dX2_shows_58
        · have h := aw_neg h c_12
          refine x_iconst (pc := 40) (w := 3) dX2_shows_40 ic_3 ?_
          obtain ⟨rfl, rfl⟩ := aw_so h
          exact x_iret (pc := 41) dX2_shows_41
  · have h := aw_neg h c_1
    refine x_iconst (pc := 7) (w := 4) dX2_shows_7 ic_4 ?_
    obtain ⟨rfl, rfl⟩ := aw_so h
    exact x_iret (pc := 8) dX2_shows_8
def fc_La_take (i0 : Nat) (o1 : Nat) (p2 : Int32) (M : aw_M) : Option aw_M :=
  aw_bi (fc_LB_held p2 0 (aw_min 50 50) M) fun r_2 M_3 => (
  if ¬ (¬ (0 : Int32) < 0 ∧ ¬ (0 : Int32) < 0 ∧ ¬ ((aw_u M_3 (26 + i0) 2 r_2) (26 + i0) 2) < 0 ∧ (0 : Int32).toNatClampNeg + ((aw_u M_3 (26 + i0) 2 r_2) (26 + i0) 2).toNatClampNeg ≤ 50 ∧ (0 : Int32).toNatClampNeg + ((aw_u M_3 (26 + i0) 2 r_2) (26 + i0) 2).toNatClampNeg ≤ 50) then none else (
  some (aw_un (aw_u M_3 (26 + i0) 2 r_2) (30 + i0) (va_cpy ((aw_u M_3 (26 + i0) 2 r_2) o1) ((aw_u M_3 (26 + i0) 2 r_2) (30 + i0)) (0 : Int32).toNatClampNeg (0 : Int32).toNatClampNeg ((aw_u M_3 (26 + i0) 2 r_2) (26 + i0) 2).toNatClampNeg))
  )
  )
set_option maxRecDepth 20000 in
theorem tc_La_take {l : Launch} {D : va_G} {cy : Nat → ClassId} {ad : Nat → Nat} {A : Nat → Prop} (d : Nat) (hd : 2 ≤ d) (i0 : Nat) (h0 : i0 < 4) (o1 : Nat) (g1 : gc_G[o1]? = some (1, 50, [])) (p2 : Int32) (M : aw_M) (M1 : aw_M) (h : fc_La_take i0 o1 p2 M = some M1) : AX l D cy ad A gc_G yX3_take cX3_take 3 none d [.ref (ad (26 + i0)), .ref (ad o1), .int p2] M none M1 := by
  have hd1 : (d - 1) + 1 ≤ d := by omega
  have hm1 : 1 ≤ d := by omega
  have hh_1 : 1 ≤ d - 1 := by omega
  refine AX.of (own := RX3) (by decide +kernel) rfl (Nat.le_of_ble_eq_true rfl) ?_
  unfold fc_La_take at h
  show AW l D cy ad A gc_G RX3 cX3_take 3 none d none M1 0 [(0, .ref (ad (26 + i0))), (1, .ref (ad o1)), (2, .int p2)] [] M
  refine x_aload_n (pc := 0) 0 dX3_take_0 rfl rfl ?_
  refine x_iload_n (pc := 1) 2 dX3_take_1 rfl rfl ?_
  refine x_iconst (pc := 2) (w := 0) dX3_take_2 ic_0 ?_
  refine x_aload_n (pc := 3) 1 dX3_take_3 rfl rfl ?_
  refine x_alen (pc := 4) (w := 50) dX3_take_4 g1 rfl ?_
  refine x_bipush (pc := 5) (w := 50) dX3_take_5 bi_50 ?_
  refine x_min (pc := 7) dX3_take_7 (tb_in (i := 659) (by decide +kernel) rfl) hm1 (Nat.le_of_ble_eq_true rfl) ?_
  obtain ⟨r_2, M_3, e_1, h⟩ := aw_bi_e h
  refine x_callSN (pc := 10) (As := [.int p2, .int 0, .int (aw_min 50 50)]) (rest := [.ref (ad (26 + i0))]) (st' := [.int r_2, .ref (ad (26 + i0))]) (w := (some (.int r_2))) (host := "LoopsBelow") dX3_take_10 (by decide +kernel) cw_X3_24 hd1 rfl rfl (Nat.le_of_ble_eq_true rfl) (tc_LB_held (d - 1) hh_1 p2 0 (aw_min 50 50) _ _ _ e_1) rfl ?_
  refine x_put (pc := 13) (x := r_2) dX3_take_13 lk_X3_28 lp_X3_2 (gc_law (i := i0) h0) rfl rfl rfl rfl ?_
  refine x_aload_n (pc := 16) 1 dX3_take_16 rfl rfl ?_
  refine x_iconst (pc := 17) (w := 0) dX3_take_17 ic_0 ?_
  refine x_aload_n (pc := 18) 0 dX3_take_18 rfl rfl ?_
  refine x_get (pc := 19) dX3_take_19 lk_X3_9 (gc_law (i := i0) h0) rfl rfl ?_
  refine x_iconst (pc := 22) (w := 0) dX3_take_22 ic_0 ?_
  refine x_aload_n (pc := 23) 0 dX3_take_23 rfl rfl ?_
  refine x_get (pc := 24) dX3_take_24 lk_X3_28 (gc_law (i := i0) h0) rfl rfl ?_
  obtain ⟨c_4, h⟩ := aw_ck h
  obtain ⟨c_4_1, c_4_2, c_4_3, c_4_4, c_4_5⟩ := Classical.not_not.mp c_4
  refine x_copyi (pc := 27) dX3_take_27 (tb_in (i := 661) (by decide +kernel) rfl) hm1 (Nat.le_of_ble_eq_true rfl) g1 (gc_lsteps (i := i0) h0) c_4_1 c_4_2 c_4_3 c_4_4 c_4_5 ?_
  obtain rfl := aw_sv h
  exact x_vret (pc := 30) dX3_take_30
def fc_Ma_mostOf (p0 : Int32) (M : aw_M) : Option (Int32 × aw_M) :=
  if p0 = 0 then (
    some (1, M)
  ) else (
    if p0 = 1 then (
      some (9, M)
    ) else (
      if p0 = 2 then (
        some (9, M)
      ) else (
        if p0 = 3 then (
          some (2, M)
        ) else (
          if p0 = 4 then (
            some (99, M)
          ) else (
            if p0 = 5 then (
              some (9, M)
            ) else (
              some ((-1), M)
            )
          )
        )
      )
    )
  )
set_option maxRecDepth 20000 in
theorem tc_Ma_mostOf {l : Launch} {D : va_G} {cy : Nat → ClassId} {ad : Nat → Nat} {A : Nat → Prop} (d : Nat) (hd : 0 ≤ d) (p0 : Int32) (M : aw_M) (r : Int32) (M1 : aw_M) (h : fc_Ma_mostOf p0 M = some (r, M1)) : AX l D cy ad A gc_G yX4_mostOf cX4_mostOf 1 (some .int) d [.int p0] M (some (.int r)) M1 := by
  refine AX.of (own := RX4) (by decide +kernel) rfl (Nat.le_of_ble_eq_true rfl) ?_
  unfold fc_Ma_mostOf at h
  show AW l D cy ad A gc_G RX4 cX4_mostOf 1 (some .int) d (some (.int r)) M1 0 [(0, .int p0)] [] M
  refine x_iload_n (pc := 0) 0 dX4_mostOf_0 rfl rfl ?_
  by_cases c_1 : p0 = 0
  · have h := aw_pos h c_1
    refine x_tin (pc := 1) (off := 39) 0 40 dX4_mostOf_1 c_1 (by decide) (by decide) rfl (by decide) ?_
    refine x_iconst (pc := 40) (w := 1) dX4_mostOf_40 ic_1 ?_
    obtain ⟨rfl, rfl⟩ := aw_so h
    exact x_iret (pc := 41) dX4_mostOf_41
  · have h := aw_neg h c_1
    by_cases c_2 : p0 = 1
    · have h := aw_pos h c_2
      refine x_tin (pc := 1) (off := 41) 1 42 dX4_mostOf_1 c_2 (by decide) (by decide) rfl (by decide) ?_
      refine x_bipush (pc := 42) (w := 9) dX4_mostOf_42 bi_9 ?_
      obtain ⟨rfl, rfl⟩ := aw_so h
      exact x_iret (pc := 44) dX4_mostOf_44
    · have h := aw_neg h c_2
      by_cases c_3 : p0 = 2
      · have h := aw_pos h c_3
        refine x_tin (pc := 1) (off := 44) 2 45 dX4_mostOf_1 c_3 (by decide) (by decide) rfl (by decide) ?_
        refine x_bipush (pc := 45) (w := 9) dX4_mostOf_45 bi_9 ?_
        obtain ⟨rfl, rfl⟩ := aw_so h
        exact x_iret (pc := 47) dX4_mostOf_47
      · have h := aw_neg h c_3
        by_cases c_4 : p0 = 3
        · have h := aw_pos h c_4
          refine x_tin (pc := 1) (off := 47) 3 48 dX4_mostOf_1 c_4 (by decide) (by decide) rfl (by decide) ?_
          refine x_iconst (pc := 48) (w := 2) dX4_mostOf_48 ic_2 ?_
          obtain ⟨rfl, rfl⟩ := aw_so h
          exact x_iret (pc := 49) dX4_mostOf_49
        · have h := aw_neg h c_4
          by_cases c_5 : p0 = 4
          · have h := aw_pos h c_5
            refine x_tin (pc := 1) (off := 49) 4 50 dX4_mostOf_1 c_5 (by decide) (by decide) rfl (by decide) ?_
            refine x_bipush (pc := 50) (w := 99) dX4_mostOf_50 bi_99 ?_
            obtain ⟨rfl, rfl⟩ := aw_so h
            exact x_iret (pc := 52) dX4_mostOf_52
          · have h := aw_neg h c_5
            by_cases c_6 : p0 = 5
            · have h := aw_pos h c_6
              refine x_tin (pc := 1) (off := 52) 5 53 dX4_mostOf_1 c_6 (by decide) (by decide) rfl (by decide) ?_
              refine x_bipush (pc := 53) (w := 9) dX4_mostOf_53 bi_9 ?_
              obtain ⟨rfl, rfl⟩ := aw_so h
              exact x_iret (pc := 55) dX4_mostOf_55
            · have h := aw_neg h c_6
              refine x_tout (pc := 1) 56 dX4_mostOf_1 (by have z0 := lv_neT c_1 (a := 0) rfl; have z1 := lv_neT c_2 (a := 1) rfl; have z2 := lv_neT c_3 (a := 2) rfl; have z3 := lv_neT c_4 (a := 3) rfl; have z4 := lv_neT c_5 (a := 4) rfl; have z5 := lv_neT c_6 (a := 5) rfl; omega) (by decide) ?_
              refine x_iconst (pc := 56) (w := (-1)) dX4_mostOf_56 ic_m1 ?_
              obtain ⟨rfl, rfl⟩ := aw_so h
              exact x_iret (pc := 57) dX4_mostOf_57
def fc_Ma_part (i0 : Nat) (p1 : Int32) (M : aw_M) : Option (Int32 × aw_M) :=
  if p1 = 0 then (
    some ((M (3 + i0) 0), M)
  ) else (
    if p1 = 1 then (
      some ((M (3 + i0) 1), M)
    ) else (
      if p1 = 2 then (
        some ((M (3 + i0) 2), M)
      ) else (
        if p1 = 3 then (
          some ((M (3 + i0) 3), M)
        ) else (
          if p1 = 4 then (
            some ((M (3 + i0) 4), M)
          ) else (
            some ((M (3 + i0) 5), M)
          )
        )
      )
    )
  )
set_option maxRecDepth 20000 in
theorem tc_Ma_part {l : Launch} {D : va_G} {cy : Nat → ClassId} {ad : Nat → Nat} {A : Nat → Prop} (d : Nat) (hd : 0 ≤ d) (i0 : Nat) (h0 : i0 < 3) (p1 : Int32) (M : aw_M) (r : Int32) (M1 : aw_M) (h : fc_Ma_part i0 p1 M = some (r, M1)) : AX l D cy ad A gc_G yX4_part cX4_part 2 (some .int) d [.ref (ad (3 + i0)), .int p1] M (some (.int r)) M1 := by
  refine AX.of (own := RX4) (by decide +kernel) rfl (Nat.le_of_ble_eq_true rfl) ?_
  unfold fc_Ma_part at h
  show AW l D cy ad A gc_G RX4 cX4_part 2 (some .int) d (some (.int r)) M1 0 [(0, .ref (ad (3 + i0))), (1, .int p1)] [] M
  refine x_iload_n (pc := 0) 1 dX4_part_0 rfl rfl ?_
  by_cases c_1 : p1 = 0
  · have h := aw_pos h c_1
    refine x_tin (pc := 1) (off := 35) 0 36 dX4_part_1 c_1 (by decide) (by decide) rfl (by decide) ?_
    refine x_aload_n (pc := 36) 0 dX4_part_36 rfl rfl ?_
    refine x_get (pc := 37) dX4_part_37 lk_X4_9 (gc_mach (i := i0) h0) rfl rfl ?_
    obtain ⟨rfl, rfl⟩ := aw_so h
    exact x_iret (pc := 40) dX4_part_40
  · have h := aw_neg h c_1
    by_cases c_2 : p1 = 1
    · have h := aw_pos h c_2
      refine x_tin (pc := 1) (off := 40) 1 41 dX4_part_1 c_2 (by decide) (by decide) rfl (by decide) ?_
      refine x_aload_n (pc := 41) 0 dX4_part_41 rfl rfl ?_
      refine x_get (pc := 42) dX4_part_42 lk_X4_15 (gc_mach (i := i0) h0) rfl rfl ?_
      obtain ⟨rfl, rfl⟩ := aw_so h
      exact x_iret (pc := 45) dX4_part_45
    · have h := aw_neg h c_2
      by_cases c_3 : p1 = 2
      · have h := aw_pos h c_3
        refine x_tin (pc := 1) (off := 45) 2 46 dX4_part_1 c_3 (by decide) (by decide) rfl (by decide) ?_
        refine x_aload_n (pc := 46) 0 dX4_part_46 rfl rfl ?_
        refine x_get (pc := 47) dX4_part_47 lk_X4_18 (gc_mach (i := i0) h0) rfl rfl ?_
        obtain ⟨rfl, rfl⟩ := aw_so h
        exact x_iret (pc := 50) dX4_part_50
      · have h := aw_neg h c_3
        by_cases c_4 : p1 = 3
        · have h := aw_pos h c_4
          refine x_tin (pc := 1) (off := 50) 3 51 dX4_part_1 c_4 (by decide) (by decide) rfl (by decide) ?_
          refine x_aload_n (pc := 51) 0 dX4_part_51 rfl rfl ?_
          refine x_get (pc := 52) dX4_part_52 lk_X4_21 (gc_mach (i := i0) h0) rfl rfl ?_
          obtain ⟨rfl, rfl⟩ := aw_so h
          exact x_iret (pc := 55) dX4_part_55
        · have h := aw_neg h c_4
          by_cases c_5 : p1 = 4
          · have h := aw_pos h c_5
            refine x_tin (pc := 1) (off := 55) 4 56 dX4_part_1 c_5 (by decide) (by decide) rfl (by decide) ?_
            refine x_aload_n (pc := 56) 0 dX4_part_56 rfl rfl ?_
            refine x_get (pc := 57) dX4_part_57 lk_X4_24 (gc_mach (i := i0) h0) rfl rfl ?_
            obtain ⟨rfl, rfl⟩ := aw_so h
            exact x_iret (pc := 60) dX4_part_60
          · have h := aw_neg h c_5
            refine x_tout (pc := 1) 61 dX4_part_1 (by have z0 := lv_neT c_1 (a := 0) rfl; have z1 := lv_neT c_2 (a := 1) rfl; have z2 := lv_neT c_3 (a := 2) rfl; have z3 := lv_neT c_4 (a := 3) rfl; have z4 := lv_neT c_5 (a := 4) rfl; omega) (by decide) ?_
            refine x_aload_n (pc := 61) 0 dX4_part_61 rfl rfl ?_
            refine x_get (pc := 62) dX4_part_62 lk_X4_27 (gc_mach (i := i0) h0) rfl rfl ?_
            obtain ⟨rfl, rfl⟩ := aw_so h
            exact x_iret (pc := 65) dX4_part_65
def fc_Ma_turnPart (i0 : Nat) (p1 : Int32) (p2 : Int32) (M : aw_M) : Option aw_M :=
  if p1 = 0 then (
    some (aw_u M (3 + i0) 0 p2)
  ) else (
    if p1 = 1 then (
      some (aw_u M (3 + i0) 1 p2)
    ) else (
      if p1 = 2 then (
        some (aw_u M (3 + i0) 2 p2)
      ) else (
        if p1 = 3 then (
          some (aw_u M (3 + i0) 3 p2)
        ) else (
          if p1 = 4 then (
            some (aw_u M (3 + i0) 4 p2)
          ) else (
            some (aw_u M (3 + i0) 5 p2)
          )
        )
      )
    )
  )
set_option maxRecDepth 20000 in
theorem tc_Ma_turnPart {l : Launch} {D : va_G} {cy : Nat → ClassId} {ad : Nat → Nat} {A : Nat → Prop} (d : Nat) (hd : 0 ≤ d) (i0 : Nat) (h0 : i0 < 3) (p1 : Int32) (p2 : Int32) (M : aw_M) (M1 : aw_M) (h : fc_Ma_turnPart i0 p1 p2 M = some M1) : AX l D cy ad A gc_G yX4_turnPart cX4_turnPart 3 none d [.ref (ad (3 + i0)), .int p1, .int p2] M none M1 := by
  refine AX.of (own := RX4) (by decide +kernel) rfl (Nat.le_of_ble_eq_true rfl) ?_
  unfold fc_Ma_turnPart at h
  show AW l D cy ad A gc_G RX4 cX4_turnPart 3 none d none M1 0 [(0, .ref (ad (3 + i0))), (1, .int p1), (2, .int p2)] [] M
  refine x_iload_n (pc := 0) 1 dX4_turnPart_0 rfl rfl ?_
  by_cases c_1 : p1 = 0
  · have h := aw_pos h c_1
    refine x_tin (pc := 1) (off := 35) 0 36 dX4_turnPart_1 c_1 (by decide) (by decide) rfl (by decide) ?_
    refine x_aload_n (pc := 36) 0 dX4_turnPart_36 rfl rfl ?_
    refine x_iload_n (pc := 37) 2 dX4_turnPart_37 rfl rfl ?_
    refine x_put (pc := 38) (x := p2) dX4_turnPart_38 lk_X4_9 lp_X4_0 (gc_mach (i := i0) h0) rfl rfl rfl rfl ?_
    refine x_goto (pc := 41) 81 dX4_turnPart_41 (by decide) ?_
    obtain rfl := aw_sv h
    exact x_vret (pc := 81) dX4_turnPart_81
  · have h := aw_neg h c_1
    by_cases c_2 : p1 = 1
    · have h := aw_pos h c_2
      refine x_tin (pc := 1) (off := 43) 1 44 dX4_turnPart_1 c_2 (by decide) (by decide) rfl (by decide) ?_
      refine x_aload_n (pc := 44) 0 dX4_turnPart_44 rfl rfl ?_
      refine x_iload_n (pc := 45) 2 dX4_turnPart_45 rfl rfl ?_
      refine x_put (pc := 46) (x := p2) dX4_turnPart_46 lk_X4_15 lp_X4_1 (gc_mach (i := i0) h0) rfl rfl rfl rfl ?_
      refine x_goto (pc := 49) 81 dX4_turnPart_49 (by decide) ?_
      obtain rfl := aw_sv h
      exact x_vret (pc := 81) dX4_turnPart_81
    · have h := aw_neg h c_2
      by_cases c_3 : p1 = 2
      · have h := aw_pos h c_3
        refine x_tin (pc := 1) (off := 51) 2 52 dX4_turnPart_1 c_3 (by decide) (by decide) rfl (by decide) ?_
        refine x_aload_n (pc := 52) 0 dX4_turnPart_52 rfl rfl ?_
        refine x_iload_n (pc := 53) 2 dX4_turnPart_53 rfl rfl ?_
        refine x_put (pc := 54) (x := p2) dX4_turnPart_54 lk_X4_18 lp_X4_2 (gc_mach (i := i0) h0) rfl rfl rfl rfl ?_
        refine x_goto (pc := 57) 81 dX4_turnPart_57 (by decide) ?_
        obtain rfl := aw_sv h
        exact x_vret (pc := 81) dX4_turnPart_81
      · have h := aw_neg h c_3
        by_cases c_4 : p1 = 3
        · have h := aw_pos h c_4
          refine x_tin (pc := 1) (off := 59) 3 60 dX4_turnPart_1 c_4 (by decide) (by decide) rfl (by decide) ?_
          refine x_aload_n (pc := 60) 0 dX4_turnPart_60 rfl rfl ?_
          refine x_iload_n (pc := 61) 2 dX4_turnPart_61 rfl rfl ?_
          refine x_put (pc := 62) (x := p2) dX4_turnPart_62 lk_X4_21 lp_X4_3 (gc_mach (i := i0) h0) rfl rfl rfl rfl ?_
          refine x_goto (pc := 65) 81 dX4_turnPart_65 (by decide) ?_
          obtain rfl := aw_sv h
          exact x_vret (pc := 81) dX4_turnPart_81
        · have h := aw_neg h c_4
          by_cases c_5 : p1 = 4
          · have h := aw_pos h c_5
            refine x_tin (pc := 1) (off := 67) 4 68 dX4_turnPart_1 c_5 (by decide) (by decide) rfl (by decide) ?_
            refine x_aload_n (pc := 68) 0 dX4_turnPart_68 rfl rfl ?_
            refine x_iload_n (pc := 69) 2 dX4_turnPart_69 rfl rfl ?_
            refine x_put (pc := 70) (x := p2) dX4_turnPart_70 lk_X4_24 lp_X4_4 (gc_mach (i := i0) h0) rfl rfl rfl rfl ?_
            refine x_goto (pc := 73) 81 dX4_turnPart_73 (by decide) ?_
            obtain rfl := aw_sv h
            exact x_vret (pc := 81) dX4_turnPart_81
          · have h := aw_neg h c_5
            refine x_tout (pc := 1) 76 dX4_turnPart_1 (by have z0 := lv_neT c_1 (a := 0) rfl; have z1 := lv_neT c_2 (a := 1) rfl; have z2 := lv_neT c_3 (a := 2) rfl; have z3 := lv_neT c_4 (a := 3) rfl; have z4 := lv_neT c_5 (a := 4) rfl; omega) (by decide) ?_
            refine x_aload_n (pc := 76) 0 dX4_turnPart_76 rfl rfl ?_
            refine x_iload_n (pc := 77) 2 dX4_turnPart_77 rfl rfl ?_
            refine x_put (pc := 78) (x := p2) dX4_turnPart_78 lk_X4_27 lp_X4_5 (gc_mach (i := i0) h0) rfl rfl rfl rfl ?_
            obtain rfl := aw_sv h
            exact x_vret (pc := 81) dX4_turnPart_81
def fc_Ma_copyFrom (i0 : Nat) (i1 : Nat) (M : aw_M) : Option aw_M :=
  some (aw_u (aw_u (aw_u (aw_u (aw_u (aw_u M (3 + i0) 0 (M (3 + i1) 0)) (3 + i0) 1 ((aw_u M (3 + i0) 0 (M (3 + i1) 0)) (3 + i1) 1)) (3 + i0) 2 ((aw_u (aw_u M (3 + i0) 0 (M (3 + i1) 0)) (3 + i0) 1 ((aw_u M (3 + i0) 0 (M (3 + i1) 0)) (3 + i1) 1)) (3 + i1) 2)) (3 + i0) 3 ((aw_u (aw_u (aw_u M (3 + i0) 0 (M (3 + i1) 0)) (3 + i0) 1 ((aw_u M (3 + i0) 0 (M (3 + i1) 0)) (3 + i1) 1)) (3 + i0) 2 ((aw_u (aw_u M (3 + i0) 0 (M (3 + i1) 0)) (3 + i0) 1 ((aw_u M (3 + i0) 0 (M (3 + i1) 0)) (3 + i1) 1)) (3 + i1) 2)) (3 + i1) 3)) (3 + i0) 4 ((aw_u (aw_u (aw_u (aw_u M (3 + i0) 0 (M (3 + i1) 0)) (3 + i0) 1 ((aw_u M (3 + i0) 0 (M (3 + i1) 0)) (3 + i1) 1)) (3 + i0) 2 ((aw_u (aw_u M (3 + i0) 0 (M (3 + i1) 0)) (3 + i0) 1 ((aw_u M (3 + i0) 0 (M (3 + i1) 0)) (3 + i1) 1)) (3 + i1) 2)) (3 + i0) 3 ((aw_u (aw_u (aw_u M (3 + i0) 0 (M (3 + i1) 0)) (3 + i0) 1 ((aw_u M (3 + i0) 0 (M (3 + i1) 0)) (3 + i1) 1)) (3 + i0) 2 ((aw_u (aw_u M (3 + i0) 0 (M (3 + i1) 0)) (3 + i0) 1 ((aw_u M (3 + i0) 0 (M (3 + i1) 0)) (3 + i1) 1)) (3 + i1) 2)) (3 + i1) 3)) (3 + i1) 4)) (3 + i0) 5 ((aw_u (aw_u (aw_u (aw_u (aw_u M (3 + i0) 0 (M (3 + i1) 0)) (3 + i0) 1 ((aw_u M (3 + i0) 0 (M (3 + i1) 0)) (3 + i1) 1)) (3 + i0) 2 ((aw_u (aw_u M (3 + i0) 0 (M (3 + i1) 0)) (3 + i0) 1 ((aw_u M (3 + i0) 0 (M (3 + i1) 0)) (3 + i1) 1)) (3 + i1) 2)) (3 + i0) 3 ((aw_u (aw_u (aw_u M (3 + i0) 0 (M (3 + i1) 0)) (3 + i0) 1 ((aw_u M (3 + i0) 0 (M (3 + i1) 0)) (3 + i1) 1)) (3 + i0) 2 ((aw_u (aw_u M (3 + i0) 0 (M (3 + i1) 0)) (3 + i0) 1 ((aw_u M (3 + i0) 0 (M (3 + i1) 0)) (3 + i1) 1)) (3 + i1) 2)) (3 + i1) 3)) (3 + i0) 4 ((aw_u (aw_u (aw_u (aw_u M (3 + i0) 0 (M (3 + i1) 0)) (3 + i0) 1 ((aw_u M (3 + i0) 0 (M (3 + i1) 0)) (3 + i1) 1)) (3 + i0) 2 ((aw_u (aw_u M (3 + i0) 0 (M (3 + i1) 0)) (3 + i0) 1 ((aw_u M (3 + i0) 0 (M (3 + i1) 0)) (3 + i1) 1)) (3 + i1) 2)) (3 + i0) 3 ((aw_u (aw_u (aw_u M (3 + i0) 0 (M (3 + i1) 0)) (3 + i0) 1 ((aw_u M (3 + i0) 0 (M (3 + i1) 0)) (3 + i1) 1)) (3 + i0) 2 ((aw_u (aw_u M (3 + i0) 0 (M (3 + i1) 0)) (3 + i0) 1 ((aw_u M (3 + i0) 0 (M (3 + i1) 0)) (3 + i1) 1)) (3 + i1) 2)) (3 + i1) 3)) (3 + i1) 4)) (3 + i1) 5))
set_option maxRecDepth 20000 in
theorem tc_Ma_copyFrom {l : Launch} {D : va_G} {cy : Nat → ClassId} {ad : Nat → Nat} {A : Nat → Prop} (d : Nat) (hd : 0 ≤ d) (i0 : Nat) (h0 : i0 < 3) (i1 : Nat) (h1 : i1 < 3) (M : aw_M) (M1 : aw_M) (h : fc_Ma_copyFrom i0 i1 M = some M1) : AX l D cy ad A gc_G yX4_copyFrom cX4_copyFrom 2 none d [.ref (ad (3 + i0)), .ref (ad (3 + i1))] M none M1 := by
  refine AX.of (own := RX4) (by decide +kernel) rfl (Nat.le_of_ble_eq_true rfl) ?_
  unfold fc_Ma_copyFrom at h
  show AW l D cy ad A gc_G RX4 cX4_copyFrom 2 none d none M1 0 [(0, .ref (ad (3 + i0))), (1, .ref (ad (3 + i1)))] [] M
  refine x_aload_n (pc := 0) 0 dX4_copyFrom_0 rfl rfl ?_
  refine x_aload_n (pc := 1) 1 dX4_copyFrom_1 rfl rfl ?_
  refine x_get (pc := 2) dX4_copyFrom_2 lk_X4_9 (gc_mach (i := i1) h1) rfl rfl ?_
  refine x_put (pc := 5) (x := (M (3 + i1) 0)) dX4_copyFrom_5 lk_X4_9 lp_X4_0 (gc_mach (i := i0) h0) rfl rfl rfl rfl ?_
  refine x_aload_n (pc := 8) 0 dX4_copyFrom_8 rfl rfl ?_
  refine x_aload_n (pc := 9) 1 dX4_copyFrom_9 rfl rfl ?_
  refine x_get (pc := 10) dX4_copyFrom_10 lk_X4_15 (gc_mach (i := i1) h1) rfl rfl ?_
  refine x_put (pc := 13) (x := ((aw_u M (3 + i0) 0 (M (3 + i1) 0)) (3 + i1) 1)) dX4_copyFrom_13 lk_X4_15 lp_X4_1 (gc_mach (i := i0) h0) rfl rfl rfl rfl ?_
  refine x_aload_n (pc := 16) 0 dX4_copyFrom_16 rfl rfl ?_
  refine x_aload_n (pc := 17) 1 dX4_copyFrom_17 rfl rfl ?_
  refine x_get (pc := 18) dX4_copyFrom_18 lk_X4_18 (gc_mach (i := i1) h1) rfl rfl ?_
  refine x_put (pc := 21) (x := ((aw_u (aw_u M (3 + i0) 0 (M (3 + i1) 0)) (3 + i0) 1 ((aw_u M (3 + i0) 0 (M (3 + i1) 0)) (3 + i1) 1)) (3 + i1) 2)) dX4_copyFrom_21 lk_X4_18 lp_X4_2 (gc_mach (i := i0) h0) rfl rfl rfl rfl ?_
  refine x_aload_n (pc := 24) 0 dX4_copyFrom_24 rfl rfl ?_
  refine x_aload_n (pc := 25) 1 dX4_copyFrom_25 rfl rfl ?_
  refine x_get (pc := 26) dX4_copyFrom_26 lk_X4_21 (gc_mach (i := i1) h1) rfl rfl ?_
  refine x_put (pc := 29) (x := ((aw_u (aw_u (aw_u M (3 + i0) 0 (M (3 + i1) 0)) (3 + i0) 1 ((aw_u M (3 + i0) 0 (M (3 + i1) 0)) (3 + i1) 1)) (3 + i0) 2 ((aw_u (aw_u M (3 + i0) 0 (M (3 + i1) 0)) (3 + i0) 1 ((aw_u M (3 + i0) 0 (M (3 + i1) 0)) (3 + i1) 1)) (3 + i1) 2)) (3 + i1) 3)) dX4_copyFrom_29 lk_X4_21 lp_X4_3 (gc_mach (i := i0) h0) rfl rfl rfl rfl ?_
  refine x_aload_n (pc := 32) 0 dX4_copyFrom_32 rfl rfl ?_
  refine x_aload_n (pc := 33) 1 dX4_copyFrom_33 rfl rfl ?_
  refine x_get (pc := 34) dX4_copyFrom_34 lk_X4_24 (gc_mach (i := i1) h1) rfl rfl ?_
  refine x_put (pc := 37) (x := ((aw_u (aw_u (aw_u (aw_u M (3 + i0) 0 (M (3 + i1) 0)) (3 + i0) 1 ((aw_u M (3 + i0) 0 (M (3 + i1) 0)) (3 + i1) 1)) (3 + i0) 2 ((aw_u (aw_u M (3 + i0) 0 (M (3 + i1) 0)) (3 + i0) 1 ((aw_u M (3 + i0) 0 (M (3 + i1) 0)) (3 + i1) 1)) (3 + i1) 2)) (3 + i0) 3 ((aw_u (aw_u (aw_u M (3 + i0) 0 (M (3 + i1) 0)) (3 + i0) 1 ((aw_u M (3 + i0) 0 (M (3 + i1) 0)) (3 + i1) 1)) (3 + i0) 2 ((aw_u (aw_u M (3 + i0) 0 (M (3 + i1) 0)) (3 + i0) 1 ((aw_u M (3 + i0) 0 (M (3 + i1) 0)) (3 + i1) 1)) (3 + i1) 2)) (3 + i1) 3)) (3 + i1) 4)) dX4_copyFrom_37 lk_X4_24 lp_X4_4 (gc_mach (i := i0) h0) rfl rfl rfl rfl ?_
  refine x_aload_n (pc := 40) 0 dX4_copyFrom_40 rfl rfl ?_
  refine x_aload_n (pc := 41) 1 dX4_copyFrom_41 rfl rfl ?_
  refine x_get (pc := 42) dX4_copyFrom_42 lk_X4_27 (gc_mach (i := i1) h1) rfl rfl ?_
  refine x_put (pc := 45) (x := ((aw_u (aw_u (aw_u (aw_u (aw_u M (3 + i0) 0 (M (3 + i1) 0)) (3 + i0) 1 ((aw_u M (3 + i0) 0 (M (3 + i1) 0)) (3 + i1) 1)) (3 + i0) 2 ((aw_u (aw_u M (3 + i0) 0 (M (3 + i1) 0)) (3 + i0) 1 ((aw_u M (3 + i0) 0 (M (3 + i1) 0)) (3 + i1) 1)) (3 + i1) 2)) (3 + i0) 3 ((aw_u (aw_u (aw_u M (3 + i0) 0 (M (3 + i1) 0)) (3 + i0) 1 ((aw_u M (3 + i0) 0 (M (3 + i1) 0)) (3 + i1) 1)) (3 + i0) 2 ((aw_u (aw_u M (3 + i0) 0 (M (3 + i1) 0)) (3 + i0) 1 ((aw_u M (3 + i0) 0 (M (3 + i1) 0)) (3 + i1) 1)) (3 + i1) 2)) (3 + i1) 3)) (3 + i0) 4 ((aw_u (aw_u (aw_u (aw_u M (3 + i0) 0 (M (3 + i1) 0)) (3 + i0) 1 ((aw_u M (3 + i0) 0 (M (3 + i1) 0)) (3 + i1) 1)) (3 + i0) 2 ((aw_u (aw_u M (3 + i0) 0 (M (3 + i1) 0)) (3 + i0) 1 ((aw_u M (3 + i0) 0 (M (3 + i1) 0)) (3 + i1) 1)) (3 + i1) 2)) (3 + i0) 3 ((aw_u (aw_u (aw_u M (3 + i0) 0 (M (3 + i1) 0)) (3 + i0) 1 ((aw_u M (3 + i0) 0 (M (3 + i1) 0)) (3 + i1) 1)) (3 + i0) 2 ((aw_u (aw_u M (3 + i0) 0 (M (3 + i1) 0)) (3 + i0) 1 ((aw_u M (3 + i0) 0 (M (3 + i1) 0)) (3 + i1) 1)) (3 + i1) 2)) (3 + i1) 3)) (3 + i1) 4)) (3 + i1) 5)) dX4_copyFrom_45 lk_X4_27 lp_X4_5 (gc_mach (i := i0) h0) rfl rfl rfl rfl ?_
  obtain rfl := aw_sv h
  exact x_vret (pc := 48) dX4_copyFrom_48
def fc_Ma_guess (i0 : Nat) (p1 : Int32) (M : aw_M) : Option aw_M :=
  some (aw_u (aw_u (aw_u (aw_u M (3 + i0) 0 (p1 / 300)) (3 + i0) 3 (aw_rem (p1 / 100) 3)) (3 + i0) 1 (aw_rem (p1 / 10) 10)) (3 + i0) 2 (aw_rem p1 10))
set_option maxRecDepth 20000 in
theorem tc_Ma_guess {l : Launch} {D : va_G} {cy : Nat → ClassId} {ad : Nat → Nat} {A : Nat → Prop} (d : Nat) (hd : 0 ≤ d) (i0 : Nat) (h0 : i0 < 3) (p1 : Int32) (M : aw_M) (M1 : aw_M) (h : fc_Ma_guess i0 p1 M = some M1) : AX l D cy ad A gc_G yX4_guess cX4_guess 2 none d [.ref (ad (3 + i0)), .int p1] M none M1 := by
  refine AX.of (own := RX4) (by decide +kernel) rfl (Nat.le_of_ble_eq_true rfl) ?_
  unfold fc_Ma_guess at h
  show AW l D cy ad A gc_G RX4 cX4_guess 2 none d none M1 0 [(0, .ref (ad (3 + i0))), (1, .int p1)] [] M
  refine x_aload_n (pc := 0) 0 dX4_guess_0 rfl rfl ?_
  refine x_iload_n (pc := 1) 1 dX4_guess_1 rfl rfl ?_
  refine x_sipush (pc := 2) (w := 300) dX4_guess_2 si_300 ?_
  refine x_idiv (pc := 5) dX4_guess_5 (by decide) ?_
  refine x_put (pc := 6) (x := (p1 / 300)) dX4_guess_6 lk_X4_9 lp_X4_0 (gc_mach (i := i0) h0) rfl rfl rfl rfl ?_
  refine x_aload_n (pc := 9) 0 dX4_guess_9 rfl rfl ?_
  refine x_iload_n (pc := 10) 1 dX4_guess_10 rfl rfl ?_
  refine x_bipush (pc := 11) (w := 100) dX4_guess_11 bi_100 ?_
  refine x_idiv (pc := 13) dX4_guess_13 (by decide) ?_
  refine x_iconst (pc := 14) (w := 3) dX4_guess_14 ic_3 ?_
  refine x_irem (pc := 15) dX4_guess_15 (by decide) ?_
  refine x_put (pc := 16) (x := (aw_rem (p1 / 100) 3)) dX4_guess_16 lk_X4_21 lp_X4_3 (gc_mach (i := i0) h0) rfl rfl rfl rfl ?_
  refine x_aload_n (pc := 19) 0 dX4_guess_19 rfl rfl ?_
  refine x_iload_n (pc := 20) 1 dX4_guess_20 rfl rfl ?_
  refine x_bipush (pc := 21) (w := 10) dX4_guess_21 bi_10 ?_
  refine x_idiv (pc := 23) dX4_guess_23 (by decide) ?_
  refine x_bipush (pc := 24) (w := 10) dX4_guess_24 bi_10 ?_
  refine x_irem (pc := 26) dX4_guess_26 (by decide) ?_
  refine x_put (pc := 27) (x := (aw_rem (p1 / 10) 10)) dX4_guess_27 lk_X4_15 lp_X4_1 (gc_mach (i := i0) h0) rfl rfl rfl rfl ?_
  refine x_aload_n (pc := 30) 0 dX4_guess_30 rfl rfl ?_
  refine x_iload_n (pc := 31) 1 dX4_guess_31 rfl rfl ?_
  refine x_bipush (pc := 32) (w := 10) dX4_guess_32 bi_10 ?_
  refine x_irem (pc := 34) dX4_guess_34 (by decide) ?_
  refine x_put (pc := 35) (x := (aw_rem p1 10)) dX4_guess_35 lk_X4_18 lp_X4_2 (gc_mach (i := i0) h0) rfl rfl rfl rfl ?_
  obtain rfl := aw_sv h
  exact x_vret (pc := 38) dX4_guess_38
def fc_Ma_yardSeconds (i0 : Nat) (M : aw_M) : Option (Int32 × aw_M) :=
  some ((10 - (M (3 + i0) 5)), M)
set_option maxRecDepth 20000 in
theorem tc_Ma_yardSeconds {l : Launch} {D : va_G} {cy : Nat → ClassId} {ad : Nat → Nat} {A : Nat → Prop} (d : Nat) (hd : 0 ≤ d) (i0 : Nat) (h0 : i0 < 3) (M : aw_M) (r : Int32) (M1 : aw_M) (h : fc_Ma_yardSeconds i0 M = some (r, M1)) : AX l D cy ad A gc_G yX4_yardSeconds cX4_yardSeconds 1 (some .int) d [.ref (ad (3 + i0))] M (some (.int r)) M1 := by
  refine AX.of (own := RX4) (by decide +kernel) rfl (Nat.le_of_ble_eq_true rfl) ?_
  unfold fc_Ma_yardSeconds at h
  show AW l D cy ad A gc_G RX4 cX4_yardSeconds 1 (some .int) d (some (.int r)) M1 0 [(0, .ref (ad (3 + i0)))] [] M
  refine x_bipush (pc := 0) (w := 10) dX4_yardSeconds_0 bi_10 ?_
  refine x_aload_n (pc := 2) 0 dX4_yardSeconds_2 rfl rfl ?_
  refine x_get (pc := 3) dX4_yardSeconds_3 lk_X4_27 (gc_mach (i := i0) h0) rfl rfl ?_
  refine x_isub (pc := 6) dX4_yardSeconds_6 ?_
  obtain ⟨rfl, rfl⟩ := aw_so h
  exact x_iret (pc := 7) dX4_yardSeconds_7
