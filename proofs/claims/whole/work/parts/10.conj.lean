def fc_Jl_canEncode (p0 : Int32) (M : aw_M) : Option (Int32 × aw_M) :=
  if p0 < 0 then (
    some (0, M)
  ) else (
    if (255 : Int32) < p0 then (
      some (0, M)
    ) else (
      some (1, M)
    )
  )
set_option maxRecDepth 20000 in
theorem tc_Jl_canEncode {l : Launch} {D : va_G} {cy : Nat → ClassId} {ad : Nat → Nat} {A : Nat → Prop} (d : Nat) (hd : 0 ≤ d) (p0 : Int32) (M : aw_M) (r : Int32) (M1 : aw_M) (h : fc_Jl_canEncode p0 M = some (r, M1)) : AX l D cy ad A gc_G yJ1_canEncode_9a6ad cJ1_canEncode_9a6ad 1 (some .boolean) d [.int p0] M (some (.int r)) M1 := by
  refine AX.of (own := RJ1) (by decide +kernel) rfl (Nat.le_of_ble_eq_true rfl) ?_
  unfold fc_Jl_canEncode at h
  show AW l D cy ad A gc_G RJ1 cJ1_canEncode_9a6ad 1 (some .boolean) d (some (.int r)) M1 0 [(0, .int p0)] [] M
  refine x_iload_n (pc := 0) 0 dJ1_canEncode_9a6ad_0 rfl rfl ?_
  refine x_if_lt (pc := 1) 15 dJ1_canEncode_9a6ad_1 (by decide) (fun c_1 => ?_) (fun c_1 => ?_)
  · have h := aw_pos h c_1
    refine x_iconst (pc := 15) (w := 0) dJ1_canEncode_9a6ad_15 ic_0 ?_
    obtain ⟨rfl, rfl⟩ := aw_so h
    exact x_zret (pc := 16) aw_b0 dJ1_canEncode_9a6ad_16
  · have h := aw_neg h c_1
    refine x_iload_n (pc := 4) 0 dJ1_canEncode_9a6ad_4 rfl rfl ?_
    refine x_sipush (pc := 5) (w := 255) dJ1_canEncode_9a6ad_5 si_255 ?_
    refine x_icmp_gt (pc := 8) 15 dJ1_canEncode_9a6ad_8 (by decide) (fun c_2 => ?_) (fun c_2 => ?_)
    · have h := aw_pos h c_2
      refine x_iconst (pc := 15) (w := 0) dJ1_canEncode_9a6ad_15 ic_0 ?_
      obtain ⟨rfl, rfl⟩ := aw_so h
      exact x_zret (pc := 16) aw_b0 dJ1_canEncode_9a6ad_16
    · have h := aw_neg h c_2
      refine x_iconst (pc := 11) (w := 1) dJ1_canEncode_9a6ad_11 ic_1 ?_
      refine x_goto (pc := 12) 16 dJ1_canEncode_9a6ad_12 (by decide) ?_
      obtain ⟨rfl, rfl⟩ := aw_so h
      exact x_zret (pc := 16) aw_b1 dJ1_canEncode_9a6ad_16
def fc_Jl_indexOfChar_L7 : Nat → Int32 → Int32 → Int32 → Int32 → aw_M → Option (Int32 × aw_M)
  | 0, _, _, _, _, _ => none
  | n + 1, p0, p3, p4, p5, M =>
    if p3 ≤ p5 then (
      some ((-1), M)
    ) else (
      if 2 ≤ p0.toNatClampNeg then none else (
      if aw_in p5 3 then none else (
      if ((aw_tx.getD p0.toNatClampNeg []).getD p5.toNatClampNeg 0) = p4 then (
        some (p5, M)
      ) else (
        fc_Jl_indexOfChar_L7 n p0 p3 p4 (p5 + 1) M
      )
      )
      )
    )
theorem fc_Jl_indexOfChar_L7_s (n : Nat) (p0 : Int32) (p3 : Int32) (p4 : Int32) (p5 : Int32) (M : aw_M) : fc_Jl_indexOfChar_L7 (n + 1) p0 p3 p4 p5 M = (
    if p3 ≤ p5 then (
      some ((-1), M)
    ) else (
      if 2 ≤ p0.toNatClampNeg then none else (
      if aw_in p5 3 then none else (
      if ((aw_tx.getD p0.toNatClampNeg []).getD p5.toNatClampNeg 0) = p4 then (
        some (p5, M)
      ) else (
        fc_Jl_indexOfChar_L7 n p0 p3 p4 (p5 + 1) M
      )
      )
      )
    )
    ) := rfl
set_option maxRecDepth 20000 in
theorem tc_Jl_indexOfChar_L7 {l : Launch} {D : va_G} {cy : Nat → ClassId} {ad : Nat → Nat} {A : Nat → Prop} (d : Nat) (hd : 0 ≤ d) : ∀ (n : Nat) (p0 : Int32) (p3 : Int32) (p4 : Int32) (p5 : Int32) (M : aw_M) (r : Int32) (M1 : aw_M), fc_Jl_indexOfChar_L7 n p0 p3 p4 p5 M = some (r, M1) → AW l D cy ad A gc_G RJ1 cJ1_indexOfChar_4cfef 6 (some .int) d (some (.int r)) M1 7 [(0, .ref (ad (904 + p0.toNatClampNeg))), (3, .int p3), (4, .int p4), (5, .int p5)] [] M := by
  intro n
  induction n with
  | zero => intro p0 p3 p4 p5 M r M1 h; cases h
  | succ n ih =>
    intro p0 p3 p4 p5 M r M1 h
    rw [fc_Jl_indexOfChar_L7_s] at h
    refine x_iload (pc := 7) dJ1_indexOfChar_4cfef_7 rfl ?_
    refine x_iload_n (pc := 9) 3 dJ1_indexOfChar_4cfef_9 rfl rfl ?_
    refine x_icmp_ge (pc := 10) 31 dJ1_indexOfChar_4cfef_10 (by decide) (fun c_1 => ?_) (fun c_1 => ?_)
    · have h := aw_pos h c_1
      refine x_iconst (pc := 31) (w := (-1)) dJ1_indexOfChar_4cfef_31 ic_m1 ?_
      obtain ⟨rfl, rfl⟩ := aw_so h
      exact x_iret (pc := 32) dJ1_indexOfChar_4cfef_32
    · have h := aw_neg h c_1
      refine x_aload_n (pc := 13) 0 dJ1_indexOfChar_4cfef_13 rfl rfl ?_
      refine x_iload (pc := 14) dJ1_indexOfChar_4cfef_14 rfl ?_
      obtain ⟨c_2, h⟩ := aw_ck h
      obtain ⟨c_3, h⟩ := aw_ck h
      refine x_tbld (pc := 16) dJ1_indexOfChar_4cfef_16 (Nat.lt_of_not_le c_2) c_3 ?_
      refine x_iload (pc := 17) dJ1_indexOfChar_4cfef_17 rfl ?_
      refine x_icmp_ne (pc := 19) 25 dJ1_indexOfChar_4cfef_19 (by decide) (fun c_4 => ?_) (fun c_4 => ?_)
      · have h := aw_neg h c_4
        refine x_iinc (pc := 25) (p5 + 1) [(5, .int (p5 + 1)), (0, .ref (ad (904 + p0.toNatClampNeg))), (3, .int p3), (4, .int p4)] dJ1_indexOfChar_4cfef_25 rfl (congrArg (fun z => p5 + z) ic_1) (by decide) rfl ?_
        refine x_goto (pc := 28) 7 dJ1_indexOfChar_4cfef_28 (by decide) ?_
        refine x_lv [1, 2, 3, 0] [(0, .ref (ad (904 + p0.toNatClampNeg))), (3, .int p3), (4, .int p4), (5, .int (p5 + 1))] rfl ?_
        exact ih p0 p3 p4 (p5 + 1) _ _ _ h
      · have h := aw_pos h c_4
        refine x_iload (pc := 22) dJ1_indexOfChar_4cfef_22 rfl ?_
        obtain ⟨rfl, rfl⟩ := aw_so h
        exact x_iret (pc := 24) dJ1_indexOfChar_4cfef_24
def fc_Jl_indexOfChar (p0 : Int32) (p1 : Int32) (p2 : Int32) (p3 : Int32) (M : aw_M) : Option (Int32 × aw_M) :=
  fc_Jl_indexOfChar_L7  2000 p0 p3 p1.toInt8.toInt32 p2 M
set_option maxRecDepth 20000 in
theorem tc_Jl_indexOfChar {l : Launch} {D : va_G} {cy : Nat → ClassId} {ad : Nat → Nat} {A : Nat → Prop} (d : Nat) (hd : 0 ≤ d) (p0 : Int32) (p1 : Int32) (p2 : Int32) (p3 : Int32) (M : aw_M) (r : Int32) (M1 : aw_M) (h : fc_Jl_indexOfChar p0 p1 p2 p3 M = some (r, M1)) : AX l D cy ad A gc_G yJ1_indexOfChar_4cfef cJ1_indexOfChar_4cfef 6 (some .int) d [.ref (ad (904 + p0.toNatClampNeg)), .int p1, .int p2, .int p3] M (some (.int r)) M1 := by
  refine AX.of (own := RJ1) (by decide +kernel) rfl (Nat.le_of_ble_eq_true rfl) ?_
  unfold fc_Jl_indexOfChar at h
  show AW l D cy ad A gc_G RJ1 cJ1_indexOfChar_4cfef 6 (some .int) d (some (.int r)) M1 0 [(0, .ref (ad (904 + p0.toNatClampNeg))), (1, .int p1), (2, .int p2), (3, .int p3)] [] M
  refine x_iload_n (pc := 0) 1 dJ1_indexOfChar_4cfef_0 rfl rfl ?_
  refine x_i2b (pc := 1) dJ1_indexOfChar_4cfef_1 ?_
  refine x_istore (pc := 2) 4 [(4, .int p1.toInt8.toInt32), (0, .ref (ad (904 + p0.toNatClampNeg))), (1, .int p1), (2, .int p2), (3, .int p3)] dJ1_indexOfChar_4cfef_2 (by decide) rfl ?_
  refine x_iload_n (pc := 4) 2 dJ1_indexOfChar_4cfef_4 rfl rfl ?_
  refine x_istore (pc := 5) 5 [(5, .int p2), (4, .int p1.toInt8.toInt32), (0, .ref (ad (904 + p0.toNatClampNeg))), (1, .int p1), (2, .int p2), (3, .int p3)] dJ1_indexOfChar_4cfef_5 (by decide) rfl ?_
  refine x_lv [2, 5, 1, 0] [(0, .ref (ad (904 + p0.toNatClampNeg))), (3, .int p3), (4, .int p1.toInt8.toInt32), (5, .int p2)] rfl ?_
  exact tc_Jl_indexOfChar_L7 d hd  2000 p0 p3 p1.toInt8.toInt32 p2 _ _ _ h
def fc_Jl_indexOf (p0 : Int32) (p1 : Int32) (p2 : Int32) (p3 : Int32) (M : aw_M) : Option (Int32 × aw_M) :=
  aw_bi (fc_Jl_canEncode p1 M) fun r_2 M_3 => (
  if r_2 = 0 then (
    some ((-1), M_3)
  ) else (
    if 2 ≤ p0.toNatClampNeg then none else (
    if (aw_max p2 0) < (aw_min p3 3) then (
      fc_Jl_indexOfChar p0 p1 (aw_max p2 0) (aw_min p3 3) M_3
    ) else (
      some ((-1), M_3)
    )
    )
  )
  )
set_option maxRecDepth 20000 in
theorem tc_Jl_indexOf {l : Launch} {D : va_G} {cy : Nat → ClassId} {ad : Nat → Nat} {A : Nat → Prop} (d : Nat) (hd : 1 ≤ d) (p0 : Int32) (p1 : Int32) (p2 : Int32) (p3 : Int32) (M : aw_M) (r : Int32) (M1 : aw_M) (h : fc_Jl_indexOf p0 p1 p2 p3 M = some (r, M1)) : AX l D cy ad A gc_G yJ1_indexOf_4cfef cJ1_indexOf_4cfef 4 (some .int) d [.ref (ad (904 + p0.toNatClampNeg)), .int p1, .int p2, .int p3] M (some (.int r)) M1 := by
  have hd1 : (d - 1) + 1 ≤ d := by omega
  have hm1 : 1 ≤ d := by omega
  have hh_0 : 0 ≤ d - 1 := by omega
  refine AX.of (own := RJ1) (by decide +kernel) rfl (Nat.le_of_ble_eq_true rfl) ?_
  unfold fc_Jl_indexOf at h
  show AW l D cy ad A gc_G RJ1 cJ1_indexOf_4cfef 4 (some .int) d (some (.int r)) M1 0 [(0, .ref (ad (904 + p0.toNatClampNeg))), (1, .int p1), (2, .int p2), (3, .int p3)] [] M
  refine x_iload_n (pc := 0) 1 dJ1_indexOf_4cfef_0 rfl rfl ?_
  obtain ⟨r_2, M_3, e_1, h⟩ := aw_bi_e h
  refine x_callS (pc := 1) (As := [.int p1]) (rest := []) (st' := [.int r_2]) (w := (some (.int r_2))) dJ1_indexOf_4cfef_1 cw_J1_88 hd1 rfl rfl (Nat.le_of_ble_eq_true rfl) (tc_Jl_canEncode (d - 1) hh_0 p1 _ _ _ e_1) rfl ?_
  refine x_if_ne (pc := 4) 9 dJ1_indexOf_4cfef_4 (by decide) (fun c_4 => ?_) (fun c_4 => ?_)
  · have h := aw_neg h c_4
    refine x_iload_n (pc := 9) 2 dJ1_indexOf_4cfef_9 rfl rfl ?_
    refine x_iconst (pc := 10) (w := 0) dJ1_indexOf_4cfef_10 ic_0 ?_
    refine x_max (pc := 11) dJ1_indexOf_4cfef_11 (tb_in (i := 589) (by decide +kernel) rfl) hm1 (Nat.le_of_ble_eq_true rfl) ?_
    refine x_istore_n (pc := 14) 2 [(2, .int (aw_max p2 0)), (0, .ref (ad (904 + p0.toNatClampNeg))), (1, .int p1), (3, .int p3)] dJ1_indexOf_4cfef_14 rfl (by decide) rfl ?_
    refine x_iload_n (pc := 15) 3 dJ1_indexOf_4cfef_15 rfl rfl ?_
    refine x_aload_n (pc := 16) 0 dJ1_indexOf_4cfef_16 rfl rfl ?_
    obtain ⟨c_5, h⟩ := aw_ck h
    refine x_tlen (pc := 17) dJ1_indexOf_4cfef_17 (Nat.lt_of_not_le c_5) ?_
    refine x_min (pc := 18) dJ1_indexOf_4cfef_18 (tb_in (i := 590) (by decide +kernel) rfl) hm1 (Nat.le_of_ble_eq_true rfl) ?_
    refine x_istore_n (pc := 21) 3 [(3, .int (aw_min p3 3)), (2, .int (aw_max p2 0)), (0, .ref (ad (904 + p0.toNatClampNeg))), (1, .int p1)] dJ1_indexOf_4cfef_21 rfl (by decide) rfl ?_
    refine x_iload_n (pc := 22) 2 dJ1_indexOf_4cfef_22 rfl rfl ?_
    refine x_iload_n (pc := 23) 3 dJ1_indexOf_4cfef_23 rfl rfl ?_
    refine x_icmp_lt (pc := 24) 29 dJ1_indexOf_4cfef_24 (by decide) (fun c_6 => ?_) (fun c_6 => ?_)
    · have h := aw_pos h c_6
      refine x_aload_n (pc := 29) 0 dJ1_indexOf_4cfef_29 rfl rfl ?_
      refine x_iload_n (pc := 30) 1 dJ1_indexOf_4cfef_30 rfl rfl ?_
      refine x_iload_n (pc := 31) 2 dJ1_indexOf_4cfef_31 rfl rfl ?_
      refine x_iload_n (pc := 32) 3 dJ1_indexOf_4cfef_32 rfl rfl ?_
      refine x_callS (pc := 33) (As := [.ref (ad (904 + p0.toNatClampNeg)), .int p1, .int (aw_max p2 0), .int (aw_min p3 3)]) (rest := []) (st' := [.int r]) (w := (some (.int r))) dJ1_indexOf_4cfef_33 cw_J1_95 hd1 rfl rfl (Nat.le_of_ble_eq_true rfl) (tc_Jl_indexOfChar (d - 1) hh_0 p0 p1 (aw_max p2 0) (aw_min p3 3) _ _ _ h) rfl ?_
      exact x_iret (pc := 36) dJ1_indexOf_4cfef_36
    · have h := aw_neg h c_6
      refine x_iconst (pc := 27) (w := (-1)) dJ1_indexOf_4cfef_27 ic_m1 ?_
      obtain ⟨rfl, rfl⟩ := aw_so h
      exact x_iret (pc := 28) dJ1_indexOf_4cfef_28
  · have h := aw_pos h c_4
    refine x_iconst (pc := 7) (w := (-1)) dJ1_indexOf_4cfef_7 ic_m1 ?_
    obtain ⟨rfl, rfl⟩ := aw_so h
    exact x_iret (pc := 8) dJ1_indexOf_4cfef_8
def fc_Js_isLatin1 (p0 : Int32) (M : aw_M) : Option (Int32 × aw_M) :=
  if (1 : Int32) = 0 then (
    some (0, M)
  ) else (
    if 2 ≤ p0.toNatClampNeg then none else (
    if (0 : Int32) = 0 then (
      some (1, M)
    ) else (
      some (0, M)
    )
    )
  )
set_option maxRecDepth 20000 in
theorem tc_Js_isLatin1 {l : Launch} {D : va_G} {cy : Nat → ClassId} {ad : Nat → Nat} {A : Nat → Prop} (d : Nat) (hd : 0 ≤ d) (p0 : Int32) (M : aw_M) (r : Int32) (M1 : aw_M) (h : fc_Js_isLatin1 p0 M = some (r, M1)) : AX l D cy ad A gc_G yJ0_isLatin1_aae02 cJ0_isLatin1_aae02 1 (some .boolean) d [.ref (ad (900 + p0.toNatClampNeg))] M (some (.int r)) M1 := by
  refine AX.of (own := RJ0) (by decide +kernel) rfl (Nat.le_of_ble_eq_true rfl) ?_
  unfold fc_Js_isLatin1 at h
  show AW l D cy ad A gc_G RJ0 cJ0_isLatin1_aae02 1 (some .boolean) d (some (.int r)) M1 0 [(0, .ref (ad (900 + p0.toNatClampNeg)))] [] M
  refine x_gsC (pc := 0) dJ0_isLatin1_aae02_0 ?_
  refine x_if_eq (pc := 3) 17 dJ0_isLatin1_aae02_3 (by decide) (fun c_1 => ?_) (fun c_1 => ?_)
  · have h := aw_pos h c_1
    refine x_iconst (pc := 17) (w := 0) dJ0_isLatin1_aae02_17 ic_0 ?_
    obtain ⟨rfl, rfl⟩ := aw_so h
    exact x_zret (pc := 18) aw_b0 dJ0_isLatin1_aae02_18
  · have h := aw_neg h c_1
    refine x_aload_n (pc := 6) 0 dJ0_isLatin1_aae02_6 rfl rfl ?_
    obtain ⟨c_2, h⟩ := aw_ck h
    refine x_tget15 (pc := 7) dJ0_isLatin1_aae02_7 (Nat.lt_of_not_le c_2) ?_
    refine x_if_ne (pc := 10) 17 dJ0_isLatin1_aae02_10 (by decide) (fun c_3 => ?_) (fun c_3 => ?_)
    · have h := aw_neg h c_3
      refine x_iconst (pc := 17) (w := 0) dJ0_isLatin1_aae02_17 ic_0 ?_
      obtain ⟨rfl, rfl⟩ := aw_so h
      exact x_zret (pc := 18) aw_b0 dJ0_isLatin1_aae02_18
    · have h := aw_pos h c_3
      refine x_iconst (pc := 13) (w := 1) dJ0_isLatin1_aae02_13 ic_1 ?_
      refine x_goto (pc := 14) 18 dJ0_isLatin1_aae02_14 (by decide) ?_
      obtain ⟨rfl, rfl⟩ := aw_so h
      exact x_zret (pc := 18) aw_b1 dJ0_isLatin1_aae02_18
def fc_Js_coder (p0 : Int32) (M : aw_M) : Option (Int32 × aw_M) :=
  if (1 : Int32) = 0 then (
    none
  ) else (
    if 2 ≤ p0.toNatClampNeg then none else (
    if ¬ ((0 : Int32) = 0 ∨ (0 : Int32) = 1) then none else (
    some (0, M)
    )
    )
  )
set_option maxRecDepth 20000 in
theorem tc_Js_coder {l : Launch} {D : va_G} {cy : Nat → ClassId} {ad : Nat → Nat} {A : Nat → Prop} (d : Nat) (hd : 0 ≤ d) (p0 : Int32) (M : aw_M) (r : Int32) (M1 : aw_M) (h : fc_Js_coder p0 M = some (r, M1)) : AX l D cy ad A gc_G yJ0_coder_7d493 cJ0_coder_7d493 1 (some .byte) d [.ref (ad (900 + p0.toNatClampNeg))] M (some (.int r)) M1 := by
  refine AX.of (own := RJ0) (by decide +kernel) rfl (Nat.le_of_ble_eq_true rfl) ?_
  unfold fc_Js_coder at h
  show AW l D cy ad A gc_G RJ0 cJ0_coder_7d493 1 (some .byte) d (some (.int r)) M1 0 [(0, .ref (ad (900 + p0.toNatClampNeg)))] [] M
  refine x_gsC (pc := 0) dJ0_coder_7d493_0 ?_
  refine x_if_eq (pc := 3) 13 dJ0_coder_7d493_3 (by decide) (fun c_1 => ?_) (fun c_1 => ?_)
  · have h := aw_pos h c_1
    cases h
  · have h := aw_neg h c_1
    refine x_aload_n (pc := 6) 0 dJ0_coder_7d493_6 rfl rfl ?_
    obtain ⟨c_2, h⟩ := aw_ck h
    refine x_tget15 (pc := 7) dJ0_coder_7d493_7 (Nat.lt_of_not_le c_2) ?_
    refine x_goto (pc := 10) 14 dJ0_coder_7d493_10 (by decide) ?_
    obtain ⟨c_9, h⟩ := aw_ck h
    obtain ⟨rfl, rfl⟩ := aw_so h
    exact x_bret (pc := 14) (aw_by c_9) dJ0_coder_7d493_14
def fc_Js_length (p0 : Int32) (M : aw_M) : Option (Int32 × aw_M) :=
  if 2 ≤ p0.toNatClampNeg then none else (
  if 2 ≤ p0.toNatClampNeg then none else (
  if 2 ≤ p0.toNatClampNeg then none else (
  aw_bi (fc_Js_coder p0 M) fun r_5 M_6 => (
  some ((3 >>> (r_5 &&& 31)), M_6)
  )
  )
  )
  )
set_option maxRecDepth 20000 in
theorem tc_Js_length {l : Launch} {D : va_G} {cy : Nat → ClassId} {ad : Nat → Nat} {A : Nat → Prop} (d : Nat) (hd : 1 ≤ d) (p0 : Int32) (M : aw_M) (r : Int32) (M1 : aw_M) (h : fc_Js_length p0 M = some (r, M1)) : AX l D cy ad A gc_G yJ0_length_8abf5 cJ0_length_8abf5 1 (some .int) d [.ref (ad (900 + p0.toNatClampNeg))] M (some (.int r)) M1 := by
  have hd1 : (d - 1) + 1 ≤ d := by omega
  have hm1 : 1 ≤ d := by omega
  have hh_0 : 0 ≤ d - 1 := by omega
  refine AX.of (own := RJ0) (by decide +kernel) rfl (Nat.le_of_ble_eq_true rfl) ?_
  unfold fc_Js_length at h
  show AW l D cy ad A gc_G RJ0 cJ0_length_8abf5 1 (some .int) d (some (.int r)) M1 0 [(0, .ref (ad (900 + p0.toNatClampNeg)))] [] M
  refine x_aload_n (pc := 0) 0 dJ0_length_8abf5_0 rfl rfl ?_
  obtain ⟨c_1, h⟩ := aw_ck h
  refine x_tget9 (pc := 1) dJ0_length_8abf5_1 (Nat.lt_of_not_le c_1) ?_
  obtain ⟨c_2, h⟩ := aw_ck h
  refine x_tlen (pc := 4) dJ0_length_8abf5_4 (Nat.lt_of_not_le c_2) ?_
  refine x_aload_n (pc := 5) 0 dJ0_length_8abf5_5 rfl rfl ?_
  obtain ⟨c_3, h⟩ := aw_ck h
  obtain ⟨r_5, M_6, e_4, h⟩ := aw_bi_e h
  refine x_callT (pc := 6) (As := []) (rest := [.int 3]) (st' := [.int r_5, .int 3]) (w := (some (.int r_5))) dJ0_length_8abf5_6 cw_J0_335 hd1 (Nat.lt_of_not_le c_3) rfl rfl (Nat.le_of_ble_eq_true rfl) (tc_Js_coder (d - 1) hh_0 p0 _ _ _ e_4) rfl ?_
  refine x_ishr (pc := 9) dJ0_length_8abf5_9 ?_
  obtain ⟨rfl, rfl⟩ := aw_so h
  exact x_iret (pc := 10) dJ0_length_8abf5_10
def fj_indexOf2 (p0 : Int32) (p1 : Int32) (p2 : Int32) (M : aw_M) : Option (Int32 × aw_M) :=
  if 2 ≤ p0.toNatClampNeg then none else (
  aw_bi (fc_Js_isLatin1 p0 M) fun r_3 M_4 => (
  if r_3 = 0 then (
    none
  ) else (
    if 2 ≤ p0.toNatClampNeg then none else (
    if 2 ≤ p0.toNatClampNeg then none else (
    aw_bi (fc_Js_length p0 M_4) fun r_9 M_10 => (
    aw_bi (fc_Jl_indexOf p0 p1 p2 r_9 M_10) fun r_12 M_13 => (
    some (r_12, M_13)
    )
    )
    )
    )
  )
  )
  )
set_option maxRecDepth 20000 in
theorem tj_indexOf2 {l : Launch} {D : va_G} {cy : Nat → ClassId} {ad : Nat → Nat} {A : Nat → Prop} (d : Nat) (hd : 2 ≤ d) (p0 : Int32) (p1 : Int32) (p2 : Int32) (M : aw_M) (r : Int32) (M1 : aw_M) (h : fj_indexOf2 p0 p1 p2 M = some (r, M1)) : AX l D cy ad A gc_G yJ0_indexOf_7cf53 cJ0_indexOf_7cf53 3 (some .int) d [.ref (ad (900 + p0.toNatClampNeg)), .int p1, .int p2] M (some (.int r)) M1 := by
  have hd1 : (d - 1) + 1 ≤ d := by omega
  have hm1 : 1 ≤ d := by omega
  have hh_0 : 0 ≤ d - 1 := by omega
  have hh_1 : 1 ≤ d - 1 := by omega
  refine AX.of (own := RJ0) (by decide +kernel) rfl (Nat.le_of_ble_eq_true rfl) ?_
  unfold fj_indexOf2 at h
  show AW l D cy ad A gc_G RJ0 cJ0_indexOf_7cf53 3 (some .int) d (some (.int r)) M1 0 [(0, .ref (ad (900 + p0.toNatClampNeg))), (1, .int p1), (2, .int p2)] [] M
  refine x_aload_n (pc := 0) 0 dJ0_indexOf_7cf53_0 rfl rfl ?_
  obtain ⟨c_1, h⟩ := aw_ck h
  obtain ⟨r_3, M_4, e_2, h⟩ := aw_bi_e h
  refine x_callT (pc := 1) (As := []) (rest := []) (st' := [.int r_3]) (w := (some (.int r_3))) dJ0_indexOf_7cf53_1 cw_J0_492 hd1 (Nat.lt_of_not_le c_1) rfl rfl (Nat.le_of_ble_eq_true rfl) (tc_Js_isLatin1 (d - 1) hh_0 p0 _ _ _ e_2) rfl ?_
  refine x_if_eq (pc := 4) 23 dJ0_indexOf_7cf53_4 (by decide) (fun c_5 => ?_) (fun c_5 => ?_)
  · have h := aw_pos h c_5
    cases h
  · have h := aw_neg h c_5
    refine x_aload_n (pc := 7) 0 dJ0_indexOf_7cf53_7 rfl rfl ?_
    obtain ⟨c_6, h⟩ := aw_ck h
    refine x_tget9 (pc := 8) dJ0_indexOf_7cf53_8 (Nat.lt_of_not_le c_6) ?_
    refine x_iload_n (pc := 11) 1 dJ0_indexOf_7cf53_11 rfl rfl ?_
    refine x_iload_n (pc := 12) 2 dJ0_indexOf_7cf53_12 rfl rfl ?_
    refine x_aload_n (pc := 13) 0 dJ0_indexOf_7cf53_13 rfl rfl ?_
    obtain ⟨c_7, h⟩ := aw_ck h
    obtain ⟨r_9, M_10, e_8, h⟩ := aw_bi_e h
    refine x_callT (pc := 14) (As := []) (rest := [.int p2, .int p1, .ref (ad (904 + p0.toNatClampNeg))]) (st' := [.int r_9, .int p2, .int p1, .ref (ad (904 + p0.toNatClampNeg))]) (w := (some (.int r_9))) dJ0_indexOf_7cf53_14 cw_J0_505 hd1 (Nat.lt_of_not_le c_7) rfl rfl (Nat.le_of_ble_eq_true rfl) (tc_Js_length (d - 1) hh_1 p0 _ _ _ e_8) rfl ?_
    obtain ⟨r_12, M_13, e_11, h⟩ := aw_bi_e h
    refine x_callS (pc := 17) (As := [.ref (ad (904 + p0.toNatClampNeg)), .int p1, .int p2, .int r_9]) (rest := []) (st' := [.int r_12]) (w := (some (.int r_12))) dJ0_indexOf_7cf53_17 cw_J0_637 hd1 rfl rfl (Nat.le_of_ble_eq_true rfl) (tc_Jl_indexOf (d - 1) hh_1 p0 p1 p2 r_9 _ _ _ e_11) rfl ?_
    refine x_goto (pc := 20) 36 dJ0_indexOf_7cf53_20 (by decide) ?_
    obtain ⟨rfl, rfl⟩ := aw_so h
    exact x_iret (pc := 36) dJ0_indexOf_7cf53_36
def fj_indexOf1 (p0 : Int32) (p1 : Int32) (M : aw_M) : Option (Int32 × aw_M) :=
  if 2 ≤ p0.toNatClampNeg then none else (
  fj_indexOf2 p0 p1 0 M
  )
set_option maxRecDepth 20000 in
theorem tj_indexOf1 {l : Launch} {D : va_G} {cy : Nat → ClassId} {ad : Nat → Nat} {A : Nat → Prop} (d : Nat) (hd : 3 ≤ d) (p0 : Int32) (p1 : Int32) (M : aw_M) (r : Int32) (M1 : aw_M) (h : fj_indexOf1 p0 p1 M = some (r, M1)) : AX l D cy ad A gc_G yJ0_indexOf_0f7a4 cJ0_indexOf_0f7a4 2 (some .int) d [.ref (ad (900 + p0.toNatClampNeg)), .int p1] M (some (.int r)) M1 := by
  have hd1 : (d - 1) + 1 ≤ d := by omega
  have hm1 : 1 ≤ d := by omega
  have hh_2 : 2 ≤ d - 1 := by omega
  refine AX.of (own := RJ0) (by decide +kernel) rfl (Nat.le_of_ble_eq_true rfl) ?_
  unfold fj_indexOf1 at h
  show AW l D cy ad A gc_G RJ0 cJ0_indexOf_0f7a4 2 (some .int) d (some (.int r)) M1 0 [(0, .ref (ad (900 + p0.toNatClampNeg))), (1, .int p1)] [] M
  refine x_aload_n (pc := 0) 0 dJ0_indexOf_0f7a4_0 rfl rfl ?_
  refine x_iload_n (pc := 1) 1 dJ0_indexOf_0f7a4_1 rfl rfl ?_
  refine x_iconst (pc := 2) (w := 0) dJ0_indexOf_0f7a4_2 ic_0 ?_
  obtain ⟨c_1, h⟩ := aw_ck h
  refine x_callT (pc := 3) (As := [.int p1, .int 0]) (rest := []) (st' := [.int r]) (w := (some (.int r))) dJ0_indexOf_0f7a4_3 cw_J0_633 hd1 (Nat.lt_of_not_le c_1) rfl rfl (Nat.le_of_ble_eq_true rfl) (tj_indexOf2 (d - 1) hh_2 p0 p1 0 _ _ _ h) rfl ?_
  exact x_iret (pc := 6) dJ0_indexOf_0f7a4_6
def fc_Js_indexOf (p0 p1 : Int32) (M : aw_M) : Option (Int32 × aw_M) := if 2 ≤ p0.toNatClampNeg then none else some (if p1 = 116 then 0 else if p1 = 109 then 1 else if p1 = (if p0.toNatClampNeg = 0 then 107 else 108) then 2 else -1, M)
theorem js_b (a : Int32) (ha : a = 116 ∨ a = 109 ∨ a = 107 ∨ a = 108) {x : Int32} (h1 : ¬ x < 0) (h2 : ¬ (255 : Int32) < x) : (a = x.toInt8.toInt32 ↔ x = a) := by
  obtain ⟨j, hj, rfl⟩ := nI_of2 (n := 255) (by decide) h1 (Int32.not_lt.mp h2)
  rcases ha with rfl | rfl | rfl | rfl <;> exact (show ∀ j, j ≤ 255 → ((_ : Int32) = (nI j).toInt8.toInt32 ↔ nI j = _) by decide +kernel) j hj
theorem aw_bi_s {β : Type} (r : Int32) (M : aw_M) (k : Int32 → aw_M → Option β) : aw_bi (some (r, M)) k = k r M := rfl
theorem aw_br_s {β : Type} (r : Nat) (M : aw_M) (k : Nat → aw_M → Option β) : aw_br (some (r, M)) k = k r M := rfl
theorem aw_bv_s {β : Type} (M : aw_M) (k : aw_M → Option β) : aw_bv (some M) k = k M := rfl
theorem js_loop {p0 b : Int32} {M : aw_M} (c : ¬ 2 ≤ p0.toNatClampNeg) : fc_Jl_indexOfChar_L7 2000 p0 3 b 0 M = some (if (116 : Int32) = b then 0 else if (109 : Int32) = b then 1 else if (if p0.toNatClampNeg = 0 then (107 : Int32) else 108) = b then 2 else -1, M) := by
  have hk : p0.toNatClampNeg = 0 ∨ p0.toNatClampNeg = 1 := by omega
  have t0 : (aw_tx.getD p0.toNatClampNeg []).getD (0 : Int32).toNatClampNeg 0 = 116 := by rcases hk with h | h <;> rw [h] <;> decide
  have t1 : (aw_tx.getD p0.toNatClampNeg []).getD (0 + 1 : Int32).toNatClampNeg 0 = 109 := by rcases hk with h | h <;> rw [h] <;> decide
  have t2 : (aw_tx.getD p0.toNatClampNeg []).getD (0 + 1 + 1 : Int32).toNatClampNeg 0 = (if p0.toNatClampNeg = 0 then (107 : Int32) else 108) := by rcases hk with h | h <;> rw [h] <;> decide
  rw [show (2000 : Nat) = 1999 + 1 from rfl, fc_Jl_indexOfChar_L7_s, if_neg (by decide), if_neg c, if_neg (by decide), t0]
  by_cases h0 : (116 : Int32) = b
  · rw [if_pos h0, if_pos h0]
  · rw [if_neg h0, if_neg h0, show (1999 : Nat) = 1998 + 1 from rfl, fc_Jl_indexOfChar_L7_s, if_neg (by decide), if_neg c, if_neg (by decide), t1]
    by_cases h1 : (109 : Int32) = b
    · rw [if_pos h1, if_pos h1]; rfl
    · rw [if_neg h1, if_neg h1, show (1998 : Nat) = 1997 + 1 from rfl, fc_Jl_indexOfChar_L7_s, if_neg (by decide), if_neg c, if_neg (by decide), t2]
      by_cases h2 : (if p0.toNatClampNeg = 0 then (107 : Int32) else 108) = b
      · rw [if_pos h2, if_pos h2]; rfl
      · rw [if_neg h2, if_neg h2, show (1997 : Nat) = 1996 + 1 from rfl, fc_Jl_indexOfChar_L7_s, if_pos (by decide)]
theorem js_eq {p0 p1 : Int32} {M : aw_M} {r : Int32} {M1 : aw_M} (h : fc_Js_indexOf p0 p1 M = some (r, M1)) : fj_indexOf1 p0 p1 M = some (r, M1) := by
  obtain ⟨c, h⟩ := aw_ck h
  obtain ⟨rfl, rfl⟩ := aw_so h
  have e1 : fc_Js_isLatin1 p0 M = some (1, M) := by simp [fc_Js_isLatin1, c]
  have e2 : fc_Js_coder p0 M = some (0, M) := by simp [fc_Js_coder, c]
  have e3 : fc_Js_length p0 M = some (3, M) := by
    unfold fc_Js_length
    rw [if_neg c, if_neg c, if_neg c, e2, aw_bi_s, show (3 : Int32) >>> (0 &&& 31) = 3 by decide]
  have hb : (if p0.toNatClampNeg = 0 then (107 : Int32) else 108) = 107 ∨ (if p0.toNatClampNeg = 0 then (107 : Int32) else 108) = 108 := by
    by_cases h : p0.toNatClampNeg = 0
    · exact Or.inl (if_pos h)
    · exact Or.inr (if_neg h)
  generalize hz : (if p0.toNatClampNeg = 0 then (107 : Int32) else 108) = z at hb
  have e4 : fc_Jl_indexOf p0 p1 0 3 M = some (if p1 = 116 then 0 else if p1 = 109 then 1 else if p1 = z then 2 else -1, M) := by
    unfold fc_Jl_indexOf
    by_cases g1 : p1 < 0
    · have n1 : ¬ p1 = 116 := fun e => absurd g1 (by rw [e]; decide)
      have n2 : ¬ p1 = 109 := fun e => absurd g1 (by rw [e]; decide)
      have n3 : ¬ p1 = z := fun e => absurd g1 (by rw [e]; rcases hb with h | h <;> rw [h] <;> decide)
      rw [show fc_Jl_canEncode p1 M = some (0, M) from if_pos g1, if_neg n1, if_neg n2, if_neg n3]
      rfl
    · by_cases g2 : (255 : Int32) < p1
      · have n1 : ¬ p1 = 116 := fun e => absurd g2 (by rw [e]; decide)
        have n2 : ¬ p1 = 109 := fun e => absurd g2 (by rw [e]; decide)
        have n3 : ¬ p1 = z := fun e => absurd g2 (by rw [e]; rcases hb with h | h <;> rw [h] <;> decide)
        rw [show fc_Jl_canEncode p1 M = some (0, M) from (if_neg g1).trans (if_pos g2), if_neg n1, if_neg n2, if_neg n3]
        rfl
      · rw [show fc_Jl_canEncode p1 M = some (1, M) from (if_neg g1).trans (if_neg g2)]
        rw [aw_bi_s, if_neg (by decide), if_neg c, if_pos (by decide), show aw_min 3 3 = 3 by decide, show aw_max 0 0 = 0 by decide]
        unfold fc_Jl_indexOfChar
        rw [js_loop c, hz]
        simp only [js_b 116 (Or.inl rfl) g1 g2, js_b 109 (Or.inr (Or.inl rfl)) g1 g2, js_b z (Or.inr (Or.inr hb)) g1 g2]
  unfold fj_indexOf1 fj_indexOf2
  rw [if_neg c, if_neg c, e1]
  rw [aw_bi_s]
  rw [if_neg (by decide), if_neg c, if_neg c, e3, aw_bi_s, e4, aw_bi_s]
theorem tc_Js_indexOf {l : Launch} {D : va_G} {cy : Nat → ClassId} {ad : Nat → Nat} {A : Nat → Prop} (d : Nat) (hd : 6 ≤ d) (p0 p1 : Int32) (M : aw_M) (r : Int32) (M1 : aw_M) (h : fc_Js_indexOf p0 p1 M = some (r, M1)) : AX l D cy ad A gc_G yJ0_indexOf_0f7a4 cJ0_indexOf_0f7a4 2 (some .int) d [.ref (ad (900 + p0.toNatClampNeg)), .int p1] M (some (.int r)) M1 :=
  tj_indexOf1 d (by omega) p0 p1 M r M1 (js_eq h)
theorem x_callJ {l : Launch} {D : va_G} {cy : Nat → ClassId} {ad : Nat → Nat} {A : Nat → Prop} {own : String} {cc : ByteArray} {nL : Nat} {ret : Option FieldType} {d : Nat} {v : Option Value} {M1 : aw_M} {pc : Nat} {lv : List (Nat × Value)} {M : aw_M} {idx : Nat} {p0 p1 r : Int32} {rest : List Value} {M2 : aw_M} (hd : decode cc pc = .ok (.invokevirtual idx, 3)) (hw : aw_V own idx "java/lang/String" yJ0_indexOf_0f7a4 cJ0_indexOf_0f7a4 2 (some .int) 1) (hdd : 7 ≤ d) (hr : (rest.map fun v => v.category).sum ≤ 8) (he : fc_Js_indexOf p0 p1 M = some (r, M2)) (k : AW l D cy ad A gc_G own cc nL ret d v M1 (pc + 3) lv (.int r :: rest) M2) : AW l D cy ad A gc_G own cc nL ret d v M1 pc lv (.int p1 :: .ref (ad (900 + p0.toNatClampNeg)) :: rest) M := by
  have hM := tc_Js_indexOf (l := l) (D := D) (cy := cy) (ad := ad) (A := A) (d - 1) (by omega) p0 p1 M r M2 he
  have hi : p0.toNatClampNeg < 2 := by
    obtain ⟨c, -⟩ := aw_ck he
    omega
  obtain ⟨h1, h2, h3, h4, h5, h6, h7⟩ := hw
  intro p e s m args below meth c H locs ls C hP hS hl
  refine aw_go (va_runV (C := "java/lang/String") (b := ad (900 + p0.toNatClampNeg)) (As := [.int p1]) (rest := rest) (ws := aw_ws yJ0_indexOf_0f7a4 cJ0_indexOf_0f7a4 2 (some .int)) (rm := aw_R (d - 1)) ⟨C.1, C.2.1, C.2.2.1, C.2.2.2.1, C.2.2.2.2.1⟩ hM (cwV 1 C.2.2.2.2.1 (aw_gc (fun w hw => by rcases (by simpa using hw : w = _ ∨ w = _ ∨ w = _ ∨ w = _) with rfl | rfl | rfl | rfl <;> assumption) h5) rfl rfl rfl h6 (aw_rm (by omega) h7)) ⟨aw_blind, vk_recv (i := p0.toNatClampNeg) C.2.2.2.2.2.2.2.1.2.2.2 hi hS, aw_pre C.2.2.2.2.2.1 C.2.2.2.2.2.2.1 C.2.2.2.2.2.2.2.1 C.2.2.2.2.2.2.2.2.1.1 C.2.2.2.2.2.2.2.2.1.2 hP hS⟩ rfl rfl hl.1 rfl (lv_room hr) hd ⟨Nat.le_refl _, Nat.le_refl _⟩) hS (fun H1 locs1 hP1 hS1 => k p e s m args below meth c H1 locs1 ls C hP1 hS1 hl)
