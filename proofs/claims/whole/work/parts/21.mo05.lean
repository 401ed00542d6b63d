def fm_tellsMost_L189 (K172 : Int32 → Int32 → Int32 → aw_M → Option (Int32 × aw_M)) : Nat → Int32 → Int32 → Int32 → Int32 → Int32 → aw_M → Option (Int32 × aw_M)
  | 0, _, _, _, _, _, _ => none
  | n + 1, p2, p3, p4, p5, p6, M =>
    if (5 : Int32) ≤ p6 then (
      if p3 ≤ p5 then (
        if p3 ≤ p5 then (
          K172 p2 p3 (p4 + 1) M
        ) else (
          K172 p2 p5 (p4 + 1) M
        )
      ) else (
        if p3 ≤ p5 then (
          K172 p4 p3 (p4 + 1) M
        ) else (
          K172 p4 p5 (p4 + 1) M
        )
      )
    ) else (
      if aw_in ((5 * p4) + p6) 30 then none else (
      if (M 10 ((5 * p4) + p6).toNatClampNeg) ≤ p5 then (
        fm_tellsMost_L189 K172 n p2 p3 p4 p5 (p6 + 1) M
      ) else (
        if aw_in ((5 * p4) + p6) 30 then none else (
        fm_tellsMost_L189 K172 n p2 p3 p4 (M 10 ((5 * p4) + p6).toNatClampNeg) (p6 + 1) M
        )
      )
      )
    )
theorem fm_tellsMost_L189_s (K172 : Int32 → Int32 → Int32 → aw_M → Option (Int32 × aw_M)) (n : Nat) (p2 : Int32) (p3 : Int32) (p4 : Int32) (p5 : Int32) (p6 : Int32) (M : aw_M) : fm_tellsMost_L189 K172 (n + 1) p2 p3 p4 p5 p6 M = (
    if (5 : Int32) ≤ p6 then (
      if p3 ≤ p5 then (
        if p3 ≤ p5 then (
          K172 p2 p3 (p4 + 1) M
        ) else (
          K172 p2 p5 (p4 + 1) M
        )
      ) else (
        if p3 ≤ p5 then (
          K172 p4 p3 (p4 + 1) M
        ) else (
          K172 p4 p5 (p4 + 1) M
        )
      )
    ) else (
      if aw_in ((5 * p4) + p6) 30 then none else (
      if (M 10 ((5 * p4) + p6).toNatClampNeg) ≤ p5 then (
        fm_tellsMost_L189 K172 n p2 p3 p4 p5 (p6 + 1) M
      ) else (
        if aw_in ((5 * p4) + p6) 30 then none else (
        fm_tellsMost_L189 K172 n p2 p3 p4 (M 10 ((5 * p4) + p6).toNatClampNeg) (p6 + 1) M
        )
      )
      )
    )
    ) := rfl
set_option maxRecDepth 20000 in
theorem tm_tellsMost_L189 {l : Launch} {D : va_G} {cy : Nat → ClassId} {ad : Nat → Nat} {A : Nat → Prop} (d : Nat) (hd : 108 ≤ d) (K172 : Int32 → Int32 → Int32 → aw_M → Option (Int32 × aw_M)) (hK172 : ∀ (p2 : Int32) (p3 : Int32) (p4 : Int32) (M : aw_M) (r : Int32) (M1 : aw_M), K172  p2 p3 p4 M = some (r, M1) → AW l D cy ad A gm_G RX10 cX10_tellsMost 7 (some .int) d (some (.int r)) M1 172 [(0, .ref (ad 0)), (2, .int p2), (3, .int p3), (4, .int p4)] [] M) : ∀ (n : Nat) (p2 : Int32) (p3 : Int32) (p4 : Int32) (p5 : Int32) (p6 : Int32) (M : aw_M) (r : Int32) (M1 : aw_M), fm_tellsMost_L189 K172 n p2 p3 p4 p5 p6 M = some (r, M1) → AW l D cy ad A gm_G RX10 cX10_tellsMost 7 (some .int) d (some (.int r)) M1 189 [(0, .ref (ad 0)), (2, .int p2), (3, .int p3), (4, .int p4), (5, .int p5), (6, .int p6)] [] M := by
  have hd1 : (d - 1) + 1 ≤ d := by omega
  have hm1 : 1 ≤ d := by omega
  have hh_0 : 0 ≤ d - 1 := by omega
  have hh_1 : 1 ≤ d - 1 := by omega
  have hh_106 : 106 ≤ d - 1 := by omega
  have hh_107 : 107 ≤ d - 1 := by omega
  intro n
  induction n with
  | zero => intro p2 p3 p4 p5 p6 M r M1 h; cases h
  | succ n ih =>
    intro p2 p3 p4 p5 p6 M r M1 h
    rw [fm_tellsMost_L189_s] at h
    refine x_iload (pc := 189) dX10_tellsMost_189 rfl ?_
    refine x_iconst (pc := 191) (w := 5) dX10_tellsMost_191 ic_5 ?_
    refine x_icmp_ge (pc := 192) 237 dX10_tellsMost_192 (by decide) (fun c_30 => ?_) (fun c_30 => ?_)
    · have h := aw_pos h c_30
      refine x_iload (pc := 237) dX10_tellsMost_237 rfl ?_
      refine x_iload_n (pc := 239) 3 dX10_tellsMost_239 rfl rfl ?_
      refine x_icmp_ge (pc := 240) 248 dX10_tellsMost_240 (by decide) (fun c_31 => ?_) (fun c_31 => ?_)
      · have h := aw_pos h c_31
        refine x_iload_n (pc := 248) 2 dX10_tellsMost_248 rfl rfl ?_
        refine x_istore_n (pc := 249) 2 [(2, .int p2), (0, .ref (ad 0)), (3, .int p3), (4, .int p4), (5, .int p5), (6, .int p6)] dX10_tellsMost_249 rfl (by decide) rfl ?_
        refine x_iload (pc := 250) dX10_tellsMost_250 rfl ?_
        refine x_iload_n (pc := 252) 3 dX10_tellsMost_252 rfl rfl ?_
        refine x_icmp_ge (pc := 253) 261 dX10_tellsMost_253 (by decide) (fun c_32 => ?_) (fun c_32 => ?_)
        · have h := aw_pos h c_32
          refine x_iload_n (pc := 261) 3 dX10_tellsMost_261 rfl rfl ?_
          refine x_istore_n (pc := 262) 3 [(3, .int p3), (2, .int p2), (0, .ref (ad 0)), (4, .int p4), (5, .int p5), (6, .int p6)] dX10_tellsMost_262 rfl (by decide) rfl ?_
          refine x_iinc (pc := 263) (p4 + 1) [(4, .int (p4 + 1)), (3, .int p3), (2, .int p2), (0, .ref (ad 0)), (5, .int p5), (6, .int p6)] dX10_tellsMost_263 rfl (congrArg (fun z => p4 + z) ic_1) (by decide) rfl ?_
          refine x_goto (pc := 266) 172 dX10_tellsMost_266 (by decide) ?_
          refine x_lv [3, 2, 1, 0] [(0, .ref (ad 0)), (2, .int p2), (3, .int p3), (4, .int (p4 + 1))] rfl ?_
          exact hK172 p2 p3 (p4 + 1) _ _ _ h
        · have h := aw_neg h c_32
          refine x_iload (pc := 256) dX10_tellsMost_256 rfl ?_
          refine x_goto (pc := 258) 262 dX10_tellsMost_258 (by decide) ?_
          refine x_istore_n (pc := 262) 3 [(3, .int p5), (2, .int p2), (0, .ref (ad 0)), (4, .int p4), (5, .int p5), (6, .int p6)] dX10_tellsMost_262 rfl (by decide) rfl ?_
          refine x_iinc (pc := 263) (p4 + 1) [(4, .int (p4 + 1)), (3, .int p5), (2, .int p2), (0, .ref (ad 0)), (5, .int p5), (6, .int p6)] dX10_tellsMost_263 rfl (congrArg (fun z => p4 + z) ic_1) (by decide) rfl ?_
          refine x_goto (pc := 266) 172 dX10_tellsMost_266 (by decide) ?_
          refine x_lv [3, 2, 1, 0] [(0, .ref (ad 0)), (2, .int p2), (3, .int p5), (4, .int (p4 + 1))] rfl ?_
          exact hK172 p2 p5 (p4 + 1) _ _ _ h
      · have h := aw_neg h c_31
        refine x_iload (pc := 243) dX10_tellsMost_243 rfl ?_
        refine x_goto (pc := 245) 249 dX10_tellsMost_245 (by decide) ?_
        refine x_istore_n (pc := 249) 2 [(2, .int p4), (0, .ref (ad 0)), (3, .int p3), (4, .int p4), (5, .int p5), (6, .int p6)] dX10_tellsMost_249 rfl (by decide) rfl ?_
        refine x_iload (pc := 250) dX10_tellsMost_250 rfl ?_
        refine x_iload_n (pc := 252) 3 dX10_tellsMost_252 rfl rfl ?_
        refine x_icmp_ge (pc := 253) 261 dX10_tellsMost_253 (by decide) (fun c_33 => ?_) (fun c_33 => ?_)
        · have h := aw_pos h c_33
          refine x_iload_n (pc := 261) 3 dX10_tellsMost_261 rfl rfl ?_
          refine x_istore_n (pc := 262) 3 [(3, .int p3), (2, .int p4), (0, .ref (ad 0)), (4, .int p4), (5, .int p5), (6, .int p6)] dX10_tellsMost_262 rfl (by decide) rfl ?_
          refine x_iinc (pc := 263) (p4 + 1) [(4, .int (p4 + 1)), (3, .int p3), (2, .int p4), (0, .ref (ad 0)), (5, .int p5), (6, .int p6)] dX10_tellsMost_263 rfl (congrArg (fun z => p4 + z) ic_1) (by decide) rfl ?_
          refine x_goto (pc := 266) 172 dX10_tellsMost_266 (by decide) ?_
          refine x_lv [3, 2, 1, 0] [(0, .ref (ad 0)), (2, .int p4), (3, .int p3), (4, .int (p4 + 1))] rfl ?_
          exact hK172 p4 p3 (p4 + 1) _ _ _ h
        · have h := aw_neg h c_33
          refine x_iload (pc := 256) dX10_tellsMost_256 rfl ?_
          refine x_goto (pc := 258) 262 dX10_tellsMost_258 (by decide) ?_
          refine x_istore_n (pc := 262) 3 [(3, .int p5), (2, .int p4), (0, .ref (ad 0)), (4, .int p4), (5, .int p5), (6, .int p6)] dX10_tellsMost_262 rfl (by decide) rfl ?_
          refine x_iinc (pc := 263) (p4 + 1) [(4, .int (p4 + 1)), (3, .int p5), (2, .int p4), (0, .ref (ad 0)), (5, .int p5), (6, .int p6)] dX10_tellsMost_263 rfl (congrArg (fun z => p4 + z) ic_1) (by decide) rfl ?_
          refine x_goto (pc := 266) 172 dX10_tellsMost_266 (by decide) ?_
          refine x_lv [3, 2, 1, 0] [(0, .ref (ad 0)), (2, .int p4), (3, .int p5), (4, .int (p4 + 1))] rfl ?_
          exact hK172 p4 p5 (p4 + 1) _ _ _ h
    · have h := aw_neg h c_30
      refine x_aload_n (pc := 195) 0 dX10_tellsMost_195 rfl rfl ?_
      refine x_get (pc := 196) dX10_tellsMost_196 lk_X10_37 gm_0 rfl rfl ?_
      refine x_iconst (pc := 199) (w := 5) dX10_tellsMost_199 ic_5 ?_
      refine x_iload (pc := 200) dX10_tellsMost_200 rfl ?_
      refine x_imul (pc := 202) dX10_tellsMost_202 ?_
      refine x_iload (pc := 203) dX10_tellsMost_203 rfl ?_
      refine x_iadd (pc := 205) dX10_tellsMost_205 ?_
      obtain ⟨c_34, h⟩ := aw_ck h
      refine x_iald (pc := 206) dX10_tellsMost_206 gm_10 c_34 ?_
      refine x_iload (pc := 207) dX10_tellsMost_207 rfl ?_
      refine x_icmp_le (pc := 209) 227 dX10_tellsMost_209 (by decide) (fun c_35 => ?_) (fun c_35 => ?_)
      · have h := aw_pos h c_35
        refine x_iload (pc := 227) dX10_tellsMost_227 rfl ?_
        refine x_istore (pc := 229) 5 [(5, .int p5), (0, .ref (ad 0)), (2, .int p2), (3, .int p3), (4, .int p4), (6, .int p6)] dX10_tellsMost_229 (by decide) rfl ?_
        refine x_iinc (pc := 231) (p6 + 1) [(6, .int (p6 + 1)), (5, .int p5), (0, .ref (ad 0)), (2, .int p2), (3, .int p3), (4, .int p4)] dX10_tellsMost_231 rfl (congrArg (fun z => p6 + z) ic_1) (by decide) rfl ?_
        refine x_goto (pc := 234) 189 dX10_tellsMost_234 (by decide) ?_
        refine x_lv [2, 3, 4, 5, 1, 0] [(0, .ref (ad 0)), (2, .int p2), (3, .int p3), (4, .int p4), (5, .int p5), (6, .int (p6 + 1))] rfl ?_
        exact ih p2 p3 p4 p5 (p6 + 1) _ _ _ h
      · have h := aw_neg h c_35
        refine x_aload_n (pc := 212) 0 dX10_tellsMost_212 rfl rfl ?_
        refine x_get (pc := 213) dX10_tellsMost_213 lk_X10_37 gm_0 rfl rfl ?_
        refine x_iconst (pc := 216) (w := 5) dX10_tellsMost_216 ic_5 ?_
        refine x_iload (pc := 217) dX10_tellsMost_217 rfl ?_
        refine x_imul (pc := 219) dX10_tellsMost_219 ?_
        refine x_iload (pc := 220) dX10_tellsMost_220 rfl ?_
        refine x_iadd (pc := 222) dX10_tellsMost_222 ?_
        obtain ⟨c_36, h⟩ := aw_ck h
        refine x_iald (pc := 223) dX10_tellsMost_223 gm_10 c_36 ?_
        refine x_goto (pc := 224) 229 dX10_tellsMost_224 (by decide) ?_
        refine x_istore (pc := 229) 5 [(5, .int (M 10 ((5 * p4) + p6).toNatClampNeg)), (0, .ref (ad 0)), (2, .int p2), (3, .int p3), (4, .int p4), (6, .int p6)] dX10_tellsMost_229 (by decide) rfl ?_
        refine x_iinc (pc := 231) (p6 + 1) [(6, .int (p6 + 1)), (5, .int (M 10 ((5 * p4) + p6).toNatClampNeg)), (0, .ref (ad 0)), (2, .int p2), (3, .int p3), (4, .int p4)] dX10_tellsMost_231 rfl (congrArg (fun z => p6 + z) ic_1) (by decide) rfl ?_
        refine x_goto (pc := 234) 189 dX10_tellsMost_234 (by decide) ?_
        refine x_lv [2, 3, 4, 5, 1, 0] [(0, .ref (ad 0)), (2, .int p2), (3, .int p3), (4, .int p4), (5, .int (M 10 ((5 * p4) + p6).toNatClampNeg)), (6, .int (p6 + 1))] rfl ?_
        exact ih p2 p3 p4 (M 10 ((5 * p4) + p6).toNatClampNeg) (p6 + 1) _ _ _ h
def fm_tellsMost_L172 : Nat → Int32 → Int32 → Int32 → aw_M → Option (Int32 × aw_M)
  | 0, _, _, _, _ => none
  | n + 1, p2, p3, p4, M =>
    if (M 1 2) ≤ p4 then (
      some (p2, M)
    ) else (
      fm_tellsMost_L189 (fm_tellsMost_L172 n) 2000 p2 p3 p4 0 0 M
    )
theorem fm_tellsMost_L172_s (n : Nat) (p2 : Int32) (p3 : Int32) (p4 : Int32) (M : aw_M) : fm_tellsMost_L172 (n + 1) p2 p3 p4 M = (
    if (M 1 2) ≤ p4 then (
      some (p2, M)
    ) else (
      fm_tellsMost_L189 (fm_tellsMost_L172 n) 2000 p2 p3 p4 0 0 M
    )
    ) := rfl
set_option maxRecDepth 20000 in
theorem tm_tellsMost_L172 {l : Launch} {D : va_G} {cy : Nat → ClassId} {ad : Nat → Nat} {A : Nat → Prop} (d : Nat) (hd : 108 ≤ d) : ∀ (n : Nat) (p2 : Int32) (p3 : Int32) (p4 : Int32) (M : aw_M) (r : Int32) (M1 : aw_M), fm_tellsMost_L172 n p2 p3 p4 M = some (r, M1) → AW l D cy ad A gm_G RX10 cX10_tellsMost 7 (some .int) d (some (.int r)) M1 172 [(0, .ref (ad 0)), (2, .int p2), (3, .int p3), (4, .int p4)] [] M := by
  have hd1 : (d - 1) + 1 ≤ d := by omega
  have hm1 : 1 ≤ d := by omega
  have hh_0 : 0 ≤ d - 1 := by omega
  have hh_1 : 1 ≤ d - 1 := by omega
  have hh_106 : 106 ≤ d - 1 := by omega
  have hh_107 : 107 ≤ d - 1 := by omega
  intro n
  induction n with
  | zero => intro p2 p3 p4 M r M1 h; cases h
  | succ n ih =>
    intro p2 p3 p4 M r M1 h
    rw [fm_tellsMost_L172_s] at h
    refine x_iload (pc := 172) dX10_tellsMost_172 rfl ?_
    refine x_aload_n (pc := 174) 0 dX10_tellsMost_174 rfl rfl ?_
    refine x_get (pc := 175) dX10_tellsMost_175 lk_X10_7 gm_0 rfl rfl ?_
    refine x_iconst (pc := 178) (w := 2) dX10_tellsMost_178 ic_2 ?_
    refine x_ialdJ (pc := 179) 2 dX10_tellsMost_179 gm_1 (by decide) tn_2 ?_
    refine x_icmp_ge (pc := 180) 269 dX10_tellsMost_180 (by decide) (fun c_23 => ?_) (fun c_23 => ?_)
    · have h := aw_pos h c_23
      refine x_iload_n (pc := 269) 2 dX10_tellsMost_269 rfl rfl ?_
      obtain ⟨rfl, rfl⟩ := aw_so h
      exact x_iret (pc := 270) dX10_tellsMost_270
    · have h := aw_neg h c_23
      refine x_iconst (pc := 183) (w := 0) dX10_tellsMost_183 ic_0 ?_
      refine x_istore (pc := 184) 5 [(5, .int 0), (0, .ref (ad 0)), (2, .int p2), (3, .int p3), (4, .int p4)] dX10_tellsMost_184 (by decide) rfl ?_
      refine x_iconst (pc := 186) (w := 0) dX10_tellsMost_186 ic_0 ?_
      refine x_istore (pc := 187) 6 [(6, .int 0), (5, .int 0), (0, .ref (ad 0)), (2, .int p2), (3, .int p3), (4, .int p4)] dX10_tellsMost_187 (by decide) rfl ?_
      refine x_lv [2, 3, 4, 5, 1, 0] [(0, .ref (ad 0)), (2, .int p2), (3, .int p3), (4, .int p4), (5, .int 0), (6, .int 0)] rfl ?_
      exact tm_tellsMost_L189 d hd _ ih 2000 p2 p3 p4 0 0 _ _ _ h
def fm_tellsMost_L111 (K89 : Int32 → Int32 → aw_M → Option (Int32 × aw_M)) : Nat → Int32 → Int32 → Int32 → aw_M → Option (Int32 × aw_M)
  | 0, _, _, _, _ => none
  | n + 1, p1, p2, p3, M =>
    if (M 1 2) ≤ p3 then (
      K89 p1 (p2 + 1) M
    ) else (
      aw_bi (fm_shows p3 M) fun r_26 M_27 => (
      if aw_in ((5 * p3) + r_26) 30 then none else (
      if aw_in ((5 * p3) + r_26) 30 then none else (
      fm_tellsMost_L111 K89 n p1 p2 (p3 + 1) (aw_u M_27 10 ((5 * p3) + r_26).toNatClampNeg ((M_27 10 ((5 * p3) + r_26).toNatClampNeg) + 1))
      )
      )
      )
    )
theorem fm_tellsMost_L111_s (K89 : Int32 → Int32 → aw_M → Option (Int32 × aw_M)) (n : Nat) (p1 : Int32) (p2 : Int32) (p3 : Int32) (M : aw_M) : fm_tellsMost_L111 K89 (n + 1) p1 p2 p3 M = (
    if (M 1 2) ≤ p3 then (
      K89 p1 (p2 + 1) M
    ) else (
      aw_bi (fm_shows p3 M) fun r_26 M_27 => (
      if aw_in ((5 * p3) + r_26) 30 then none else (
      if aw_in ((5 * p3) + r_26) 30 then none else (
      fm_tellsMost_L111 K89 n p1 p2 (p3 + 1) (aw_u M_27 10 ((5 * p3) + r_26).toNatClampNeg ((M_27 10 ((5 * p3) + r_26).toNatClampNeg) + 1))
      )
      )
      )
    )
    ) := rfl
set_option maxRecDepth 20000 in
theorem tm_tellsMost_L111 {l : Launch} {D : va_G} {cy : Nat → ClassId} {ad : Nat → Nat} {A : Nat → Prop} (d : Nat) (hd : 108 ≤ d) (K89 : Int32 → Int32 → aw_M → Option (Int32 × aw_M)) (hK89 : ∀ (p1 : Int32) (p2 : Int32) (M : aw_M) (r : Int32) (M1 : aw_M), K89  p1 p2 M = some (r, M1) → AW l D cy ad A gm_G RX10 cX10_tellsMost 7 (some .int) d (some (.int r)) M1 89 [(0, .ref (ad 0)), (1, .int p1), (2, .int p2)] [] M) : ∀ (n : Nat) (p1 : Int32) (p2 : Int32) (p3 : Int32) (M : aw_M) (r : Int32) (M1 : aw_M), fm_tellsMost_L111 K89 n p1 p2 p3 M = some (r, M1) → AW l D cy ad A gm_G RX10 cX10_tellsMost 7 (some .int) d (some (.int r)) M1 111 [(0, .ref (ad 0)), (1, .int p1), (2, .int p2), (3, .int p3)] [] M := by
  have hd1 : (d - 1) + 1 ≤ d := by omega
  have hm1 : 1 ≤ d := by omega
  have hh_0 : 0 ≤ d - 1 := by omega
  have hh_1 : 1 ≤ d - 1 := by omega
  have hh_106 : 106 ≤ d - 1 := by omega
  have hh_107 : 107 ≤ d - 1 := by omega
  intro n
  induction n with
  | zero => intro p1 p2 p3 M r M1 h; cases h
  | succ n ih =>
    intro p1 p2 p3 M r M1 h
    rw [fm_tellsMost_L111_s] at h
    refine x_iload_n (pc := 111) 3 dX10_tellsMost_111 rfl rfl ?_
    refine x_aload_n (pc := 112) 0 dX10_tellsMost_112 rfl rfl ?_
    refine x_get (pc := 113) dX10_tellsMost_113 lk_X10_7 gm_0 rfl rfl ?_
    refine x_iconst (pc := 116) (w := 2) dX10_tellsMost_116 ic_2 ?_
    refine x_ialdJ (pc := 117) 2 dX10_tellsMost_117 gm_1 (by decide) tn_2 ?_
    refine x_icmp_ge (pc := 118) 145 dX10_tellsMost_118 (by decide) (fun c_24 => ?_) (fun c_24 => ?_)
    · have h := aw_pos h c_24
      refine x_iinc (pc := 145) (p2 + 1) [(2, .int (p2 + 1)), (0, .ref (ad 0)), (1, .int p1), (3, .int p3)] dX10_tellsMost_145 rfl (congrArg (fun z => p2 + z) ic_1) (by decide) rfl ?_
      refine x_goto (pc := 148) 89 dX10_tellsMost_148 (by decide) ?_
      refine x_lv [1, 2, 0] [(0, .ref (ad 0)), (1, .int p1), (2, .int (p2 + 1))] rfl ?_
      exact hK89 p1 (p2 + 1) _ _ _ h
    · have h := aw_neg h c_24
      refine x_aload_n (pc := 121) 0 dX10_tellsMost_121 rfl rfl ?_
      refine x_get (pc := 122) dX10_tellsMost_122 lk_X10_37 gm_0 rfl rfl ?_
      refine x_iconst (pc := 125) (w := 5) dX10_tellsMost_125 ic_5 ?_
      refine x_iload_n (pc := 126) 3 dX10_tellsMost_126 rfl rfl ?_
      refine x_imul (pc := 127) dX10_tellsMost_127 ?_
      refine x_aload_n (pc := 128) 0 dX10_tellsMost_128 rfl rfl ?_
      refine x_iload_n (pc := 129) 3 dX10_tellsMost_129 rfl rfl ?_
      obtain ⟨r_26, M_27, e_25, h⟩ := aw_bi_e h
      refine x_callV (pc := 130) (As := [.int p3]) (rest := [.int (5 * p3), .ref (ad 10)]) (st' := [.int r_26, .int (5 * p3), .ref (ad 10)]) (w := (some (.int r_26))) dX10_tellsMost_130 cw_X10_75 hd1 gm_0 rfl rfl rfl (Nat.le_of_ble_eq_true rfl) (tm_shows (d - 1) hh_106 p3 _ _ _ e_25) rfl ?_
      refine x_iadd (pc := 133) dX10_tellsMost_133 ?_
      refine x_dup2_11 (pc := 134) dX10_tellsMost_134 rfl rfl ?_
      obtain ⟨c_28, h⟩ := aw_ck h
      refine x_iald (pc := 135) dX10_tellsMost_135 gm_10 c_28 ?_
      refine x_iconst (pc := 136) (w := 1) dX10_tellsMost_136 ic_1 ?_
      refine x_iadd (pc := 137) dX10_tellsMost_137 ?_
      obtain ⟨c_29, h⟩ := aw_ck h
      refine x_iast (pc := 138) dX10_tellsMost_138 gm_10 c_29 ?_
      refine x_iinc (pc := 139) (p3 + 1) [(3, .int (p3 + 1)), (0, .ref (ad 0)), (1, .int p1), (2, .int p2)] dX10_tellsMost_139 rfl (congrArg (fun z => p3 + z) ic_1) (by decide) rfl ?_
      refine x_goto (pc := 142) 111 dX10_tellsMost_142 (by decide) ?_
      refine x_lv [1, 2, 3, 0] [(0, .ref (ad 0)), (1, .int p1), (2, .int p2), (3, .int (p3 + 1))] rfl ?_
      exact ih p1 p2 (p3 + 1) _ _ _ h
def fm_tellsMost_L89 : Nat → Int32 → Int32 → aw_M → Option (Int32 × aw_M)
  | 0, _, _, _ => none
  | n + 1, p1, p2, M =>
    if (600 : Int32) ≤ p2 then (
      aw_bv (fm_moveAll 3 1 M) fun M_16 => (
      fm_tellsMost_L172  2000 0 601 0 M_16
      )
    ) else (
      aw_bv (fm_turnsTo p2 M) fun M_18 => (
      aw_bi (fm_isShown p1 M_18) fun r_20 M_21 => (
      if r_20 = 0 then (
        fm_tellsMost_L89 n p1 (p2 + 1) M_21
      ) else (
        fm_tellsMost_L111 (fm_tellsMost_L89 n) 2000 p1 p2 0 M_21
      )
      )
      )
    )
theorem fm_tellsMost_L89_s (n : Nat) (p1 : Int32) (p2 : Int32) (M : aw_M) : fm_tellsMost_L89 (n + 1) p1 p2 M = (
    if (600 : Int32) ≤ p2 then (
      aw_bv (fm_moveAll 3 1 M) fun M_16 => (
      fm_tellsMost_L172  2000 0 601 0 M_16
      )
    ) else (
      aw_bv (fm_turnsTo p2 M) fun M_18 => (
      aw_bi (fm_isShown p1 M_18) fun r_20 M_21 => (
      if r_20 = 0 then (
        fm_tellsMost_L89 n p1 (p2 + 1) M_21
      ) else (
        fm_tellsMost_L111 (fm_tellsMost_L89 n) 2000 p1 p2 0 M_21
      )
      )
      )
    )
    ) := rfl
set_option maxRecDepth 20000 in
theorem tm_tellsMost_L89 {l : Launch} {D : va_G} {cy : Nat → ClassId} {ad : Nat → Nat} {A : Nat → Prop} (d : Nat) (hd : 108 ≤ d) : ∀ (n : Nat) (p1 : Int32) (p2 : Int32) (M : aw_M) (r : Int32) (M1 : aw_M), fm_tellsMost_L89 n p1 p2 M = some (r, M1) → AW l D cy ad A gm_G RX10 cX10_tellsMost 7 (some .int) d (some (.int r)) M1 89 [(0, .ref (ad 0)), (1, .int p1), (2, .int p2)] [] M := by
  have hd1 : (d - 1) + 1 ≤ d := by omega
  have hm1 : 1 ≤ d := by omega
  have hh_0 : 0 ≤ d - 1 := by omega
  have hh_1 : 1 ≤ d - 1 := by omega
  have hh_106 : 106 ≤ d - 1 := by omega
  have hh_107 : 107 ≤ d - 1 := by omega
  intro n
  induction n with
  | zero => intro p1 p2 M r M1 h; cases h
  | succ n ih =>
    intro p1 p2 M r M1 h
    rw [fm_tellsMost_L89_s] at h
    refine x_iload_n (pc := 89) 2 dX10_tellsMost_89 rfl rfl ?_
    refine x_sipush (pc := 90) (w := 600) dX10_tellsMost_90 si_600 ?_
    refine x_icmp_ge (pc := 93) 151 dX10_tellsMost_93 (by decide) (fun c_14 => ?_) (fun c_14 => ?_)
    · have h := aw_pos h c_14
      refine x_aload_n (pc := 151) 0 dX10_tellsMost_151 rfl rfl ?_
      refine x_aload_n (pc := 152) 0 dX10_tellsMost_152 rfl rfl ?_
      refine x_get (pc := 153) dX10_tellsMost_153 lk_X10_16 gm_0 rfl rfl ?_
      refine x_aload_n (pc := 156) 0 dX10_tellsMost_156 rfl rfl ?_
      refine x_get (pc := 157) dX10_tellsMost_157 lk_X10_7 gm_0 rfl rfl ?_
      obtain ⟨M_16, e_15, h⟩ := aw_bv_e h
      refine x_callV (pc := 160) (As := [.ref (ad 3), .ref (ad 1)]) (rest := []) (st' := []) (w := none) dX10_tellsMost_160 cw_X10_158 hd1 gm_0 rfl rfl rfl (Nat.le_of_ble_eq_true rfl) (tm_moveAll (d - 1) hh_0 3 gm_3 1 gm_1 _  _ e_15) rfl ?_
      refine x_iconst (pc := 163) (w := 0) dX10_tellsMost_163 ic_0 ?_
      refine x_istore_n (pc := 164) 2 [(2, .int 0), (0, .ref (ad 0)), (1, .int p1)] dX10_tellsMost_164 rfl (by decide) rfl ?_
      refine x_sipush (pc := 165) (w := 601) dX10_tellsMost_165 si_601 ?_
      refine x_istore_n (pc := 168) 3 [(3, .int 601), (2, .int 0), (0, .ref (ad 0)), (1, .int p1)] dX10_tellsMost_168 rfl (by decide) rfl ?_
      refine x_iconst (pc := 169) (w := 0) dX10_tellsMost_169 ic_0 ?_
      refine x_istore (pc := 170) 4 [(4, .int 0), (3, .int 601), (2, .int 0), (0, .ref (ad 0)), (1, .int p1)] dX10_tellsMost_170 (by decide) rfl ?_
      refine x_lv [3, 2, 1, 0] [(0, .ref (ad 0)), (2, .int 0), (3, .int 601), (4, .int 0)] rfl ?_
      exact tm_tellsMost_L172 d hd  2000 0 601 0 _ _ _ h
    · have h := aw_neg h c_14
      refine x_aload_n (pc := 96) 0 dX10_tellsMost_96 rfl rfl ?_
      refine x_iload_n (pc := 97) 2 dX10_tellsMost_97 rfl rfl ?_
      obtain ⟨M_18, e_17, h⟩ := aw_bv_e h
      refine x_callV (pc := 98) (As := [.int p2]) (rest := []) (st' := []) (w := none) dX10_tellsMost_98 cw_X10_194 hd1 gm_0 rfl rfl rfl (Nat.le_of_ble_eq_true rfl) (tm_turnsTo (d - 1) hh_0 p2 _  _ e_17) rfl ?_
      refine x_aload_n (pc := 101) 0 dX10_tellsMost_101 rfl rfl ?_
      refine x_iload_n (pc := 102) 1 dX10_tellsMost_102 rfl rfl ?_
      obtain ⟨r_20, M_21, e_19, h⟩ := aw_bi_e h
      refine x_callV (pc := 103) (As := [.int p1]) (rest := []) (st' := [.int r_20]) (w := (some (.int r_20))) dX10_tellsMost_103 cw_X10_197 hd1 gm_0 rfl rfl rfl (Nat.le_of_ble_eq_true rfl) (tm_isShown (d - 1) hh_107 p1 _ _ _ e_19) rfl ?_
      refine x_if_eq (pc := 106) 145 dX10_tellsMost_106 (by decide) (fun c_22 => ?_) (fun c_22 => ?_)
      · have h := aw_pos h c_22
        refine x_iinc (pc := 145) (p2 + 1) [(2, .int (p2 + 1)), (0, .ref (ad 0)), (1, .int p1)] dX10_tellsMost_145 rfl (congrArg (fun z => p2 + z) ic_1) (by decide) rfl ?_
        refine x_goto (pc := 148) 89 dX10_tellsMost_148 (by decide) ?_
        refine x_lv [1, 2, 0] [(0, .ref (ad 0)), (1, .int p1), (2, .int (p2 + 1))] rfl ?_
        exact ih p1 (p2 + 1) _ _ _ h
      · have h := aw_neg h c_22
        refine x_iconst (pc := 109) (w := 0) dX10_tellsMost_109 ic_0 ?_
        refine x_istore_n (pc := 110) 3 [(3, .int 0), (0, .ref (ad 0)), (1, .int p1), (2, .int p2)] dX10_tellsMost_110 rfl (by decide) rfl ?_
        refine x_lv [1, 2, 3, 0] [(0, .ref (ad 0)), (1, .int p1), (2, .int p2), (3, .int 0)] rfl ?_
        exact tm_tellsMost_L111 d hd _ ih 2000 p1 p2 0 _ _ _ h
def fm_tellsMost_L56 : Nat → Int32 → Int32 → aw_M → Option (Int32 × aw_M)
  | 0, _, _, _ => none
  | n + 1, p1, p2, M =>
    if (30 : Int32) ≤ p2 then (
      aw_bv (fm_moveAll 1 3 M) fun M_12 => (
      fm_tellsMost_L89  2000 p1 0 M_12
      )
    ) else (
      if aw_in p2 30 then none else (
      fm_tellsMost_L56 n p1 (p2 + 1) (aw_u M 10 p2.toNatClampNeg 0)
      )
    )
theorem fm_tellsMost_L56_s (n : Nat) (p1 : Int32) (p2 : Int32) (M : aw_M) : fm_tellsMost_L56 (n + 1) p1 p2 M = (
    if (30 : Int32) ≤ p2 then (
      aw_bv (fm_moveAll 1 3 M) fun M_12 => (
      fm_tellsMost_L89  2000 p1 0 M_12
      )
    ) else (
      if aw_in p2 30 then none else (
      fm_tellsMost_L56 n p1 (p2 + 1) (aw_u M 10 p2.toNatClampNeg 0)
      )
    )
    ) := rfl
set_option maxRecDepth 20000 in
theorem tm_tellsMost_L56 {l : Launch} {D : va_G} {cy : Nat → ClassId} {ad : Nat → Nat} {A : Nat → Prop} (d : Nat) (hd : 108 ≤ d) : ∀ (n : Nat) (p1 : Int32) (p2 : Int32) (M : aw_M) (r : Int32) (M1 : aw_M), fm_tellsMost_L56 n p1 p2 M = some (r, M1) → AW l D cy ad A gm_G RX10 cX10_tellsMost 7 (some .int) d (some (.int r)) M1 56 [(0, .ref (ad 0)), (1, .int p1), (2, .int p2)] [] M := by
  have hd1 : (d - 1) + 1 ≤ d := by omega
  have hm1 : 1 ≤ d := by omega
  have hh_0 : 0 ≤ d - 1 := by omega
  have hh_1 : 1 ≤ d - 1 := by omega
  have hh_106 : 106 ≤ d - 1 := by omega
  have hh_107 : 107 ≤ d - 1 := by omega
  intro n
  induction n with
  | zero => intro p1 p2 M r M1 h; cases h
  | succ n ih =>
    intro p1 p2 M r M1 h
    rw [fm_tellsMost_L56_s] at h
    refine x_iload_n (pc := 56) 2 dX10_tellsMost_56 rfl rfl ?_
    refine x_bipush (pc := 57) (w := 30) dX10_tellsMost_57 bi_30 ?_
    refine x_icmp_ge (pc := 59) 75 dX10_tellsMost_59 (by decide) (fun c_10 => ?_) (fun c_10 => ?_)
    · have h := aw_pos h c_10
      refine x_aload_n (pc := 75) 0 dX10_tellsMost_75 rfl rfl ?_
      refine x_aload_n (pc := 76) 0 dX10_tellsMost_76 rfl rfl ?_
      refine x_get (pc := 77) dX10_tellsMost_77 lk_X10_7 gm_0 rfl rfl ?_
      refine x_aload_n (pc := 80) 0 dX10_tellsMost_80 rfl rfl ?_
      refine x_get (pc := 81) dX10_tellsMost_81 lk_X10_16 gm_0 rfl rfl ?_
      obtain ⟨M_12, e_11, h⟩ := aw_bv_e h
      refine x_callV (pc := 84) (As := [.ref (ad 1), .ref (ad 3)]) (rest := []) (st' := []) (w := none) dX10_tellsMost_84 cw_X10_158 hd1 gm_0 rfl rfl rfl (Nat.le_of_ble_eq_true rfl) (tm_moveAll (d - 1) hh_0 1 gm_1 3 gm_3 _  _ e_11) rfl ?_
      refine x_iconst (pc := 87) (w := 0) dX10_tellsMost_87 ic_0 ?_
      refine x_istore_n (pc := 88) 2 [(2, .int 0), (0, .ref (ad 0)), (1, .int p1)] dX10_tellsMost_88 rfl (by decide) rfl ?_
      refine x_lv [1, 2, 0] [(0, .ref (ad 0)), (1, .int p1), (2, .int 0)] rfl ?_
      exact tm_tellsMost_L89 d hd  2000 p1 0 _ _ _ h
    · have h := aw_neg h c_10
      refine x_aload_n (pc := 62) 0 dX10_tellsMost_62 rfl rfl ?_
      refine x_get (pc := 63) dX10_tellsMost_63 lk_X10_37 gm_0 rfl rfl ?_
      refine x_iload_n (pc := 66) 2 dX10_tellsMost_66 rfl rfl ?_
      refine x_iconst (pc := 67) (w := 0) dX10_tellsMost_67 ic_0 ?_
      obtain ⟨c_13, h⟩ := aw_ck h
      refine x_iast (pc := 68) dX10_tellsMost_68 gm_10 c_13 ?_
      refine x_iinc (pc := 69) (p2 + 1) [(2, .int (p2 + 1)), (0, .ref (ad 0)), (1, .int p1)] dX10_tellsMost_69 rfl (congrArg (fun z => p2 + z) ic_1) (by decide) rfl ?_
      refine x_goto (pc := 72) 56 dX10_tellsMost_72 (by decide) ?_
      refine x_lv [1, 2, 0] [(0, .ref (ad 0)), (1, .int p1), (2, .int (p2 + 1))] rfl ?_
      exact ih p1 (p2 + 1) _ _ _ h
def fm_tellsMost (p1 : Int32) (M : aw_M) : Option (Int32 × aw_M) :=
  aw_bi (fm_isSheet p1 M) fun r_2 M_3 => (
  if r_2 = 0 then (
    fm_errs (-1000000001) M_3
  ) else (
    if aw_in p1 4 then none else (
    if (M_3 6 p1.toNatClampNeg) = 0 then (
      fm_errs (-1000000002) M_3
    ) else (
      if aw_in p1 4 then none else (
      if (M_3 7 p1.toNatClampNeg) = (M_3 1 2) then (
        if (M_3 1 2) = 0 then (
          fm_errs (-1000000002) M_3
        ) else (
          fm_tellsMost_L56  2000 p1 0 M_3
        )
      ) else (
        fm_errs (-1000000002) M_3
      )
      )
    )
    )
  )
  )
set_option maxRecDepth 20000 in
theorem tm_tellsMost {l : Launch} {D : va_G} {cy : Nat → ClassId} {ad : Nat → Nat} {A : Nat → Prop} (d : Nat) (hd : 108 ≤ d) (p1 : Int32) (M : aw_M) (r : Int32) (M1 : aw_M) (h : fm_tellsMost p1 M = some (r, M1)) : AX l D cy ad A gm_G yX10_tellsMost cX10_tellsMost 7 (some .int) d [.ref (ad 0), .int p1] M (some (.int r)) M1 := by
  have hd1 : (d - 1) + 1 ≤ d := by omega
  have hm1 : 1 ≤ d := by omega
  have hh_0 : 0 ≤ d - 1 := by omega
  have hh_1 : 1 ≤ d - 1 := by omega
  have hh_106 : 106 ≤ d - 1 := by omega
  have hh_107 : 107 ≤ d - 1 := by omega
  refine AX.of (own := RX10) (by decide +kernel) rfl (Nat.le_of_ble_eq_true rfl) ?_
  unfold fm_tellsMost at h
  show AW l D cy ad A gm_G RX10 cX10_tellsMost 7 (some .int) d (some (.int r)) M1 0 [(0, .ref (ad 0)), (1, .int p1)] [] M
  refine x_iload_n (pc := 0) 1 dX10_tellsMost_0 rfl rfl ?_
  obtain ⟨r_2, M_3, e_1, h⟩ := aw_bi_e h
  refine x_callS (pc := 1) (As := [.int p1]) (rest := []) (st' := [.int r_2]) (w := (some (.int r_2))) dX10_tellsMost_1 cw_X10_191 hd1 rfl rfl (Nat.le_of_ble_eq_true rfl) (tm_isSheet (d - 1) hh_1 p1 _ _ _ e_1) rfl ?_
  refine x_if_ne (pc := 4) 14 dX10_tellsMost_4 (by decide) (fun c_4 => ?_) (fun c_4 => ?_)
  · have h := aw_neg h c_4
    refine x_aload_n (pc := 14) 0 dX10_tellsMost_14 rfl rfl ?_
    refine x_get (pc := 15) dX10_tellsMost_15 lk_X10_25 gm_0 rfl rfl ?_
    refine x_iload_n (pc := 18) 1 dX10_tellsMost_18 rfl rfl ?_
    obtain ⟨c_5, h⟩ := aw_ck h
    refine x_iald (pc := 19) dX10_tellsMost_19 gm_6 c_5 ?_
    refine x_if_eq (pc := 20) 47 dX10_tellsMost_20 (by decide) (fun c_6 => ?_) (fun c_6 => ?_)
    · have h := aw_pos h c_6
      refine x_aload_n (pc := 47) 0 dX10_tellsMost_47 rfl rfl ?_
      refine x_ldc (pc := 48) dX10_tellsMost_48 wk_X10_187 ?_
      refine x_callV (pc := 50) (As := [.int (-1000000002)]) (rest := []) (st' := [.int r]) (w := (some (.int r))) dX10_tellsMost_50 cw_X10_49 hd1 gm_0 rfl rfl rfl (Nat.le_of_ble_eq_true rfl) (tm_errs (d - 1) hh_0 (-1000000002) _ _ _ h) rfl ?_
      exact x_iret (pc := 53) dX10_tellsMost_53
    · have h := aw_neg h c_6
      refine x_aload_n (pc := 23) 0 dX10_tellsMost_23 rfl rfl ?_
      refine x_get (pc := 24) dX10_tellsMost_24 lk_X10_28 gm_0 rfl rfl ?_
      refine x_iload_n (pc := 27) 1 dX10_tellsMost_27 rfl rfl ?_
      obtain ⟨c_7, h⟩ := aw_ck h
      refine x_iald (pc := 28) dX10_tellsMost_28 gm_7 c_7 ?_
      refine x_aload_n (pc := 29) 0 dX10_tellsMost_29 rfl rfl ?_
      refine x_get (pc := 30) dX10_tellsMost_30 lk_X10_7 gm_0 rfl rfl ?_
      refine x_iconst (pc := 33) (w := 2) dX10_tellsMost_33 ic_2 ?_
      refine x_ialdJ (pc := 34) 2 dX10_tellsMost_34 gm_1 (by decide) tn_2 ?_
      refine x_icmp_ne (pc := 35) 47 dX10_tellsMost_35 (by decide) (fun c_8 => ?_) (fun c_8 => ?_)
      · have h := aw_neg h c_8
        refine x_aload_n (pc := 47) 0 dX10_tellsMost_47 rfl rfl ?_
        refine x_ldc (pc := 48) dX10_tellsMost_48 wk_X10_187 ?_
        refine x_callV (pc := 50) (As := [.int (-1000000002)]) (rest := []) (st' := [.int r]) (w := (some (.int r))) dX10_tellsMost_50 cw_X10_49 hd1 gm_0 rfl rfl rfl (Nat.le_of_ble_eq_true rfl) (tm_errs (d - 1) hh_0 (-1000000002) _ _ _ h) rfl ?_
        exact x_iret (pc := 53) dX10_tellsMost_53
      · have h := aw_pos h c_8
        refine x_aload_n (pc := 38) 0 dX10_tellsMost_38 rfl rfl ?_
        refine x_get (pc := 39) dX10_tellsMost_39 lk_X10_7 gm_0 rfl rfl ?_
        refine x_iconst (pc := 42) (w := 2) dX10_tellsMost_42 ic_2 ?_
        refine x_ialdJ (pc := 43) 2 dX10_tellsMost_43 gm_1 (by decide) tn_2 ?_
        refine x_if_ne (pc := 44) 54 dX10_tellsMost_44 (by decide) (fun c_9 => ?_) (fun c_9 => ?_)
        · have h := aw_neg h c_9
          refine x_iconst (pc := 54) (w := 0) dX10_tellsMost_54 ic_0 ?_
          refine x_istore_n (pc := 55) 2 [(2, .int 0), (0, .ref (ad 0)), (1, .int p1)] dX10_tellsMost_55 rfl (by decide) rfl ?_
          refine x_lv [1, 2, 0] [(0, .ref (ad 0)), (1, .int p1), (2, .int 0)] rfl ?_
          exact tm_tellsMost_L56 d hd  2000 p1 0 _ _ _ h
        · have h := aw_pos h c_9
          refine x_aload_n (pc := 47) 0 dX10_tellsMost_47 rfl rfl ?_
          refine x_ldc (pc := 48) dX10_tellsMost_48 wk_X10_187 ?_
          refine x_callV (pc := 50) (As := [.int (-1000000002)]) (rest := []) (st' := [.int r]) (w := (some (.int r))) dX10_tellsMost_50 cw_X10_49 hd1 gm_0 rfl rfl rfl (Nat.le_of_ble_eq_true rfl) (tm_errs (d - 1) hh_0 (-1000000002) _ _ _ h) rfl ?_
          exact x_iret (pc := 53) dX10_tellsMost_53
  · have h := aw_pos h c_4
    refine x_aload_n (pc := 7) 0 dX10_tellsMost_7 rfl rfl ?_
    refine x_ldc (pc := 8) dX10_tellsMost_8 wk_X10_48 ?_
    refine x_callV (pc := 10) (As := [.int (-1000000001)]) (rest := []) (st' := [.int r]) (w := (some (.int r))) dX10_tellsMost_10 cw_X10_49 hd1 gm_0 rfl rfl rfl (Nat.le_of_ble_eq_true rfl) (tm_errs (d - 1) hh_0 (-1000000001) _ _ _ h) rfl ?_
    exact x_iret (pc := 13) dX10_tellsMost_13
def fm_knobWas_L61 : Nat → Int32 → Int32 → Int32 → Int32 → Int32 → Int32 → aw_M → Option (Int32 × aw_M)
  | 0, _, _, _, _, _, _, _ => none
  | n + 1, p1, p2, p3, p4, p5, p6, M =>
    if (9 : Int32) < p6 then (
      some (p5, (aw_u M 1 8 p4))
    ) else (
      aw_bi (fm_shows p1 (aw_u M 1 8 p6)) fun r_17 M_18 => (
      if r_17 = (p3 / 10) then (
        aw_bi (fm_shows p2 M_18) fun r_21 M_22 => (
        if r_21 = (aw_rem p3 10) then (
          fm_knobWas_L61 n p1 p2 p3 p4 (p5 ||| (1 <<< (p6 &&& 31))) (p6 + 1) M_22
        ) else (
          fm_knobWas_L61 n p1 p2 p3 p4 (p5 ||| 0) (p6 + 1) M_22
        )
        )
      ) else (
        fm_knobWas_L61 n p1 p2 p3 p4 (p5 ||| 0) (p6 + 1) M_18
      )
      )
    )
theorem fm_knobWas_L61_s (n : Nat) (p1 : Int32) (p2 : Int32) (p3 : Int32) (p4 : Int32) (p5 : Int32) (p6 : Int32) (M : aw_M) : fm_knobWas_L61 (n + 1) p1 p2 p3 p4 p5 p6 M = (
    if (9 : Int32) < p6 then (
      some (p5, (aw_u M 1 8 p4))
    ) else (
      aw_bi (fm_shows p1 (aw_u M 1 8 p6)) fun r_17 M_18 => (
      if r_17 = (p3 / 10) then (
        aw_bi (fm_shows p2 M_18) fun r_21 M_22 => (
        if r_21 = (aw_rem p3 10) then (
          fm_knobWas_L61 n p1 p2 p3 p4 (p5 ||| (1 <<< (p6 &&& 31))) (p6 + 1) M_22
        ) else (
          fm_knobWas_L61 n p1 p2 p3 p4 (p5 ||| 0) (p6 + 1) M_22
        )
        )
      ) else (
        fm_knobWas_L61 n p1 p2 p3 p4 (p5 ||| 0) (p6 + 1) M_18
      )
      )
    )
    ) := rfl
set_option maxRecDepth 20000 in
theorem tm_knobWas_L61 {l : Launch} {D : va_G} {cy : Nat → ClassId} {ad : Nat → Nat} {A : Nat → Prop} (d : Nat) (hd : 107 ≤ d) : ∀ (n : Nat) (p1 : Int32) (p2 : Int32) (p3 : Int32) (p4 : Int32) (p5 : Int32) (p6 : Int32) (M : aw_M) (r : Int32) (M1 : aw_M), fm_knobWas_L61 n p1 p2 p3 p4 p5 p6 M = some (r, M1) → AW l D cy ad A gm_G RX10 cX10_knobWas 7 (some .int) d (some (.int r)) M1 61 [(0, .ref (ad 0)), (1, .int p1), (2, .int p2), (3, .int p3), (4, .int p4), (5, .int p5), (6, .int p6)] [] M := by
  have hd1 : (d - 1) + 1 ≤ d := by omega
  have hm1 : 1 ≤ d := by omega
  have hh_0 : 0 ≤ d - 1 := by omega
  have hh_1 : 1 ≤ d - 1 := by omega
  have hh_106 : 106 ≤ d - 1 := by omega
  intro n
  induction n with
  | zero => intro p1 p2 p3 p4 p5 p6 M r M1 h; cases h
  | succ n ih =>
    intro p1 p2 p3 p4 p5 p6 M r M1 h
    rw [fm_knobWas_L61_s] at h
    refine x_iload (pc := 61) dX10_knobWas_61 rfl ?_
    refine x_bipush (pc := 63) (w := 9) dX10_knobWas_63 bi_9 ?_
    refine x_icmp_gt (pc := 65) 120 dX10_knobWas_65 (by decide) (fun c_15 => ?_) (fun c_15 => ?_)
    · have h := aw_pos h c_15
      refine x_aload_n (pc := 120) 0 dX10_knobWas_120 rfl rfl ?_
      refine x_get (pc := 121) dX10_knobWas_121 lk_X10_7 gm_0 rfl rfl ?_
      refine x_bipush (pc := 124) (w := 8) dX10_knobWas_124 bi_8 ?_
      refine x_iload (pc := 126) dX10_knobWas_126 rfl ?_
      refine x_iastJ (pc := 128) 8 dX10_knobWas_128 gm_1 (by decide) tn_8 ?_
      refine x_iload (pc := 129) dX10_knobWas_129 rfl ?_
      obtain ⟨rfl, rfl⟩ := aw_so h
      exact x_iret (pc := 131) dX10_knobWas_131
    · have h := aw_neg h c_15
      refine x_aload_n (pc := 68) 0 dX10_knobWas_68 rfl rfl ?_
      refine x_get (pc := 69) dX10_knobWas_69 lk_X10_7 gm_0 rfl rfl ?_
      refine x_bipush (pc := 72) (w := 8) dX10_knobWas_72 bi_8 ?_
      refine x_iload (pc := 74) dX10_knobWas_74 rfl ?_
      refine x_iastJ (pc := 76) 8 dX10_knobWas_76 gm_1 (by decide) tn_8 ?_
      refine x_iload (pc := 77) dX10_knobWas_77 rfl ?_
      refine x_aload_n (pc := 79) 0 dX10_knobWas_79 rfl rfl ?_
      refine x_iload_n (pc := 80) 1 dX10_knobWas_80 rfl rfl ?_
      obtain ⟨r_17, M_18, e_16, h⟩ := aw_bi_e h
      refine x_callV (pc := 81) (As := [.int p1]) (rest := [.int p5]) (st' := [.int r_17, .int p5]) (w := (some (.int r_17))) dX10_knobWas_81 cw_X10_75 hd1 gm_0 rfl rfl rfl (Nat.le_of_ble_eq_true rfl) (tm_shows (d - 1) hh_106 p1 _ _ _ e_16) rfl ?_
      refine x_iload_n (pc := 84) 3 dX10_knobWas_84 rfl rfl ?_
      refine x_bipush (pc := 85) (w := 10) dX10_knobWas_85 bi_10 ?_
      refine x_idiv (pc := 87) dX10_knobWas_87 (by decide) ?_
      refine x_icmp_ne (pc := 88) 110 dX10_knobWas_88 (by decide) (fun c_19 => ?_) (fun c_19 => ?_)
      · have h := aw_neg h c_19
        refine x_iconst (pc := 110) (w := 0) dX10_knobWas_110 ic_0 ?_
        refine x_ior (pc := 111) dX10_knobWas_111 ?_
        refine x_istore (pc := 112) 5 [(5, .int (p5 ||| 0)), (0, .ref (ad 0)), (1, .int p1), (2, .int p2), (3, .int p3), (4, .int p4), (6, .int p6)] dX10_knobWas_112 (by decide) rfl ?_
        refine x_iinc (pc := 114) (p6 + 1) [(6, .int (p6 + 1)), (5, .int (p5 ||| 0)), (0, .ref (ad 0)), (1, .int p1), (2, .int p2), (3, .int p3), (4, .int p4)] dX10_knobWas_114 rfl (congrArg (fun z => p6 + z) ic_1) (by decide) rfl ?_
        refine x_goto (pc := 117) 61 dX10_knobWas_117 (by decide) ?_
        refine x_lv [2, 3, 4, 5, 6, 1, 0] [(0, .ref (ad 0)), (1, .int p1), (2, .int p2), (3, .int p3), (4, .int p4), (5, .int (p5 ||| 0)), (6, .int (p6 + 1))] rfl ?_
        exact ih p1 p2 p3 p4 (p5 ||| 0) (p6 + 1) _ _ _ h
      · have h := aw_pos h c_19
        refine x_aload_n (pc := 91) 0 dX10_knobWas_91 rfl rfl ?_
        refine x_iload_n (pc := 92) 2 dX10_knobWas_92 rfl rfl ?_
        obtain ⟨r_21, M_22, e_20, h⟩ := aw_bi_e h
        refine x_callV (pc := 93) (As := [.int p2]) (rest := [.int p5]) (st' := [.int r_21, .int p5]) (w := (some (.int r_21))) dX10_knobWas_93 cw_X10_75 hd1 gm_0 rfl rfl rfl (Nat.le_of_ble_eq_true rfl) (tm_shows (d - 1) hh_106 p2 _ _ _ e_20) rfl ?_
        refine x_iload_n (pc := 96) 3 dX10_knobWas_96 rfl rfl ?_
        refine x_bipush (pc := 97) (w := 10) dX10_knobWas_97 bi_10 ?_
        refine x_irem (pc := 99) dX10_knobWas_99 (by decide) ?_
        refine x_icmp_ne (pc := 100) 110 dX10_knobWas_100 (by decide) (fun c_23 => ?_) (fun c_23 => ?_)
        · have h := aw_neg h c_23
          refine x_iconst (pc := 110) (w := 0) dX10_knobWas_110 ic_0 ?_
          refine x_ior (pc := 111) dX10_knobWas_111 ?_
          refine x_istore (pc := 112) 5 [(5, .int (p5 ||| 0)), (0, .ref (ad 0)), (1, .int p1), (2, .int p2), (3, .int p3), (4, .int p4), (6, .int p6)] dX10_knobWas_112 (by decide) rfl ?_
          refine x_iinc (pc := 114) (p6 + 1) [(6, .int (p6 + 1)), (5, .int (p5 ||| 0)), (0, .ref (ad 0)), (1, .int p1), (2, .int p2), (3, .int p3), (4, .int p4)] dX10_knobWas_114 rfl (congrArg (fun z => p6 + z) ic_1) (by decide) rfl ?_
          refine x_goto (pc := 117) 61 dX10_knobWas_117 (by decide) ?_
          refine x_lv [2, 3, 4, 5, 6, 1, 0] [(0, .ref (ad 0)), (1, .int p1), (2, .int p2), (3, .int p3), (4, .int p4), (5, .int (p5 ||| 0)), (6, .int (p6 + 1))] rfl ?_
          exact ih p1 p2 p3 p4 (p5 ||| 0) (p6 + 1) _ _ _ h
        · have h := aw_pos h c_23
          refine x_iconst (pc := 103) (w := 1) dX10_knobWas_103 ic_1 ?_
          refine x_iload (pc := 104) dX10_knobWas_104 rfl ?_
          refine x_ishl (pc := 106) dX10_knobWas_106 ?_
          refine x_goto (pc := 107) 111 dX10_knobWas_107 (by decide) ?_
          refine x_ior (pc := 111) dX10_knobWas_111 ?_
          refine x_istore (pc := 112) 5 [(5, .int (p5 ||| (1 <<< (p6 &&& 31)))), (0, .ref (ad 0)), (1, .int p1), (2, .int p2), (3, .int p3), (4, .int p4), (6, .int p6)] dX10_knobWas_112 (by decide) rfl ?_
          refine x_iinc (pc := 114) (p6 + 1) [(6, .int (p6 + 1)), (5, .int (p5 ||| (1 <<< (p6 &&& 31)))), (0, .ref (ad 0)), (1, .int p1), (2, .int p2), (3, .int p3), (4, .int p4)] dX10_knobWas_114 rfl (congrArg (fun z => p6 + z) ic_1) (by decide) rfl ?_
          refine x_goto (pc := 117) 61 dX10_knobWas_117 (by decide) ?_
          refine x_lv [2, 3, 4, 5, 6, 1, 0] [(0, .ref (ad 0)), (1, .int p1), (2, .int p2), (3, .int p3), (4, .int p4), (5, .int (p5 ||| (1 <<< (p6 &&& 31)))), (6, .int (p6 + 1))] rfl ?_
          exact ih p1 p2 p3 p4 (p5 ||| (1 <<< (p6 &&& 31))) (p6 + 1) _ _ _ h
def fm_knobWas (p1 : Int32) (p2 : Int32) (p3 : Int32) (M : aw_M) : Option (Int32 × aw_M) :=
  aw_bi (fm_isCloth p1 M) fun r_2 M_3 => (
  if r_2 = 0 then (
    fm_errs (-1000000001) M_3
  ) else (
    aw_bi (fm_isCloth p2 M_3) fun r_6 M_7 => (
    if r_6 = 0 then (
      fm_errs (-1000000001) M_7
    ) else (
      if p1 = p2 then (
        fm_errs (-1000000001) M_7
      ) else (
        aw_bi (fm_in p3 0 44 M_7) fun r_11 M_12 => (
        if r_11 = 0 then (
          fm_errs (-1000000001) M_12
        ) else (
          if (aw_rem p3 10) ≤ 4 then (
            fm_knobWas_L61  2000 p1 p2 p3 (M_12 1 8) 0 0 M_12
          ) else (
            fm_errs (-1000000001) M_12
          )
        )
        )
      )
    )
    )
  )
  )
set_option maxRecDepth 20000 in
theorem tm_knobWas {l : Launch} {D : va_G} {cy : Nat → ClassId} {ad : Nat → Nat} {A : Nat → Prop} (d : Nat) (hd : 107 ≤ d) (p1 : Int32) (p2 : Int32) (p3 : Int32) (M : aw_M) (r : Int32) (M1 : aw_M) (h : fm_knobWas p1 p2 p3 M = some (r, M1)) : AX l D cy ad A gm_G yX10_knobWas cX10_knobWas 7 (some .int) d [.ref (ad 0), .int p1, .int p2, .int p3] M (some (.int r)) M1 := by
  have hd1 : (d - 1) + 1 ≤ d := by omega
  have hm1 : 1 ≤ d := by omega
  have hh_0 : 0 ≤ d - 1 := by omega
  have hh_1 : 1 ≤ d - 1 := by omega
  have hh_106 : 106 ≤ d - 1 := by omega
  refine AX.of (own := RX10) (by decide +kernel) rfl (Nat.le_of_ble_eq_true rfl) ?_
  unfold fm_knobWas at h
  show AW l D cy ad A gm_G RX10 cX10_knobWas 7 (some .int) d (some (.int r)) M1 0 [(0, .ref (ad 0)), (1, .int p1), (2, .int p2), (3, .int p3)] [] M
  refine x_aload_n (pc := 0) 0 dX10_knobWas_0 rfl rfl ?_
  refine x_iload_n (pc := 1) 1 dX10_knobWas_1 rfl rfl ?_
  obtain ⟨r_2, M_3, e_1, h⟩ := aw_bi_e h
  refine x_callV (pc := 2) (As := [.int p1]) (rest := []) (st' := [.int r_2]) (w := (some (.int r_2))) dX10_knobWas_2 cw_X10_62 hd1 gm_0 rfl rfl rfl (Nat.le_of_ble_eq_true rfl) (tm_isCloth (d - 1) hh_1 p1 _ _ _ e_1) rfl ?_
  refine x_if_eq (pc := 5) 39 dX10_knobWas_5 (by decide) (fun c_4 => ?_) (fun c_4 => ?_)
  · have h := aw_pos h c_4
    refine x_aload_n (pc := 39) 0 dX10_knobWas_39 rfl rfl ?_
    refine x_ldc (pc := 40) dX10_knobWas_40 wk_X10_48 ?_
    refine x_callV (pc := 42) (As := [.int (-1000000001)]) (rest := []) (st' := [.int r]) (w := (some (.int r))) dX10_knobWas_42 cw_X10_49 hd1 gm_0 rfl rfl rfl (Nat.le_of_ble_eq_true rfl) (tm_errs (d - 1) hh_0 (-1000000001) _ _ _ h) rfl ?_
    exact x_iret (pc := 45) dX10_knobWas_45
  · have h := aw_neg h c_4
    refine x_aload_n (pc := 8) 0 dX10_knobWas_8 rfl rfl ?_
    refine x_iload_n (pc := 9) 2 dX10_knobWas_9 rfl rfl ?_
    obtain ⟨r_6, M_7, e_5, h⟩ := aw_bi_e h
    refine x_callV (pc := 10) (As := [.int p2]) (rest := []) (st' := [.int r_6]) (w := (some (.int r_6))) dX10_knobWas_10 cw_X10_62 hd1 gm_0 rfl rfl rfl (Nat.le_of_ble_eq_true rfl) (tm_isCloth (d - 1) hh_1 p2 _ _ _ e_5) rfl ?_
    refine x_if_eq (pc := 13) 39 dX10_knobWas_13 (by decide) (fun c_8 => ?_) (fun c_8 => ?_)
    · have h := aw_pos h c_8
      refine x_aload_n (pc := 39) 0 dX10_knobWas_39 rfl rfl ?_
      refine x_ldc (pc := 40) dX10_knobWas_40 wk_X10_48 ?_
      refine x_callV (pc := 42) (As := [.int (-1000000001)]) (rest := []) (st' := [.int r]) (w := (some (.int r))) dX10_knobWas_42 cw_X10_49 hd1 gm_0 rfl rfl rfl (Nat.le_of_ble_eq_true rfl) (tm_errs (d - 1) hh_0 (-1000000001) _ _ _ h) rfl ?_
      exact x_iret (pc := 45) dX10_knobWas_45
    · have h := aw_neg h c_8
      refine x_iload_n (pc := 16) 1 dX10_knobWas_16 rfl rfl ?_
      refine x_iload_n (pc := 17) 2 dX10_knobWas_17 rfl rfl ?_
      refine x_icmp_eq (pc := 18) 39 dX10_knobWas_18 (by decide) (fun c_9 => ?_) (fun c_9 => ?_)
      · have h := aw_pos h c_9
        refine x_aload_n (pc := 39) 0 dX10_knobWas_39 rfl rfl ?_
        refine x_ldc (pc := 40) dX10_knobWas_40 wk_X10_48 ?_
        refine x_callV (pc := 42) (As := [.int (-1000000001)]) (rest := []) (st' := [.int r]) (w := (some (.int r))) dX10_knobWas_42 cw_X10_49 hd1 gm_0 rfl rfl rfl (Nat.le_of_ble_eq_true rfl) (tm_errs (d - 1) hh_0 (-1000000001) _ _ _ h) rfl ?_
        exact x_iret (pc := 45) dX10_knobWas_45
      · have h := aw_neg h c_9
        refine x_iload_n (pc := 21) 3 dX10_knobWas_21 rfl rfl ?_
        refine x_iconst (pc := 22) (w := 0) dX10_knobWas_22 ic_0 ?_
        refine x_bipush (pc := 23) (w := 44) dX10_knobWas_23 bi_44 ?_
        obtain ⟨r_11, M_12, e_10, h⟩ := aw_bi_e h
        refine x_callS (pc := 25) (As := [.int p3, .int 0, .int 44]) (rest := []) (st' := [.int r_11]) (w := (some (.int r_11))) dX10_knobWas_25 cw_X10_44 hd1 rfl rfl (Nat.le_of_ble_eq_true rfl) (tm_in (d - 1) hh_0 p3 0 44 _ _ _ e_10) rfl ?_
        refine x_if_eq (pc := 28) 39 dX10_knobWas_28 (by decide) (fun c_13 => ?_) (fun c_13 => ?_)
        · have h := aw_pos h c_13
          refine x_aload_n (pc := 39) 0 dX10_knobWas_39 rfl rfl ?_
          refine x_ldc (pc := 40) dX10_knobWas_40 wk_X10_48 ?_
          refine x_callV (pc := 42) (As := [.int (-1000000001)]) (rest := []) (st' := [.int r]) (w := (some (.int r))) dX10_knobWas_42 cw_X10_49 hd1 gm_0 rfl rfl rfl (Nat.le_of_ble_eq_true rfl) (tm_errs (d - 1) hh_0 (-1000000001) _ _ _ h) rfl ?_
          exact x_iret (pc := 45) dX10_knobWas_45
        · have h := aw_neg h c_13
          refine x_iload_n (pc := 31) 3 dX10_knobWas_31 rfl rfl ?_
          refine x_bipush (pc := 32) (w := 10) dX10_knobWas_32 bi_10 ?_
          refine x_irem (pc := 34) dX10_knobWas_34 (by decide) ?_
          refine x_iconst (pc := 35) (w := 4) dX10_knobWas_35 ic_4 ?_
          refine x_icmp_le (pc := 36) 46 dX10_knobWas_36 (by decide) (fun c_14 => ?_) (fun c_14 => ?_)
          · have h := aw_pos h c_14
            refine x_aload_n (pc := 46) 0 dX10_knobWas_46 rfl rfl ?_
            refine x_get (pc := 47) dX10_knobWas_47 lk_X10_7 gm_0 rfl rfl ?_
            refine x_bipush (pc := 50) (w := 8) dX10_knobWas_50 bi_8 ?_
            refine x_ialdJ (pc := 52) 8 dX10_knobWas_52 gm_1 (by decide) tn_8 ?_
            refine x_istore (pc := 53) 4 [(4, .int (M_12 1 8)), (0, .ref (ad 0)), (1, .int p1), (2, .int p2), (3, .int p3)] dX10_knobWas_53 (by decide) rfl ?_
            refine x_iconst (pc := 55) (w := 0) dX10_knobWas_55 ic_0 ?_
            refine x_istore (pc := 56) 5 [(5, .int 0), (4, .int (M_12 1 8)), (0, .ref (ad 0)), (1, .int p1), (2, .int p2), (3, .int p3)] dX10_knobWas_56 (by decide) rfl ?_
            refine x_iconst (pc := 58) (w := 0) dX10_knobWas_58 ic_0 ?_
            refine x_istore (pc := 59) 6 [(6, .int 0), (5, .int 0), (4, .int (M_12 1 8)), (0, .ref (ad 0)), (1, .int p1), (2, .int p2), (3, .int p3)] dX10_knobWas_59 (by decide) rfl ?_
            refine x_lv [3, 4, 5, 6, 2, 1, 0] [(0, .ref (ad 0)), (1, .int p1), (2, .int p2), (3, .int p3), (4, .int (M_12 1 8)), (5, .int 0), (6, .int 0)] rfl ?_
            exact tm_knobWas_L61 d hd  2000 p1 p2 p3 (M_12 1 8) 0 0 _ _ _ h
          · have h := aw_neg h c_14
            refine x_aload_n (pc := 39) 0 dX10_knobWas_39 rfl rfl ?_
            refine x_ldc (pc := 40) dX10_knobWas_40 wk_X10_48 ?_
            refine x_callV (pc := 42) (As := [.int (-1000000001)]) (rest := []) (st' := [.int r]) (w := (some (.int r))) dX10_knobWas_42 cw_X10_49 hd1 gm_0 rfl rfl rfl (Nat.le_of_ble_eq_true rfl) (tm_errs (d - 1) hh_0 (-1000000001) _ _ _ h) rfl ?_
            exact x_iret (pc := 45) dX10_knobWas_45
def fm_triesRow_J150 (p5 : Int32) (p7 : Int32) (p8 : Int32) (M : aw_M) : Option aw_M :=
    aw_bv (fm_moveAll 3 1 M) fun M_16 => (
    if p8 = 0 then (
      some M_16
    ) else (
      if (M_16 0 20) < 0 then (
        some (aw_u (aw_u M_16 0 20 p7) 0 21 p5)
      ) else (
        if (M_16 0 20) ≤ p7 then (
          some M_16
        ) else (
          some (aw_u (aw_u M_16 0 20 p7) 0 21 p5)
        )
      )
    )
    )
set_option maxRecDepth 20000 in
theorem tm_triesRow_J150 {l : Launch} {D : va_G} {cy : Nat → ClassId} {ad : Nat → Nat} {A : Nat → Prop} (d : Nat) (hd : 109 ≤ d) (p5 : Int32) (p7 : Int32) (p8 : Int32) (M : aw_M) (M1 : aw_M) (h : fm_triesRow_J150 p5 p7 p8 M = some M1) : AW l D cy ad A gm_G RX10 cX10_triesRow 11 none d none M1 150 [(0, .ref (ad 0)), (5, .int p5), (7, .int p7), (8, .int p8)] [] M := by
  have hd1 : (d - 1) + 1 ≤ d := by omega
  have hm1 : 1 ≤ d := by omega
  have hh_0 : 0 ≤ d - 1 := by omega
  have hh_1 : 1 ≤ d - 1 := by omega
  have hh_108 : 108 ≤ d - 1 := by omega
  unfold fm_triesRow_J150 at h
  refine x_aload_n (pc := 150) 0 dX10_triesRow_150 rfl rfl ?_
  refine x_aload_n (pc := 151) 0 dX10_triesRow_151 rfl rfl ?_
  refine x_get (pc := 152) dX10_triesRow_152 lk_X10_16 gm_0 rfl rfl ?_
  refine x_aload_n (pc := 155) 0 dX10_triesRow_155 rfl rfl ?_
  refine x_get (pc := 156) dX10_triesRow_156 lk_X10_7 gm_0 rfl rfl ?_
  obtain ⟨M_16, e_15, h⟩ := aw_bv_e h
  refine x_callV (pc := 159) (As := [.ref (ad 3), .ref (ad 1)]) (rest := []) (st' := []) (w := none) dX10_triesRow_159 cw_X10_158 hd1 gm_0 rfl rfl rfl (Nat.le_of_ble_eq_true rfl) (tm_moveAll (d - 1) hh_0 3 gm_3 1 gm_1 _  _ e_15) rfl ?_
  refine x_iload (pc := 162) dX10_triesRow_162 rfl ?_
  refine x_if_eq (pc := 164) 195 dX10_triesRow_164 (by decide) (fun c_17 => ?_) (fun c_17 => ?_)
  · have h := aw_pos h c_17
    obtain rfl := aw_sv h
    exact x_vret (pc := 195) dX10_triesRow_195
  · have h := aw_neg h c_17
    refine x_aload_n (pc := 167) 0 dX10_triesRow_167 rfl rfl ?_
    refine x_get (pc := 168) dX10_triesRow_168 lk_X10_200 gm_0 rfl rfl ?_
    refine x_if_lt (pc := 171) 183 dX10_triesRow_171 (by decide) (fun c_18 => ?_) (fun c_18 => ?_)
    · have h := aw_pos h c_18
      refine x_aload_n (pc := 183) 0 dX10_triesRow_183 rfl rfl ?_
      refine x_iload (pc := 184) dX10_triesRow_184 rfl ?_
      refine x_put (pc := 186) (x := p7) dX10_triesRow_186 lk_X10_200 lp_X10_20 gm_0 rfl rfl rfl rfl ?_
      refine x_aload_n (pc := 189) 0 dX10_triesRow_189 rfl rfl ?_
      refine x_iload (pc := 190) dX10_triesRow_190 rfl ?_
      refine x_put (pc := 192) (x := p5) dX10_triesRow_192 lk_X10_203 lp_X10_21 gm_0 rfl rfl rfl rfl ?_
      obtain rfl := aw_sv h
      exact x_vret (pc := 195) dX10_triesRow_195
    · have h := aw_neg h c_18
      refine x_iload (pc := 174) dX10_triesRow_174 rfl ?_
      refine x_aload_n (pc := 176) 0 dX10_triesRow_176 rfl rfl ?_
      refine x_get (pc := 177) dX10_triesRow_177 lk_X10_200 gm_0 rfl rfl ?_
      refine x_icmp_ge (pc := 180) 195 dX10_triesRow_180 (by decide) (fun c_19 => ?_) (fun c_19 => ?_)
      · have h := aw_pos h c_19
        obtain rfl := aw_sv h
        exact x_vret (pc := 195) dX10_triesRow_195
      · have h := aw_neg h c_19
        refine x_aload_n (pc := 183) 0 dX10_triesRow_183 rfl rfl ?_
        refine x_iload (pc := 184) dX10_triesRow_184 rfl ?_
        refine x_put (pc := 186) (x := p7) dX10_triesRow_186 lk_X10_200 lp_X10_20 gm_0 rfl rfl rfl rfl ?_
        refine x_aload_n (pc := 189) 0 dX10_triesRow_189 rfl rfl ?_
        refine x_iload (pc := 190) dX10_triesRow_190 rfl ?_
        refine x_put (pc := 192) (x := p5) dX10_triesRow_192 lk_X10_203 lp_X10_21 gm_0 rfl rfl rfl rfl ?_
        obtain rfl := aw_sv h
        exact x_vret (pc := 195) dX10_triesRow_195
def fm_triesRow_J108 (K65 : Int32 → Int32 → Int32 → Int32 → Int32 → Int32 → Int32 → aw_M → Option aw_M) (p1 : Int32) (p3 : Int32) (p5 : Int32) (p6 : Int32) (p7 : Int32) (p9 : Int32) (p10 : Int32) (p100 : Int32) (M : aw_M) : Option aw_M :=
    if p100 = 0 then (
      K65 p1 p3 p5 (p6 ||| (1 <<< (p10 &&& 31))) (p7 + 0) p100 (p9 / 6) M
    ) else (
      aw_bi (fm_sews p10 p3 M) fun r_22 M_23 => (
      K65 p1 p3 p5 (p6 ||| (1 <<< (p10 &&& 31))) (p7 + r_22) p100 (p9 / 6) M_23
      )
    )
set_option maxRecDepth 20000 in
theorem tm_triesRow_J108 {l : Launch} {D : va_G} {cy : Nat → ClassId} {ad : Nat → Nat} {A : Nat → Prop} (d : Nat) (hd : 109 ≤ d) (K65 : Int32 → Int32 → Int32 → Int32 → Int32 → Int32 → Int32 → aw_M → Option aw_M) (hK65 : ∀ (p1 : Int32) (p3 : Int32) (p5 : Int32) (p6 : Int32) (p7 : Int32) (p8 : Int32) (p9 : Int32) (M : aw_M) (M1 : aw_M), K65  p1 p3 p5 p6 p7 p8 p9 M = some M1 → AW l D cy ad A gm_G RX10 cX10_triesRow 11 none d none M1 65 [(0, .ref (ad 0)), (1, .int p1), (3, .int p3), (5, .int p5), (6, .int p6), (7, .int p7), (8, .int p8), (9, .int p9)] [] M) (p1 : Int32) (p3 : Int32) (p5 : Int32) (p6 : Int32) (p7 : Int32) (p9 : Int32) (p10 : Int32) (p100 : Int32) (M : aw_M) (M1 : aw_M) (h : fm_triesRow_J108 K65 p1 p3 p5 p6 p7 p9 p10 p100 M = some M1) : AW l D cy ad A gm_G RX10 cX10_triesRow 11 none d none M1 108 [(0, .ref (ad 0)), (1, .int p1), (3, .int p3), (5, .int p5), (6, .int p6), (7, .int p7), (9, .int p9), (10, .int p10)] [.int p100] M := by
  have hd1 : (d - 1) + 1 ≤ d := by omega
  have hm1 : 1 ≤ d := by omega
  have hh_0 : 0 ≤ d - 1 := by omega
  have hh_1 : 1 ≤ d - 1 := by omega
  have hh_108 : 108 ≤ d - 1 := by omega
  unfold fm_triesRow_J108 at h
  refine x_istore (pc := 108) 8 [(8, .int p100), (0, .ref (ad 0)), (1, .int p1), (3, .int p3), (5, .int p5), (6, .int p6), (7, .int p7), (9, .int p9), (10, .int p10)] dX10_triesRow_108 (by decide) rfl ?_
  refine x_iload (pc := 110) dX10_triesRow_110 rfl ?_
  refine x_iconst (pc := 112) (w := 1) dX10_triesRow_112 ic_1 ?_
  refine x_iload (pc := 113) dX10_triesRow_113 rfl ?_
  refine x_ishl (pc := 115) dX10_triesRow_115 ?_
  refine x_ior (pc := 116) dX10_triesRow_116 ?_
  refine x_istore (pc := 117) 6 [(6, .int (p6 ||| (1 <<< (p10 &&& 31)))), (8, .int p100), (0, .ref (ad 0)), (1, .int p1), (3, .int p3), (5, .int p5), (7, .int p7), (9, .int p9), (10, .int p10)] dX10_triesRow_117 (by decide) rfl ?_
  refine x_iload (pc := 119) dX10_triesRow_119 rfl ?_
  refine x_iload (pc := 121) dX10_triesRow_121 rfl ?_
  refine x_if_eq (pc := 123) 136 dX10_triesRow_123 (by decide) (fun c_20 => ?_) (fun c_20 => ?_)
  · have h := aw_pos h c_20
    refine x_iconst (pc := 136) (w := 0) dX10_triesRow_136 ic_0 ?_
    refine x_iadd (pc := 137) dX10_triesRow_137 ?_
    refine x_istore (pc := 138) 7 [(7, .int (p7 + 0)), (6, .int (p6 ||| (1 <<< (p10 &&& 31)))), (8, .int p100), (0, .ref (ad 0)), (1, .int p1), (3, .int p3), (5, .int p5), (9, .int p9), (10, .int p10)] dX10_triesRow_138 (by decide) rfl ?_
    refine x_iload (pc := 140) dX10_triesRow_140 rfl ?_
    refine x_bipush (pc := 142) (w := 6) dX10_triesRow_142 bi_6 ?_
    refine x_idiv (pc := 144) dX10_triesRow_144 (by decide) ?_
    refine x_istore (pc := 145) 9 [(9, .int (p9 / 6)), (7, .int (p7 + 0)), (6, .int (p6 ||| (1 <<< (p10 &&& 31)))), (8, .int p100), (0, .ref (ad 0)), (1, .int p1), (3, .int p3), (5, .int p5), (10, .int p10)] dX10_triesRow_145 (by decide) rfl ?_
    refine x_goto (pc := 147) 65 dX10_triesRow_147 (by decide) ?_
    refine x_lv [4, 5, 6, 7, 2, 1, 3, 0] [(0, .ref (ad 0)), (1, .int p1), (3, .int p3), (5, .int p5), (6, .int (p6 ||| (1 <<< (p10 &&& 31)))), (7, .int (p7 + 0)), (8, .int p100), (9, .int (p9 / 6))] rfl ?_
    exact hK65 p1 p3 p5 (p6 ||| (1 <<< (p10 &&& 31))) (p7 + 0) p100 (p9 / 6) _ _ h
  · have h := aw_neg h c_20
    refine x_aload_n (pc := 126) 0 dX10_triesRow_126 rfl rfl ?_
    refine x_iload (pc := 127) dX10_triesRow_127 rfl ?_
    refine x_iload_n (pc := 129) 3 dX10_triesRow_129 rfl rfl ?_
    obtain ⟨r_22, M_23, e_21, h⟩ := aw_bi_e h
    refine x_callV (pc := 130) (As := [.int p10, .int p3]) (rest := [.int p7]) (st' := [.int r_22, .int p7]) (w := (some (.int r_22))) dX10_triesRow_130 cw_X10_170 hd1 gm_0 rfl rfl rfl (Nat.le_of_ble_eq_true rfl) (tm_sews (d - 1) hh_108 p10 p3 _ _ _ e_21) rfl ?_
    refine x_goto (pc := 133) 137 dX10_triesRow_133 (by decide) ?_
    refine x_iadd (pc := 137) dX10_triesRow_137 ?_
    refine x_istore (pc := 138) 7 [(7, .int (p7 + r_22)), (6, .int (p6 ||| (1 <<< (p10 &&& 31)))), (8, .int p100), (0, .ref (ad 0)), (1, .int p1), (3, .int p3), (5, .int p5), (9, .int p9), (10, .int p10)] dX10_triesRow_138 (by decide) rfl ?_
    refine x_iload (pc := 140) dX10_triesRow_140 rfl ?_
    refine x_bipush (pc := 142) (w := 6) dX10_triesRow_142 bi_6 ?_
    refine x_idiv (pc := 144) dX10_triesRow_144 (by decide) ?_
    refine x_istore (pc := 145) 9 [(9, .int (p9 / 6)), (7, .int (p7 + r_22)), (6, .int (p6 ||| (1 <<< (p10 &&& 31)))), (8, .int p100), (0, .ref (ad 0)), (1, .int p1), (3, .int p3), (5, .int p5), (10, .int p10)] dX10_triesRow_145 (by decide) rfl ?_
    refine x_goto (pc := 147) 65 dX10_triesRow_147 (by decide) ?_
    refine x_lv [4, 5, 6, 7, 2, 1, 3, 0] [(0, .ref (ad 0)), (1, .int p1), (3, .int p3), (5, .int p5), (6, .int (p6 ||| (1 <<< (p10 &&& 31)))), (7, .int (p7 + r_22)), (8, .int p100), (9, .int (p9 / 6))] rfl ?_
    exact hK65 p1 p3 p5 (p6 ||| (1 <<< (p10 &&& 31))) (p7 + r_22) p100 (p9 / 6) _ _ h
def fm_triesRow_L65 : Nat → Int32 → Int32 → Int32 → Int32 → Int32 → Int32 → Int32 → aw_M → Option aw_M
  | 0, _, _, _, _, _, _, _, _ => none
  | n + 1, p1, p3, p5, p6, p7, p8, p9, M =>
    if p9 ≤ 0 then (
      fm_triesRow_J150  p5 p7 p8 M
    ) else (
      if p8 = 0 then (
        fm_triesRow_J150  p5 p7 p8 M
      ) else (
        if p9 = 0 then none else (
        aw_bi (fm_isCloth (aw_rem (p1 / p9) 6) M) fun r_11 M_12 => (
        if r_11 = 0 then (
          fm_triesRow_J108 (fm_triesRow_L65 n) p1 p3 p5 p6 p7 p9 (aw_rem (p1 / p9) 6) 0 M_12
        ) else (
          if ((p6 >>> ((aw_rem (p1 / p9) 6) &&& 31)) &&& 1) = 0 then (
            fm_triesRow_J108 (fm_triesRow_L65 n) p1 p3 p5 p6 p7 p9 (aw_rem (p1 / p9) 6) 1 M_12
          ) else (
            fm_triesRow_J108 (fm_triesRow_L65 n) p1 p3 p5 p6 p7 p9 (aw_rem (p1 / p9) 6) 0 M_12
          )
        )
        )
        )
      )
    )
theorem fm_triesRow_L65_s (n : Nat) (p1 : Int32) (p3 : Int32) (p5 : Int32) (p6 : Int32) (p7 : Int32) (p8 : Int32) (p9 : Int32) (M : aw_M) : fm_triesRow_L65 (n + 1) p1 p3 p5 p6 p7 p8 p9 M = (
    if p9 ≤ 0 then (
      fm_triesRow_J150  p5 p7 p8 M
    ) else (
      if p8 = 0 then (
        fm_triesRow_J150  p5 p7 p8 M
      ) else (
        if p9 = 0 then none else (
        aw_bi (fm_isCloth (aw_rem (p1 / p9) 6) M) fun r_11 M_12 => (
        if r_11 = 0 then (
          fm_triesRow_J108 (fm_triesRow_L65 n) p1 p3 p5 p6 p7 p9 (aw_rem (p1 / p9) 6) 0 M_12
        ) else (
          if ((p6 >>> ((aw_rem (p1 / p9) 6) &&& 31)) &&& 1) = 0 then (
            fm_triesRow_J108 (fm_triesRow_L65 n) p1 p3 p5 p6 p7 p9 (aw_rem (p1 / p9) 6) 1 M_12
          ) else (
            fm_triesRow_J108 (fm_triesRow_L65 n) p1 p3 p5 p6 p7 p9 (aw_rem (p1 / p9) 6) 0 M_12
          )
        )
        )
        )
      )
    )
    ) := rfl
set_option maxRecDepth 20000 in
theorem tm_triesRow_L65 {l : Launch} {D : va_G} {cy : Nat → ClassId} {ad : Nat → Nat} {A : Nat → Prop} (d : Nat) (hd : 109 ≤ d) : ∀ (n : Nat) (p1 : Int32) (p3 : Int32) (p5 : Int32) (p6 : Int32) (p7 : Int32) (p8 : Int32) (p9 : Int32) (M : aw_M) (M1 : aw_M), fm_triesRow_L65 n p1 p3 p5 p6 p7 p8 p9 M = some M1 → AW l D cy ad A gm_G RX10 cX10_triesRow 11 none d none M1 65 [(0, .ref (ad 0)), (1, .int p1), (3, .int p3), (5, .int p5), (6, .int p6), (7, .int p7), (8, .int p8), (9, .int p9)] [] M := by
  have hd1 : (d - 1) + 1 ≤ d := by omega
  have hm1 : 1 ≤ d := by omega
  have hh_0 : 0 ≤ d - 1 := by omega
  have hh_1 : 1 ≤ d - 1 := by omega
  have hh_108 : 108 ≤ d - 1 := by omega
  intro n
  induction n with
  | zero => intro p1 p3 p5 p6 p7 p8 p9 M M1 h; cases h
  | succ n ih =>
    intro p1 p3 p5 p6 p7 p8 p9 M M1 h
    rw [fm_triesRow_L65_s] at h
    refine x_iload (pc := 65) dX10_triesRow_65 rfl ?_
    refine x_if_le (pc := 67) 150 dX10_triesRow_67 (by decide) (fun c_7 => ?_) (fun c_7 => ?_)
    · have h := aw_pos h c_7
      refine x_lv [0, 3, 5, 6] [(0, .ref (ad 0)), (5, .int p5), (7, .int p7), (8, .int p8)] rfl ?_
      exact tm_triesRow_J150 d hd  p5 p7 p8 _ _ h
    · have h := aw_neg h c_7
      refine x_iload (pc := 70) dX10_triesRow_70 rfl ?_
      refine x_if_eq (pc := 72) 150 dX10_triesRow_72 (by decide) (fun c_8 => ?_) (fun c_8 => ?_)
      · have h := aw_pos h c_8
        refine x_lv [0, 3, 5, 6] [(0, .ref (ad 0)), (5, .int p5), (7, .int p7), (8, .int p8)] rfl ?_
        exact tm_triesRow_J150 d hd  p5 p7 p8 _ _ h
      · have h := aw_neg h c_8
        refine x_iload_n (pc := 75) 1 dX10_triesRow_75 rfl rfl ?_
        refine x_iload (pc := 76) dX10_triesRow_76 rfl ?_
        obtain ⟨c_9, h⟩ := aw_ck h
        refine x_idiv (pc := 78) dX10_triesRow_78 c_9 ?_
        refine x_bipush (pc := 79) (w := 6) dX10_triesRow_79 bi_6 ?_
        refine x_irem (pc := 81) dX10_triesRow_81 (by decide) ?_
        refine x_istore (pc := 82) 10 [(10, .int (aw_rem (p1 / p9) 6)), (0, .ref (ad 0)), (1, .int p1), (3, .int p3), (5, .int p5), (6, .int p6), (7, .int p7), (8, .int p8), (9, .int p9)] dX10_triesRow_82 (by decide) rfl ?_
        refine x_aload_n (pc := 84) 0 dX10_triesRow_84 rfl rfl ?_
        refine x_iload (pc := 85) dX10_triesRow_85 rfl ?_
        obtain ⟨r_11, M_12, e_10, h⟩ := aw_bi_e h
        refine x_callV (pc := 87) (As := [.int (aw_rem (p1 / p9) 6)]) (rest := []) (st' := [.int r_11]) (w := (some (.int r_11))) dX10_triesRow_87 cw_X10_62 hd1 gm_0 rfl rfl rfl (Nat.le_of_ble_eq_true rfl) (tm_isCloth (d - 1) hh_1 (aw_rem (p1 / p9) 6) _ _ _ e_10) rfl ?_
        refine x_if_eq (pc := 90) 107 dX10_triesRow_90 (by decide) (fun c_13 => ?_) (fun c_13 => ?_)
        · have h := aw_pos h c_13
          refine x_iconst (pc := 107) (w := 0) dX10_triesRow_107 ic_0 ?_
          refine x_lv [1, 2, 3, 4, 5, 6, 8, 0] [(0, .ref (ad 0)), (1, .int p1), (3, .int p3), (5, .int p5), (6, .int p6), (7, .int p7), (9, .int p9), (10, .int (aw_rem (p1 / p9) 6))] rfl ?_
          exact tm_triesRow_J108 d hd _ ih p1 p3 p5 p6 p7 p9 (aw_rem (p1 / p9) 6) 0 _ _ h
        · have h := aw_neg h c_13
          refine x_iload (pc := 93) dX10_triesRow_93 rfl ?_
          refine x_iload (pc := 95) dX10_triesRow_95 rfl ?_
          refine x_ishr (pc := 97) dX10_triesRow_97 ?_
          refine x_iconst (pc := 98) (w := 1) dX10_triesRow_98 ic_1 ?_
          refine x_iand (pc := 99) dX10_triesRow_99 ?_
          refine x_if_ne (pc := 100) 107 dX10_triesRow_100 (by decide) (fun c_14 => ?_) (fun c_14 => ?_)
          · have h := aw_neg h c_14
            refine x_iconst (pc := 107) (w := 0) dX10_triesRow_107 ic_0 ?_
            refine x_lv [1, 2, 3, 4, 5, 6, 8, 0] [(0, .ref (ad 0)), (1, .int p1), (3, .int p3), (5, .int p5), (6, .int p6), (7, .int p7), (9, .int p9), (10, .int (aw_rem (p1 / p9) 6))] rfl ?_
            exact tm_triesRow_J108 d hd _ ih p1 p3 p5 p6 p7 p9 (aw_rem (p1 / p9) 6) 0 _ _ h
          · have h := aw_pos h c_14
            refine x_iconst (pc := 103) (w := 1) dX10_triesRow_103 ic_1 ?_
            refine x_goto (pc := 104) 108 dX10_triesRow_104 (by decide) ?_
            refine x_lv [1, 2, 3, 4, 5, 6, 8, 0] [(0, .ref (ad 0)), (1, .int p1), (3, .int p3), (5, .int p5), (6, .int p6), (7, .int p7), (9, .int p9), (10, .int (aw_rem (p1 / p9) 6))] rfl ?_
            exact tm_triesRow_J108 d hd _ ih p1 p3 p5 p6 p7 p9 (aw_rem (p1 / p9) 6) 1 _ _ h
def fm_triesRow_J32 (p1 : Int32) (p3 : Int32) (p100 : Int32) (M : aw_M) : Option aw_M :=
    if p100 = 0 then none else (
    aw_bv (fm_moveAll 1 3 M) fun M_6 => (
    fm_triesRow_L65  2000 p1 p3 (p1 / p100) 0 0 1 p100 M_6
    )
    )
set_option maxRecDepth 20000 in
theorem tm_triesRow_J32 {l : Launch} {D : va_G} {cy : Nat → ClassId} {ad : Nat → Nat} {A : Nat → Prop} (d : Nat) (hd : 109 ≤ d) (p1 : Int32) (p3 : Int32) (p100 : Int32) (M : aw_M) (M1 : aw_M) (h : fm_triesRow_J32 p1 p3 p100 M = some M1) : AW l D cy ad A gm_G RX10 cX10_triesRow 11 none d none M1 32 [(0, .ref (ad 0)), (1, .int p1), (3, .int p3)] [.int p100] M := by
  have hd1 : (d - 1) + 1 ≤ d := by omega
  have hm1 : 1 ≤ d := by omega
  have hh_0 : 0 ≤ d - 1 := by omega
  have hh_1 : 1 ≤ d - 1 := by omega
  have hh_108 : 108 ≤ d - 1 := by omega
  unfold fm_triesRow_J32 at h
  refine x_istore (pc := 32) 4 [(4, .int p100), (0, .ref (ad 0)), (1, .int p1), (3, .int p3)] dX10_triesRow_32 (by decide) rfl ?_
  refine x_iload_n (pc := 34) 1 dX10_triesRow_34 rfl rfl ?_
  refine x_iload (pc := 35) dX10_triesRow_35 rfl ?_
  obtain ⟨c_4, h⟩ := aw_ck h
  refine x_idiv (pc := 37) dX10_triesRow_37 c_4 ?_
  refine x_istore (pc := 38) 5 [(5, .int (p1 / p100)), (4, .int p100), (0, .ref (ad 0)), (1, .int p1), (3, .int p3)] dX10_triesRow_38 (by decide) rfl ?_
  refine x_iconst (pc := 40) (w := 0) dX10_triesRow_40 ic_0 ?_
  refine x_istore (pc := 41) 6 [(6, .int 0), (5, .int (p1 / p100)), (4, .int p100), (0, .ref (ad 0)), (1, .int p1), (3, .int p3)] dX10_triesRow_41 (by decide) rfl ?_
  refine x_iconst (pc := 43) (w := 0) dX10_triesRow_43 ic_0 ?_
  refine x_istore (pc := 44) 7 [(7, .int 0), (6, .int 0), (5, .int (p1 / p100)), (4, .int p100), (0, .ref (ad 0)), (1, .int p1), (3, .int p3)] dX10_triesRow_44 (by decide) rfl ?_
  refine x_iconst (pc := 46) (w := 1) dX10_triesRow_46 ic_1 ?_
  refine x_istore (pc := 47) 8 [(8, .int 1), (7, .int 0), (6, .int 0), (5, .int (p1 / p100)), (4, .int p100), (0, .ref (ad 0)), (1, .int p1), (3, .int p3)] dX10_triesRow_47 (by decide) rfl ?_
  refine x_aload_n (pc := 49) 0 dX10_triesRow_49 rfl rfl ?_
  refine x_aload_n (pc := 50) 0 dX10_triesRow_50 rfl rfl ?_
  refine x_get (pc := 51) dX10_triesRow_51 lk_X10_7 gm_0 rfl rfl ?_
  refine x_aload_n (pc := 54) 0 dX10_triesRow_54 rfl rfl ?_
  refine x_get (pc := 55) dX10_triesRow_55 lk_X10_16 gm_0 rfl rfl ?_
  obtain ⟨M_6, e_5, h⟩ := aw_bv_e h
  refine x_callV (pc := 58) (As := [.ref (ad 1), .ref (ad 3)]) (rest := []) (st' := []) (w := none) dX10_triesRow_58 cw_X10_158 hd1 gm_0 rfl rfl rfl (Nat.le_of_ble_eq_true rfl) (tm_moveAll (d - 1) hh_0 1 gm_1 3 gm_3 _  _ e_5) rfl ?_
  refine x_iload (pc := 61) dX10_triesRow_61 rfl ?_
  refine x_istore (pc := 63) 9 [(9, .int p100), (8, .int 1), (7, .int 0), (6, .int 0), (5, .int (p1 / p100)), (4, .int p100), (0, .ref (ad 0)), (1, .int p1), (3, .int p3)] dX10_triesRow_63 (by decide) rfl ?_
  refine x_lv [6, 7, 8, 4, 3, 2, 1, 0] [(0, .ref (ad 0)), (1, .int p1), (3, .int p3), (5, .int (p1 / p100)), (6, .int 0), (7, .int 0), (8, .int 1), (9, .int p100)] rfl ?_
  exact tm_triesRow_L65 d hd  2000 p1 p3 (p1 / p100) 0 0 1 p100 _ _ h
def fm_triesRow (p1 : Int32) (p2 : Int32) (p3 : Int32) (M : aw_M) : Option aw_M :=
  if p2 = 1 then (
    fm_triesRow_J32  p1 p3 1 M
  ) else (
    if p2 = 2 then (
      fm_triesRow_J32  p1 p3 6 M
    ) else (
      if p2 = 3 then (
        fm_triesRow_J32  p1 p3 36 M
      ) else (
        fm_triesRow_J32  p1 p3 216 M
      )
    )
  )
set_option maxRecDepth 20000 in
theorem tm_triesRow {l : Launch} {D : va_G} {cy : Nat → ClassId} {ad : Nat → Nat} {A : Nat → Prop} (d : Nat) (hd : 109 ≤ d) (p1 : Int32) (p2 : Int32) (p3 : Int32) (M : aw_M) (M1 : aw_M) (h : fm_triesRow p1 p2 p3 M = some M1) : AX l D cy ad A gm_G yX10_triesRow cX10_triesRow 11 none d [.ref (ad 0), .int p1, .int p2, .int p3] M none M1 := by
  have hd1 : (d - 1) + 1 ≤ d := by omega
  have hm1 : 1 ≤ d := by omega
  have hh_0 : 0 ≤ d - 1 := by omega
  have hh_1 : 1 ≤ d - 1 := by omega
  have hh_108 : 108 ≤ d - 1 := by omega
  refine AX.of (own := RX10) (by decide +kernel) rfl (Nat.le_of_ble_eq_true rfl) ?_
  unfold fm_triesRow at h
  show AW l D cy ad A gm_G RX10 cX10_triesRow 11 none d none M1 0 [(0, .ref (ad 0)), (1, .int p1), (2, .int p2), (3, .int p3)] [] M
  refine x_iload_n (pc := 0) 2 dX10_triesRow_0 rfl rfl ?_
  refine x_iconst (pc := 1) (w := 1) dX10_triesRow_1 ic_1 ?_
  refine x_icmp_ne (pc := 2) 9 dX10_triesRow_2 (by decide) (fun c_1 => ?_) (fun c_1 => ?_)
  · have h := aw_neg h c_1
    refine x_iload_n (pc := 9) 2 dX10_triesRow_9 rfl rfl ?_
    refine x_iconst (pc := 10) (w := 2) dX10_triesRow_10 ic_2 ?_
    refine x_icmp_ne (pc := 11) 19 dX10_triesRow_11 (by decide) (fun c_2 => ?_) (fun c_2 => ?_)
    · have h := aw_neg h c_2
      refine x_iload_n (pc := 19) 2 dX10_triesRow_19 rfl rfl ?_
      refine x_iconst (pc := 20) (w := 3) dX10_triesRow_20 ic_3 ?_
      refine x_icmp_ne (pc := 21) 29 dX10_triesRow_21 (by decide) (fun c_3 => ?_) (fun c_3 => ?_)
      · have h := aw_neg h c_3
        refine x_sipush (pc := 29) (w := 216) dX10_triesRow_29 si_216 ?_
        refine x_lv [0, 1, 3] [(0, .ref (ad 0)), (1, .int p1), (3, .int p3)] rfl ?_
        exact tm_triesRow_J32 d hd  p1 p3 216 _ _ h
      · have h := aw_pos h c_3
        refine x_bipush (pc := 24) (w := 36) dX10_triesRow_24 bi_36 ?_
        refine x_goto (pc := 26) 32 dX10_triesRow_26 (by decide) ?_
        refine x_lv [0, 1, 3] [(0, .ref (ad 0)), (1, .int p1), (3, .int p3)] rfl ?_
        exact tm_triesRow_J32 d hd  p1 p3 36 _ _ h
    · have h := aw_pos h c_2
      refine x_bipush (pc := 14) (w := 6) dX10_triesRow_14 bi_6 ?_
      refine x_goto (pc := 16) 32 dX10_triesRow_16 (by decide) ?_
      refine x_lv [0, 1, 3] [(0, .ref (ad 0)), (1, .int p1), (3, .int p3)] rfl ?_
      exact tm_triesRow_J32 d hd  p1 p3 6 _ _ h
  · have h := aw_pos h c_1
    refine x_iconst (pc := 5) (w := 1) dX10_triesRow_5 ic_1 ?_
    refine x_goto (pc := 6) 32 dX10_triesRow_6 (by decide) ?_
    refine x_lv [0, 1, 3] [(0, .ref (ad 0)), (1, .int p1), (3, .int p3)] rfl ?_
    exact tm_triesRow_J32 d hd  p1 p3 1 _ _ h
def fm_row_L89 : Nat → Int32 → Int32 → Int32 → Int32 → Int32 → aw_M → Option (Int32 × aw_M)
  | 0, _, _, _, _, _, _ => none
  | n + 1, p1, p2, p3, p4, p5, M =>
    if p4 ≤ p5 then (
      if p3 = 0 then (
        some ((M 0 20), M)
      ) else (
        some ((M 0 21), M)
      )
    ) else (
      aw_bv (fm_triesRow p5 p1 p2 M) fun M_20 => (
      fm_row_L89 n p1 p2 p3 p4 (p5 + 1) M_20
      )
    )
theorem fm_row_L89_s (n : Nat) (p1 : Int32) (p2 : Int32) (p3 : Int32) (p4 : Int32) (p5 : Int32) (M : aw_M) : fm_row_L89 (n + 1) p1 p2 p3 p4 p5 M = (
    if p4 ≤ p5 then (
      if p3 = 0 then (
        some ((M 0 20), M)
      ) else (
        some ((M 0 21), M)
      )
    ) else (
      aw_bv (fm_triesRow p5 p1 p2 M) fun M_20 => (
      fm_row_L89 n p1 p2 p3 p4 (p5 + 1) M_20
      )
    )
    ) := rfl
set_option maxRecDepth 20000 in
theorem tm_row_L89 {l : Launch} {D : va_G} {cy : Nat → ClassId} {ad : Nat → Nat} {A : Nat → Prop} (d : Nat) (hd : 110 ≤ d) : ∀ (n : Nat) (p1 : Int32) (p2 : Int32) (p3 : Int32) (p4 : Int32) (p5 : Int32) (M : aw_M) (r : Int32) (M1 : aw_M), fm_row_L89 n p1 p2 p3 p4 p5 M = some (r, M1) → AW l D cy ad A gm_G RX10 cX10_row 6 (some .int) d (some (.int r)) M1 89 [(0, .ref (ad 0)), (1, .int p1), (2, .int p2), (3, .int p3), (4, .int p4), (5, .int p5)] [] M := by
  have hd1 : (d - 1) + 1 ≤ d := by omega
  have hm1 : 1 ≤ d := by omega
  have hh_0 : 0 ≤ d - 1 := by omega
  have hh_109 : 109 ≤ d - 1 := by omega
  intro n
  induction n with
  | zero => intro p1 p2 p3 p4 p5 M r M1 h; cases h
  | succ n ih =>
    intro p1 p2 p3 p4 p5 M r M1 h
    rw [fm_row_L89_s] at h
    refine x_iload (pc := 89) dX10_row_89 rfl ?_
    refine x_iload (pc := 91) dX10_row_91 rfl ?_
    refine x_icmp_ge (pc := 93) 110 dX10_row_93 (by decide) (fun c_17 => ?_) (fun c_17 => ?_)
    · have h := aw_pos h c_17
      refine x_iload_n (pc := 110) 3 dX10_row_110 rfl rfl ?_
      refine x_if_ne (pc := 111) 121 dX10_row_111 (by decide) (fun c_18 => ?_) (fun c_18 => ?_)
      · have h := aw_neg h c_18
        refine x_aload_n (pc := 121) 0 dX10_row_121 rfl rfl ?_
        refine x_get (pc := 122) dX10_row_122 lk_X10_203 gm_0 rfl rfl ?_
        obtain ⟨rfl, rfl⟩ := aw_so h
        exact x_iret (pc := 125) dX10_row_125
      · have h := aw_pos h c_18
        refine x_aload_n (pc := 114) 0 dX10_row_114 rfl rfl ?_
        refine x_get (pc := 115) dX10_row_115 lk_X10_200 gm_0 rfl rfl ?_
        refine x_goto (pc := 118) 125 dX10_row_118 (by decide) ?_
        obtain ⟨rfl, rfl⟩ := aw_so h
        exact x_iret (pc := 125) dX10_row_125
    · have h := aw_neg h c_17
      refine x_aload_n (pc := 96) 0 dX10_row_96 rfl rfl ?_
      refine x_iload (pc := 97) dX10_row_97 rfl ?_
      refine x_iload_n (pc := 99) 1 dX10_row_99 rfl rfl ?_
      refine x_iload_n (pc := 100) 2 dX10_row_100 rfl rfl ?_
      obtain ⟨M_20, e_19, h⟩ := aw_bv_e h
      refine x_callV (pc := 101) (As := [.int p5, .int p1, .int p2]) (rest := []) (st' := []) (w := none) dX10_row_101 cw_X10_206 hd1 gm_0 rfl rfl rfl (Nat.le_of_ble_eq_true rfl) (tm_triesRow (d - 1) hh_109 p5 p1 p2 _  _ e_19) rfl ?_
      refine x_iinc (pc := 104) (p5 + 1) [(5, .int (p5 + 1)), (0, .ref (ad 0)), (1, .int p1), (2, .int p2), (3, .int p3), (4, .int p4)] dX10_row_104 rfl (congrArg (fun z => p5 + z) ic_1) (by decide) rfl ?_
      refine x_goto (pc := 107) 89 dX10_row_107 (by decide) ?_
      refine x_lv [1, 2, 3, 4, 5, 0] [(0, .ref (ad 0)), (1, .int p1), (2, .int p2), (3, .int p3), (4, .int p4), (5, .int (p5 + 1))] rfl ?_
      exact ih p1 p2 p3 p4 (p5 + 1) _ _ _ h
def fm_row (p1 : Int32) (p2 : Int32) (p3 : Int32) (M : aw_M) : Option (Int32 × aw_M) :=
  aw_bi (fm_in p1 1 4 M) fun r_2 M_3 => (
  if r_2 = 0 then (
    fm_errs (-1000000001) M_3
  ) else (
    if (M_3 1 2) < p1 then (
      fm_errs (-1000000001) M_3
    ) else (
      aw_bi (fm_in p2 1 20 M_3) fun r_7 M_8 => (
      if r_7 = 0 then (
        fm_errs (-1000000001) M_8
      ) else (
        aw_bi (fm_in p3 0 1 M_8) fun r_11 M_12 => (
        if r_11 = 0 then (
          fm_errs (-1000000001) M_12
        ) else (
          if p1 = 1 then (
            fm_row_L89  2000 p1 p2 p3 6 0 (aw_u M_12 0 20 (-1))
          ) else (
            if p1 = 2 then (
              fm_row_L89  2000 p1 p2 p3 36 0 (aw_u M_12 0 20 (-1))
            ) else (
              if p1 = 3 then (
                fm_row_L89  2000 p1 p2 p3 216 0 (aw_u M_12 0 20 (-1))
              ) else (
                fm_row_L89  2000 p1 p2 p3 1296 0 (aw_u M_12 0 20 (-1))
              )
            )
          )
        )
        )
      )
      )
    )
  )
  )
set_option maxRecDepth 20000 in
theorem tm_row {l : Launch} {D : va_G} {cy : Nat → ClassId} {ad : Nat → Nat} {A : Nat → Prop} (d : Nat) (hd : 110 ≤ d) (p1 : Int32) (p2 : Int32) (p3 : Int32) (M : aw_M) (r : Int32) (M1 : aw_M) (h : fm_row p1 p2 p3 M = some (r, M1)) : AX l D cy ad A gm_G yX10_row cX10_row 6 (some .int) d [.ref (ad 0), .int p1, .int p2, .int p3] M (some (.int r)) M1 := by
  have hd1 : (d - 1) + 1 ≤ d := by omega
  have hm1 : 1 ≤ d := by omega
  have hh_0 : 0 ≤ d - 1 := by omega
  have hh_109 : 109 ≤ d - 1 := by omega
  refine AX.of (own := RX10) (by decide +kernel) rfl (Nat.le_of_ble_eq_true rfl) ?_
  unfold fm_row at h
  show AW l D cy ad A gm_G RX10 cX10_row 6 (some .int) d (some (.int r)) M1 0 [(0, .ref (ad 0)), (1, .int p1), (2, .int p2), (3, .int p3)] [] M
  refine x_iload_n (pc := 0) 1 dX10_row_0 rfl rfl ?_
  refine x_iconst (pc := 1) (w := 1) dX10_row_1 ic_1 ?_
  refine x_iconst (pc := 2) (w := 4) dX10_row_2 ic_4 ?_
  obtain ⟨r_2, M_3, e_1, h⟩ := aw_bi_e h
  refine x_callS (pc := 3) (As := [.int p1, .int 1, .int 4]) (rest := []) (st' := [.int r_2]) (w := (some (.int r_2))) dX10_row_3 cw_X10_44 hd1 rfl rfl (Nat.le_of_ble_eq_true rfl) (tm_in (d - 1) hh_0 p1 1 4 _ _ _ e_1) rfl ?_
  refine x_if_eq (pc := 6) 38 dX10_row_6 (by decide) (fun c_4 => ?_) (fun c_4 => ?_)
  · have h := aw_pos h c_4
    refine x_aload_n (pc := 38) 0 dX10_row_38 rfl rfl ?_
    refine x_ldc (pc := 39) dX10_row_39 wk_X10_48 ?_
    refine x_callV (pc := 41) (As := [.int (-1000000001)]) (rest := []) (st' := [.int r]) (w := (some (.int r))) dX10_row_41 cw_X10_49 hd1 gm_0 rfl rfl rfl (Nat.le_of_ble_eq_true rfl) (tm_errs (d - 1) hh_0 (-1000000001) _ _ _ h) rfl ?_
    exact x_iret (pc := 44) dX10_row_44
  · have h := aw_neg h c_4
    refine x_iload_n (pc := 9) 1 dX10_row_9 rfl rfl ?_
    refine x_aload_n (pc := 10) 0 dX10_row_10 rfl rfl ?_
    refine x_get (pc := 11) dX10_row_11 lk_X10_7 gm_0 rfl rfl ?_
    refine x_iconst (pc := 14) (w := 2) dX10_row_14 ic_2 ?_
    refine x_ialdJ (pc := 15) 2 dX10_row_15 gm_1 (by decide) tn_2 ?_
    refine x_icmp_gt (pc := 16) 38 dX10_row_16 (by decide) (fun c_5 => ?_) (fun c_5 => ?_)
    · have h := aw_pos h c_5
      refine x_aload_n (pc := 38) 0 dX10_row_38 rfl rfl ?_
      refine x_ldc (pc := 39) dX10_row_39 wk_X10_48 ?_
      refine x_callV (pc := 41) (As := [.int (-1000000001)]) (rest := []) (st' := [.int r]) (w := (some (.int r))) dX10_row_41 cw_X10_49 hd1 gm_0 rfl rfl rfl (Nat.le_of_ble_eq_true rfl) (tm_errs (d - 1) hh_0 (-1000000001) _ _ _ h) rfl ?_
      exact x_iret (pc := 44) dX10_row_44
    · have h := aw_neg h c_5
      refine x_iload_n (pc := 19) 2 dX10_row_19 rfl rfl ?_
      refine x_iconst (pc := 20) (w := 1) dX10_row_20 ic_1 ?_
      refine x_bipush (pc := 21) (w := 20) dX10_row_21 bi_20 ?_
      obtain ⟨r_7, M_8, e_6, h⟩ := aw_bi_e h
      refine x_callS (pc := 23) (As := [.int p2, .int 1, .int 20]) (rest := []) (st' := [.int r_7]) (w := (some (.int r_7))) dX10_row_23 cw_X10_44 hd1 rfl rfl (Nat.le_of_ble_eq_true rfl) (tm_in (d - 1) hh_0 p2 1 20 _ _ _ e_6) rfl ?_
      refine x_if_eq (pc := 26) 38 dX10_row_26 (by decide) (fun c_9 => ?_) (fun c_9 => ?_)
      · have h := aw_pos h c_9
        refine x_aload_n (pc := 38) 0 dX10_row_38 rfl rfl ?_
        refine x_ldc (pc := 39) dX10_row_39 wk_X10_48 ?_
        refine x_callV (pc := 41) (As := [.int (-1000000001)]) (rest := []) (st' := [.int r]) (w := (some (.int r))) dX10_row_41 cw_X10_49 hd1 gm_0 rfl rfl rfl (Nat.le_of_ble_eq_true rfl) (tm_errs (d - 1) hh_0 (-1000000001) _ _ _ h) rfl ?_
        exact x_iret (pc := 44) dX10_row_44
      · have h := aw_neg h c_9
        refine x_iload_n (pc := 29) 3 dX10_row_29 rfl rfl ?_
        refine x_iconst (pc := 30) (w := 0) dX10_row_30 ic_0 ?_
        refine x_iconst (pc := 31) (w := 1) dX10_row_31 ic_1 ?_
        obtain ⟨r_11, M_12, e_10, h⟩ := aw_bi_e h
        refine x_callS (pc := 32) (As := [.int p3, .int 0, .int 1]) (rest := []) (st' := [.int r_11]) (w := (some (.int r_11))) dX10_row_32 cw_X10_44 hd1 rfl rfl (Nat.le_of_ble_eq_true rfl) (tm_in (d - 1) hh_0 p3 0 1 _ _ _ e_10) rfl ?_
        refine x_if_ne (pc := 35) 45 dX10_row_35 (by decide) (fun c_13 => ?_) (fun c_13 => ?_)
        · have h := aw_neg h c_13
          refine x_iload_n (pc := 45) 1 dX10_row_45 rfl rfl ?_
          refine x_iconst (pc := 46) (w := 1) dX10_row_46 ic_1 ?_
          refine x_icmp_ne (pc := 47) 55 dX10_row_47 (by decide) (fun c_14 => ?_) (fun c_14 => ?_)
          · have h := aw_neg h c_14
            refine x_iload_n (pc := 55) 1 dX10_row_55 rfl rfl ?_
            refine x_iconst (pc := 56) (w := 2) dX10_row_56 ic_2 ?_
            refine x_icmp_ne (pc := 57) 65 dX10_row_57 (by decide) (fun c_15 => ?_) (fun c_15 => ?_)
            · have h := aw_neg h c_15
              refine x_iload_n (pc := 65) 1 dX10_row_65 rfl rfl ?_
              refine x_iconst (pc := 66) (w := 3) dX10_row_66 ic_3 ?_
              refine x_icmp_ne (pc := 67) 76 dX10_row_67 (by decide) (fun c_16 => ?_) (fun c_16 => ?_)
              · have h := aw_neg h c_16
                refine x_sipush (pc := 76) (w := 1296) dX10_row_76 si_1296 ?_
                refine x_istore (pc := 79) 4 [(4, .int 1296), (0, .ref (ad 0)), (1, .int p1), (2, .int p2), (3, .int p3)] dX10_row_79 (by decide) rfl ?_
                refine x_aload_n (pc := 81) 0 dX10_row_81 rfl rfl ?_
                refine x_iconst (pc := 82) (w := (-1)) dX10_row_82 ic_m1 ?_
                refine x_put (pc := 83) (x := (-1)) dX10_row_83 lk_X10_200 lp_X10_20 gm_0 rfl rfl rfl rfl ?_
                refine x_iconst (pc := 86) (w := 0) dX10_row_86 ic_0 ?_
                refine x_istore (pc := 87) 5 [(5, .int 0), (4, .int 1296), (0, .ref (ad 0)), (1, .int p1), (2, .int p2), (3, .int p3)] dX10_row_87 (by decide) rfl ?_
                refine x_lv [2, 3, 4, 5, 1, 0] [(0, .ref (ad 0)), (1, .int p1), (2, .int p2), (3, .int p3), (4, .int 1296), (5, .int 0)] rfl ?_
                exact tm_row_L89 d hd  2000 p1 p2 p3 1296 0 _ _ _ h
              · have h := aw_pos h c_16
                refine x_sipush (pc := 70) (w := 216) dX10_row_70 si_216 ?_
                refine x_goto (pc := 73) 79 dX10_row_73 (by decide) ?_
                refine x_istore (pc := 79) 4 [(4, .int 216), (0, .ref (ad 0)), (1, .int p1), (2, .int p2), (3, .int p3)] dX10_row_79 (by decide) rfl ?_
                refine x_aload_n (pc := 81) 0 dX10_row_81 rfl rfl ?_
                refine x_iconst (pc := 82) (w := (-1)) dX10_row_82 ic_m1 ?_
                refine x_put (pc := 83) (x := (-1)) dX10_row_83 lk_X10_200 lp_X10_20 gm_0 rfl rfl rfl rfl ?_
                refine x_iconst (pc := 86) (w := 0) dX10_row_86 ic_0 ?_
                refine x_istore (pc := 87) 5 [(5, .int 0), (4, .int 216), (0, .ref (ad 0)), (1, .int p1), (2, .int p2), (3, .int p3)] dX10_row_87 (by decide) rfl ?_
                refine x_lv [2, 3, 4, 5, 1, 0] [(0, .ref (ad 0)), (1, .int p1), (2, .int p2), (3, .int p3), (4, .int 216), (5, .int 0)] rfl ?_
                exact tm_row_L89 d hd  2000 p1 p2 p3 216 0 _ _ _ h
            · have h := aw_pos h c_15
              refine x_bipush (pc := 60) (w := 36) dX10_row_60 bi_36 ?_
              refine x_goto (pc := 62) 79 dX10_row_62 (by decide) ?_
              refine x_istore (pc := 79) 4 [(4, .int 36), (0, .ref (ad 0)), (1, .int p1), (2, .int p2), (3, .int p3)] dX10_row_79 (by decide) rfl ?_
              refine x_aload_n (pc := 81) 0 dX10_row_81 rfl rfl ?_
              refine x_iconst (pc := 82) (w := (-1)) dX10_row_82 ic_m1 ?_
              refine x_put (pc := 83) (x := (-1)) dX10_row_83 lk_X10_200 lp_X10_20 gm_0 rfl rfl rfl rfl ?_
              refine x_iconst (pc := 86) (w := 0) dX10_row_86 ic_0 ?_
              refine x_istore (pc := 87) 5 [(5, .int 0), (4, .int 36), (0, .ref (ad 0)), (1, .int p1), (2, .int p2), (3, .int p3)] dX10_row_87 (by decide) rfl ?_
              refine x_lv [2, 3, 4, 5, 1, 0] [(0, .ref (ad 0)), (1, .int p1), (2, .int p2), (3, .int p3), (4, .int 36), (5, .int 0)] rfl ?_
              exact tm_row_L89 d hd  2000 p1 p2 p3 36 0 _ _ _ h
          · have h := aw_pos h c_14
            refine x_bipush (pc := 50) (w := 6) dX10_row_50 bi_6 ?_
            refine x_goto (pc := 52) 79 dX10_row_52 (by decide) ?_
            refine x_istore (pc := 79) 4 [(4, .int 6), (0, .ref (ad 0)), (1, .int p1), (2, .int p2), (3, .int p3)] dX10_row_79 (by decide) rfl ?_
            refine x_aload_n (pc := 81) 0 dX10_row_81 rfl rfl ?_
            refine x_iconst (pc := 82) (w := (-1)) dX10_row_82 ic_m1 ?_
            refine x_put (pc := 83) (x := (-1)) dX10_row_83 lk_X10_200 lp_X10_20 gm_0 rfl rfl rfl rfl ?_
            refine x_iconst (pc := 86) (w := 0) dX10_row_86 ic_0 ?_
            refine x_istore (pc := 87) 5 [(5, .int 0), (4, .int 6), (0, .ref (ad 0)), (1, .int p1), (2, .int p2), (3, .int p3)] dX10_row_87 (by decide) rfl ?_
            refine x_lv [2, 3, 4, 5, 1, 0] [(0, .ref (ad 0)), (1, .int p1), (2, .int p2), (3, .int p3), (4, .int 6), (5, .int 0)] rfl ?_
            exact tm_row_L89 d hd  2000 p1 p2 p3 6 0 _ _ _ h
        · have h := aw_pos h c_13
          refine x_aload_n (pc := 38) 0 dX10_row_38 rfl rfl ?_
          refine x_ldc (pc := 39) dX10_row_39 wk_X10_48 ?_
          refine x_callV (pc := 41) (As := [.int (-1000000001)]) (rest := []) (st' := [.int r]) (w := (some (.int r))) dX10_row_41 cw_X10_49 hd1 gm_0 rfl rfl rfl (Nat.le_of_ble_eq_true rfl) (tm_errs (d - 1) hh_0 (-1000000001) _ _ _ h) rfl ?_
          exact x_iret (pc := 44) dX10_row_44
