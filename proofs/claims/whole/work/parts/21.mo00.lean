def fm_in (p0 : Int32) (p1 : Int32) (p2 : Int32) (M : aw_M) : Option (Int32 × aw_M) :=
  if p0 < p1 then (
    some (0, M)
  ) else (
    if p2 < p0 then (
      some (0, M)
    ) else (
      some (1, M)
    )
  )
set_option maxRecDepth 20000 in
theorem tm_in {l : Launch} {D : va_G} {cy : Nat → ClassId} {ad : Nat → Nat} {A : Nat → Prop} (d : Nat) (hd : 0 ≤ d) (p0 : Int32) (p1 : Int32) (p2 : Int32) (M : aw_M) (r : Int32) (M1 : aw_M) (h : fm_in p0 p1 p2 M = some (r, M1)) : AX l D cy ad A gm_G yX10_in cX10_in 3 (some .boolean) d [.int p0, .int p1, .int p2] M (some (.int r)) M1 := by
  refine AX.of (own := RX10) (by decide +kernel) rfl (Nat.le_of_ble_eq_true rfl) ?_
  unfold fm_in at h
  show AW l D cy ad A gm_G RX10 cX10_in 3 (some .boolean) d (some (.int r)) M1 0 [(0, .int p0), (1, .int p1), (2, .int p2)] [] M
  refine x_iload_n (pc := 0) 0 dX10_in_0 rfl rfl ?_
  refine x_iload_n (pc := 1) 1 dX10_in_1 rfl rfl ?_
  refine x_icmp_lt (pc := 2) 14 dX10_in_2 (by decide) (fun c_1 => ?_) (fun c_1 => ?_)
  · have h := aw_pos h c_1
    refine x_iconst (pc := 14) (w := 0) dX10_in_14 ic_0 ?_
    obtain ⟨rfl, rfl⟩ := aw_so h
    exact x_zret (pc := 15) aw_b0 dX10_in_15
  · have h := aw_neg h c_1
    refine x_iload_n (pc := 5) 0 dX10_in_5 rfl rfl ?_
    refine x_iload_n (pc := 6) 2 dX10_in_6 rfl rfl ?_
    refine x_icmp_gt (pc := 7) 14 dX10_in_7 (by decide) (fun c_2 => ?_) (fun c_2 => ?_)
    · have h := aw_pos h c_2
      refine x_iconst (pc := 14) (w := 0) dX10_in_14 ic_0 ?_
      obtain ⟨rfl, rfl⟩ := aw_so h
      exact x_zret (pc := 15) aw_b0 dX10_in_15
    · have h := aw_neg h c_2
      refine x_iconst (pc := 10) (w := 1) dX10_in_10 ic_1 ?_
      refine x_goto (pc := 11) 15 dX10_in_11 (by decide) ?_
      obtain ⟨rfl, rfl⟩ := aw_so h
      exact x_zret (pc := 15) aw_b1 dX10_in_15
def fm_errs (p1 : Int32) (M : aw_M) : Option (Int32 × aw_M) :=
  if aw_in ((-1000000000) - p1) 6 then none else (
  if aw_in ((-1000000000) - p1) 6 then none else (
  some (p1, (aw_u M 5 ((-1000000000) - p1).toNatClampNeg ((M 5 ((-1000000000) - p1).toNatClampNeg) + 1)))
  )
  )
set_option maxRecDepth 20000 in
theorem tm_errs {l : Launch} {D : va_G} {cy : Nat → ClassId} {ad : Nat → Nat} {A : Nat → Prop} (d : Nat) (hd : 0 ≤ d) (p1 : Int32) (M : aw_M) (r : Int32) (M1 : aw_M) (h : fm_errs p1 M = some (r, M1)) : AX l D cy ad A gm_G yX10_errs cX10_errs 2 (some .int) d [.ref (ad 0), .int p1] M (some (.int r)) M1 := by
  refine AX.of (own := RX10) (by decide +kernel) rfl (Nat.le_of_ble_eq_true rfl) ?_
  unfold fm_errs at h
  show AW l D cy ad A gm_G RX10 cX10_errs 2 (some .int) d (some (.int r)) M1 0 [(0, .ref (ad 0)), (1, .int p1)] [] M
  refine x_aload_n (pc := 0) 0 dX10_errs_0 rfl rfl ?_
  refine x_get (pc := 1) dX10_errs_1 lk_X10_22 gm_0 rfl rfl ?_
  refine x_ldc (pc := 4) dX10_errs_4 wk_X10_43 ?_
  refine x_iload_n (pc := 6) 1 dX10_errs_6 rfl rfl ?_
  refine x_isub (pc := 7) dX10_errs_7 ?_
  refine x_dup2_11 (pc := 8) dX10_errs_8 rfl rfl ?_
  obtain ⟨c_1, h⟩ := aw_ck h
  refine x_iald (pc := 9) dX10_errs_9 gm_5 c_1 ?_
  refine x_iconst (pc := 10) (w := 1) dX10_errs_10 ic_1 ?_
  refine x_iadd (pc := 11) dX10_errs_11 ?_
  obtain ⟨c_2, h⟩ := aw_ck h
  refine x_iast (pc := 12) dX10_errs_12 gm_5 c_2 ?_
  refine x_iload_n (pc := 13) 1 dX10_errs_13 rfl rfl ?_
  obtain ⟨rfl, rfl⟩ := aw_so h
  exact x_iret (pc := 14) dX10_errs_14
def fm_held (p0 : Int32) (p1 : Int32) (p2 : Int32) (M : aw_M) : Option (Int32 × aw_M) :=
  if p1 ≤ p0 then (
    if p0 ≤ p2 then (
      some (p0, M)
    ) else (
      some (p2, M)
    )
  ) else (
    some (p1, M)
  )
set_option maxRecDepth 20000 in
theorem tm_held {l : Launch} {D : va_G} {cy : Nat → ClassId} {ad : Nat → Nat} {A : Nat → Prop} (d : Nat) (hd : 0 ≤ d) (p0 : Int32) (p1 : Int32) (p2 : Int32) (M : aw_M) (r : Int32) (M1 : aw_M) (h : fm_held p0 p1 p2 M = some (r, M1)) : AX l D cy ad A gm_G yX10_held cX10_held 3 (some .int) d [.int p0, .int p1, .int p2] M (some (.int r)) M1 := by
  refine AX.of (own := RX10) (by decide +kernel) rfl (Nat.le_of_ble_eq_true rfl) ?_
  unfold fm_held at h
  show AW l D cy ad A gm_G RX10 cX10_held 3 (some .int) d (some (.int r)) M1 0 [(0, .int p0), (1, .int p1), (2, .int p2)] [] M
  refine x_iload_n (pc := 0) 0 dX10_held_0 rfl rfl ?_
  refine x_iload_n (pc := 1) 1 dX10_held_1 rfl rfl ?_
  refine x_icmp_ge (pc := 2) 9 dX10_held_2 (by decide) (fun c_1 => ?_) (fun c_1 => ?_)
  · have h := aw_pos h c_1
    refine x_iload_n (pc := 9) 0 dX10_held_9 rfl rfl ?_
    refine x_iload_n (pc := 10) 2 dX10_held_10 rfl rfl ?_
    refine x_icmp_le (pc := 11) 18 dX10_held_11 (by decide) (fun c_2 => ?_) (fun c_2 => ?_)
    · have h := aw_pos h c_2
      refine x_iload_n (pc := 18) 0 dX10_held_18 rfl rfl ?_
      obtain ⟨rfl, rfl⟩ := aw_so h
      exact x_iret (pc := 19) dX10_held_19
    · have h := aw_neg h c_2
      refine x_iload_n (pc := 14) 2 dX10_held_14 rfl rfl ?_
      refine x_goto (pc := 15) 19 dX10_held_15 (by decide) ?_
      obtain ⟨rfl, rfl⟩ := aw_so h
      exact x_iret (pc := 19) dX10_held_19
  · have h := aw_neg h c_1
    refine x_iload_n (pc := 5) 1 dX10_held_5 rfl rfl ?_
    refine x_goto (pc := 6) 19 dX10_held_6 (by decide) ?_
    obtain ⟨rfl, rfl⟩ := aw_so h
    exact x_iret (pc := 19) dX10_held_19
def fm_moveAll_L2 : Nat → Nat → Nat → Int32 → aw_M → Option aw_M
  | 0, _, _, _, _ => none
  | n + 1, o1, o2, p3, M =>
    if (213 : Int32) ≤ p3 then (
      some M
    ) else (
      if aw_in p3 213 then none else (
      if aw_in p3 213 then none else (
      fm_moveAll_L2 n o1 o2 (p3 + 1) (aw_u M o2 p3.toNatClampNeg (M o1 p3.toNatClampNeg))
      )
      )
    )
theorem fm_moveAll_L2_s (n : Nat) (o1 : Nat) (o2 : Nat) (p3 : Int32) (M : aw_M) : fm_moveAll_L2 (n + 1) o1 o2 p3 M = (
    if (213 : Int32) ≤ p3 then (
      some M
    ) else (
      if aw_in p3 213 then none else (
      if aw_in p3 213 then none else (
      fm_moveAll_L2 n o1 o2 (p3 + 1) (aw_u M o2 p3.toNatClampNeg (M o1 p3.toNatClampNeg))
      )
      )
    )
    ) := rfl
set_option maxRecDepth 20000 in
theorem tm_moveAll_L2 {l : Launch} {D : va_G} {cy : Nat → ClassId} {ad : Nat → Nat} {A : Nat → Prop} (d : Nat) (hd : 0 ≤ d) : ∀ (n : Nat) (o1 : Nat) (g1 : gm_G[o1]? = some (1, 213, [])) (o2 : Nat) (g2 : gm_G[o2]? = some (1, 213, [])) (p3 : Int32) (M : aw_M) (M1 : aw_M), fm_moveAll_L2 n o1 o2 p3 M = some M1 → AW l D cy ad A gm_G RX10 cX10_moveAll 4 none d none M1 2 [(1, .ref (ad o1)), (2, .ref (ad o2)), (3, .int p3)] [] M := by
  intro n
  induction n with
  | zero => intro o1 g1 o2 g2 p3 M M1 h; cases h
  | succ n ih =>
    intro o1 g1 o2 g2 p3 M M1 h
    rw [fm_moveAll_L2_s] at h
    refine x_iload_n (pc := 2) 3 dX10_moveAll_2 rfl rfl ?_
    refine x_sipush (pc := 3) (w := 213) dX10_moveAll_3 si_213 ?_
    refine x_icmp_ge (pc := 6) 21 dX10_moveAll_6 (by decide) (fun c_1 => ?_) (fun c_1 => ?_)
    · have h := aw_pos h c_1
      obtain rfl := aw_sv h
      exact x_vret (pc := 21) dX10_moveAll_21
    · have h := aw_neg h c_1
      refine x_aload_n (pc := 9) 2 dX10_moveAll_9 rfl rfl ?_
      refine x_iload_n (pc := 10) 3 dX10_moveAll_10 rfl rfl ?_
      refine x_aload_n (pc := 11) 1 dX10_moveAll_11 rfl rfl ?_
      refine x_iload_n (pc := 12) 3 dX10_moveAll_12 rfl rfl ?_
      obtain ⟨c_2, h⟩ := aw_ck h
      refine x_iald (pc := 13) dX10_moveAll_13 g1 c_2 ?_
      obtain ⟨c_3, h⟩ := aw_ck h
      refine x_iast (pc := 14) dX10_moveAll_14 g2 c_3 ?_
      refine x_iinc (pc := 15) (p3 + 1) [(3, .int (p3 + 1)), (1, .ref (ad o1)), (2, .ref (ad o2))] dX10_moveAll_15 rfl (congrArg (fun z => p3 + z) ic_1) (by decide) rfl ?_
      refine x_goto (pc := 18) 2 dX10_moveAll_18 (by decide) ?_
      refine x_lv [1, 2, 0] [(1, .ref (ad o1)), (2, .ref (ad o2)), (3, .int (p3 + 1))] rfl ?_
      exact ih o1 g1 o2 g2 (p3 + 1) _ _ h
def fm_moveAll (o1 : Nat) (o2 : Nat) (M : aw_M) : Option aw_M :=
  fm_moveAll_L2  2000 o1 o2 0 M
set_option maxRecDepth 20000 in
theorem tm_moveAll {l : Launch} {D : va_G} {cy : Nat → ClassId} {ad : Nat → Nat} {A : Nat → Prop} (d : Nat) (hd : 0 ≤ d) (o1 : Nat) (g1 : gm_G[o1]? = some (1, 213, [])) (o2 : Nat) (g2 : gm_G[o2]? = some (1, 213, [])) (M : aw_M) (M1 : aw_M) (h : fm_moveAll o1 o2 M = some M1) : AX l D cy ad A gm_G yX10_moveAll cX10_moveAll 4 none d [.ref (ad 0), .ref (ad o1), .ref (ad o2)] M none M1 := by
  refine AX.of (own := RX10) (by decide +kernel) rfl (Nat.le_of_ble_eq_true rfl) ?_
  unfold fm_moveAll at h
  show AW l D cy ad A gm_G RX10 cX10_moveAll 4 none d none M1 0 [(0, .ref (ad 0)), (1, .ref (ad o1)), (2, .ref (ad o2))] [] M
  refine x_iconst (pc := 0) (w := 0) dX10_moveAll_0 ic_0 ?_
  refine x_istore_n (pc := 1) 3 [(3, .int 0), (0, .ref (ad 0)), (1, .ref (ad o1)), (2, .ref (ad o2))] dX10_moveAll_1 rfl (by decide) rfl ?_
  refine x_lv [2, 3, 0] [(1, .ref (ad o1)), (2, .ref (ad o2)), (3, .int 0)] rfl ?_
  exact tm_moveAll_L2 d hd  2000 o1 g1 o2 g2 0 _ _ h
def fm_its (p1 : Int32) (p2 : Int32) (M : aw_M) : Option (Int32 × aw_M) :=
  if aw_in ((13 + (5 * p1)) + p2) 213 then none else (
  some ((M 1 ((13 + (5 * p1)) + p2).toNatClampNeg), M)
  )
set_option maxRecDepth 20000 in
theorem tm_its {l : Launch} {D : va_G} {cy : Nat → ClassId} {ad : Nat → Nat} {A : Nat → Prop} (d : Nat) (hd : 0 ≤ d) (p1 : Int32) (p2 : Int32) (M : aw_M) (r : Int32) (M1 : aw_M) (h : fm_its p1 p2 M = some (r, M1)) : AX l D cy ad A gm_G yX10_its cX10_its 3 (some .int) d [.ref (ad 0), .int p1, .int p2] M (some (.int r)) M1 := by
  refine AX.of (own := RX10) (by decide +kernel) rfl (Nat.le_of_ble_eq_true rfl) ?_
  unfold fm_its at h
  show AW l D cy ad A gm_G RX10 cX10_its 3 (some .int) d (some (.int r)) M1 0 [(0, .ref (ad 0)), (1, .int p1), (2, .int p2)] [] M
  refine x_aload_n (pc := 0) 0 dX10_its_0 rfl rfl ?_
  refine x_get (pc := 1) dX10_its_1 lk_X10_7 gm_0 rfl rfl ?_
  refine x_bipush (pc := 4) (w := 13) dX10_its_4 bi_13 ?_
  refine x_iconst (pc := 6) (w := 5) dX10_its_6 ic_5 ?_
  refine x_iload_n (pc := 7) 1 dX10_its_7 rfl rfl ?_
  refine x_imul (pc := 8) dX10_its_8 ?_
  refine x_iadd (pc := 9) dX10_its_9 ?_
  refine x_iload_n (pc := 10) 2 dX10_its_10 rfl rfl ?_
  refine x_iadd (pc := 11) dX10_its_11 ?_
  obtain ⟨c_1, h⟩ := aw_ck h
  refine x_iald (pc := 12) dX10_its_12 gm_1 c_1 ?_
  obtain ⟨rfl, rfl⟩ := aw_so h
  exact x_iret (pc := 13) dX10_its_13
def fm_gets (p1 : Int32) (p2 : Int32) (p3 : Int32) (M : aw_M) : Option aw_M :=
  if aw_in ((13 + (5 * p1)) + p2) 213 then none else (
  some (aw_u M 1 ((13 + (5 * p1)) + p2).toNatClampNeg p3)
  )
set_option maxRecDepth 20000 in
theorem tm_gets {l : Launch} {D : va_G} {cy : Nat → ClassId} {ad : Nat → Nat} {A : Nat → Prop} (d : Nat) (hd : 0 ≤ d) (p1 : Int32) (p2 : Int32) (p3 : Int32) (M : aw_M) (M1 : aw_M) (h : fm_gets p1 p2 p3 M = some M1) : AX l D cy ad A gm_G yX10_gets cX10_gets 4 none d [.ref (ad 0), .int p1, .int p2, .int p3] M none M1 := by
  refine AX.of (own := RX10) (by decide +kernel) rfl (Nat.le_of_ble_eq_true rfl) ?_
  unfold fm_gets at h
  show AW l D cy ad A gm_G RX10 cX10_gets 4 none d none M1 0 [(0, .ref (ad 0)), (1, .int p1), (2, .int p2), (3, .int p3)] [] M
  refine x_aload_n (pc := 0) 0 dX10_gets_0 rfl rfl ?_
  refine x_get (pc := 1) dX10_gets_1 lk_X10_7 gm_0 rfl rfl ?_
  refine x_bipush (pc := 4) (w := 13) dX10_gets_4 bi_13 ?_
  refine x_iconst (pc := 6) (w := 5) dX10_gets_6 ic_5 ?_
  refine x_iload_n (pc := 7) 1 dX10_gets_7 rfl rfl ?_
  refine x_imul (pc := 8) dX10_gets_8 ?_
  refine x_iadd (pc := 9) dX10_gets_9 ?_
  refine x_iload_n (pc := 10) 2 dX10_gets_10 rfl rfl ?_
  refine x_iadd (pc := 11) dX10_gets_11 ?_
  refine x_iload_n (pc := 12) 3 dX10_gets_12 rfl rfl ?_
  obtain ⟨c_1, h⟩ := aw_ck h
  refine x_iast (pc := 13) dX10_gets_13 gm_1 c_1 ?_
  obtain rfl := aw_sv h
  exact x_vret (pc := 14) dX10_gets_14
def fm_isCloth (p1 : Int32) (M : aw_M) : Option (Int32 × aw_M) :=
  aw_bi (fm_in p1 0 ((M 1 2) - 1) M) fun r_2 M_3 => (
  if ¬ (r_2 = 0 ∨ r_2 = 1) then none else (
  some (r_2, M_3)
  )
  )
set_option maxRecDepth 20000 in
theorem tm_isCloth {l : Launch} {D : va_G} {cy : Nat → ClassId} {ad : Nat → Nat} {A : Nat → Prop} (d : Nat) (hd : 1 ≤ d) (p1 : Int32) (M : aw_M) (r : Int32) (M1 : aw_M) (h : fm_isCloth p1 M = some (r, M1)) : AX l D cy ad A gm_G yX10_isCloth cX10_isCloth 2 (some .boolean) d [.ref (ad 0), .int p1] M (some (.int r)) M1 := by
  have hd1 : (d - 1) + 1 ≤ d := by omega
  have hm1 : 1 ≤ d := by omega
  have hh_0 : 0 ≤ d - 1 := by omega
  refine AX.of (own := RX10) (by decide +kernel) rfl (Nat.le_of_ble_eq_true rfl) ?_
  unfold fm_isCloth at h
  show AW l D cy ad A gm_G RX10 cX10_isCloth 2 (some .boolean) d (some (.int r)) M1 0 [(0, .ref (ad 0)), (1, .int p1)] [] M
  refine x_iload_n (pc := 0) 1 dX10_isCloth_0 rfl rfl ?_
  refine x_iconst (pc := 1) (w := 0) dX10_isCloth_1 ic_0 ?_
  refine x_aload_n (pc := 2) 0 dX10_isCloth_2 rfl rfl ?_
  refine x_get (pc := 3) dX10_isCloth_3 lk_X10_7 gm_0 rfl rfl ?_
  refine x_iconst (pc := 6) (w := 2) dX10_isCloth_6 ic_2 ?_
  refine x_ialdJ (pc := 7) 2 dX10_isCloth_7 gm_1 (by decide) tn_2 ?_
  refine x_iconst (pc := 8) (w := 1) dX10_isCloth_8 ic_1 ?_
  refine x_isub (pc := 9) dX10_isCloth_9 ?_
  obtain ⟨r_2, M_3, e_1, h⟩ := aw_bi_e h
  refine x_callS (pc := 10) (As := [.int p1, .int 0, .int ((M 1 2) - 1)]) (rest := []) (st' := [.int r_2]) (w := (some (.int r_2))) dX10_isCloth_10 cw_X10_44 hd1 rfl rfl (Nat.le_of_ble_eq_true rfl) (tm_in (d - 1) hh_0 p1 0 ((M 1 2) - 1) _ _ _ e_1) rfl ?_
  obtain ⟨c_4, h⟩ := aw_ck h
  obtain ⟨rfl, rfl⟩ := aw_so h
  exact x_zret (pc := 13) (aw_bo c_4) dX10_isCloth_13
def fm_becomes (p1 : Int32) (p2 : Int32) (M : aw_M) : Option (Int32 × aw_M) :=
  if aw_in p1 213 then none else (
  if aw_in p1 213 then none else (
  some ((M 1 p1.toNatClampNeg), (aw_u M 1 p1.toNatClampNeg p2))
  )
  )
set_option maxRecDepth 20000 in
theorem tm_becomes {l : Launch} {D : va_G} {cy : Nat → ClassId} {ad : Nat → Nat} {A : Nat → Prop} (d : Nat) (hd : 0 ≤ d) (p1 : Int32) (p2 : Int32) (M : aw_M) (r : Int32) (M1 : aw_M) (h : fm_becomes p1 p2 M = some (r, M1)) : AX l D cy ad A gm_G yX10_becomes cX10_becomes 4 (some .int) d [.ref (ad 0), .int p1, .int p2] M (some (.int r)) M1 := by
  refine AX.of (own := RX10) (by decide +kernel) rfl (Nat.le_of_ble_eq_true rfl) ?_
  unfold fm_becomes at h
  show AW l D cy ad A gm_G RX10 cX10_becomes 4 (some .int) d (some (.int r)) M1 0 [(0, .ref (ad 0)), (1, .int p1), (2, .int p2)] [] M
  refine x_aload_n (pc := 0) 0 dX10_becomes_0 rfl rfl ?_
  refine x_get (pc := 1) dX10_becomes_1 lk_X10_7 gm_0 rfl rfl ?_
  refine x_iload_n (pc := 4) 1 dX10_becomes_4 rfl rfl ?_
  obtain ⟨c_1, h⟩ := aw_ck h
  refine x_iald (pc := 5) dX10_becomes_5 gm_1 c_1 ?_
  refine x_istore_n (pc := 6) 3 [(3, .int (M 1 p1.toNatClampNeg)), (0, .ref (ad 0)), (1, .int p1), (2, .int p2)] dX10_becomes_6 rfl (by decide) rfl ?_
  refine x_aload_n (pc := 7) 0 dX10_becomes_7 rfl rfl ?_
  refine x_get (pc := 8) dX10_becomes_8 lk_X10_7 gm_0 rfl rfl ?_
  refine x_iload_n (pc := 11) 1 dX10_becomes_11 rfl rfl ?_
  refine x_iload_n (pc := 12) 2 dX10_becomes_12 rfl rfl ?_
  obtain ⟨c_2, h⟩ := aw_ck h
  refine x_iast (pc := 13) dX10_becomes_13 gm_1 c_2 ?_
  refine x_iload_n (pc := 14) 3 dX10_becomes_14 rfl rfl ?_
  obtain ⟨rfl, rfl⟩ := aw_so h
  exact x_iret (pc := 15) dX10_becomes_15
def fm_set_J40 (p1 : Int32) (p2 : Int32) (p100 : Int32) (p101 : Int32) (p102 : Int32) (M : aw_M) : Option (Int32 × aw_M) :=
    aw_bi (fm_in p102 p101 p100 M) fun r_9 M_10 => (
    if r_9 = 0 then (
      fm_errs (-1000000001) M_10
    ) else (
      fm_becomes (7 + p1) p2 M_10
    )
    )
set_option maxRecDepth 20000 in
theorem tm_set_J40 {l : Launch} {D : va_G} {cy : Nat → ClassId} {ad : Nat → Nat} {A : Nat → Prop} (d : Nat) (hd : 1 ≤ d) (p1 : Int32) (p2 : Int32) (p100 : Int32) (p101 : Int32) (p102 : Int32) (M : aw_M) (r : Int32) (M1 : aw_M) (h : fm_set_J40 p1 p2 p100 p101 p102 M = some (r, M1)) : AW l D cy ad A gm_G RX10 cX10_set 3 (some .int) d (some (.int r)) M1 40 [(0, .ref (ad 0)), (1, .int p1), (2, .int p2)] [.int p100, .int p101, .int p102] M := by
  have hd1 : (d - 1) + 1 ≤ d := by omega
  have hm1 : 1 ≤ d := by omega
  have hh_0 : 0 ≤ d - 1 := by omega
  unfold fm_set_J40 at h
  obtain ⟨r_9, M_10, e_8, h⟩ := aw_bi_e h
  refine x_callS (pc := 40) (As := [.int p102, .int p101, .int p100]) (rest := []) (st' := [.int r_9]) (w := (some (.int r_9))) dX10_set_40 cw_X10_44 hd1 rfl rfl (Nat.le_of_ble_eq_true rfl) (tm_in (d - 1) hh_0 p102 p101 p100 _ _ _ e_8) rfl ?_
  refine x_if_ne (pc := 43) 53 dX10_set_43 (by decide) (fun c_11 => ?_) (fun c_11 => ?_)
  · have h := aw_neg h c_11
    refine x_aload_n (pc := 53) 0 dX10_set_53 rfl rfl ?_
    refine x_bipush (pc := 54) (w := 7) dX10_set_54 bi_7 ?_
    refine x_iload_n (pc := 56) 1 dX10_set_56 rfl rfl ?_
    refine x_iadd (pc := 57) dX10_set_57 ?_
    refine x_iload_n (pc := 58) 2 dX10_set_58 rfl rfl ?_
    refine x_callV (pc := 59) (As := [.int (7 + p1), .int p2]) (rest := []) (st' := [.int r]) (w := (some (.int r))) dX10_set_59 cw_X10_53 hd1 gm_0 rfl rfl rfl (Nat.le_of_ble_eq_true rfl) (tm_becomes (d - 1) hh_0 (7 + p1) p2 _ _ _ h) rfl ?_
    exact x_iret (pc := 62) dX10_set_62
  · have h := aw_pos h c_11
    refine x_aload_n (pc := 46) 0 dX10_set_46 rfl rfl ?_
    refine x_ldc (pc := 47) dX10_set_47 wk_X10_48 ?_
    refine x_callV (pc := 49) (As := [.int (-1000000001)]) (rest := []) (st' := [.int r]) (w := (some (.int r))) dX10_set_49 cw_X10_49 hd1 gm_0 rfl rfl rfl (Nat.le_of_ble_eq_true rfl) (tm_errs (d - 1) hh_0 (-1000000001) _ _ _ h) rfl ?_
    exact x_iret (pc := 52) dX10_set_52
def fm_set (p1 : Int32) (p2 : Int32) (M : aw_M) : Option (Int32 × aw_M) :=
  aw_bi (fm_in p1 0 5 M) fun r_2 M_3 => (
  if r_2 = 0 then (
    fm_errs (-1000000001) M_3
  ) else (
    if p1 = 0 then (
      fm_set_J40  p1 p2 1 0 p2 M_3
    ) else (
      if p1 = 3 then (
        fm_set_J40  p1 p2 2 0 p2 M_3
      ) else (
        if p1 = 4 then (
          fm_set_J40  p1 p2 99 0 p2 M_3
        ) else (
          fm_set_J40  p1 p2 9 0 p2 M_3
        )
      )
    )
  )
  )
set_option maxRecDepth 20000 in
theorem tm_set {l : Launch} {D : va_G} {cy : Nat → ClassId} {ad : Nat → Nat} {A : Nat → Prop} (d : Nat) (hd : 1 ≤ d) (p1 : Int32) (p2 : Int32) (M : aw_M) (r : Int32) (M1 : aw_M) (h : fm_set p1 p2 M = some (r, M1)) : AX l D cy ad A gm_G yX10_set cX10_set 3 (some .int) d [.ref (ad 0), .int p1, .int p2] M (some (.int r)) M1 := by
  have hd1 : (d - 1) + 1 ≤ d := by omega
  have hm1 : 1 ≤ d := by omega
  have hh_0 : 0 ≤ d - 1 := by omega
  refine AX.of (own := RX10) (by decide +kernel) rfl (Nat.le_of_ble_eq_true rfl) ?_
  unfold fm_set at h
  show AW l D cy ad A gm_G RX10 cX10_set 3 (some .int) d (some (.int r)) M1 0 [(0, .ref (ad 0)), (1, .int p1), (2, .int p2)] [] M
  refine x_iload_n (pc := 0) 1 dX10_set_0 rfl rfl ?_
  refine x_iconst (pc := 1) (w := 0) dX10_set_1 ic_0 ?_
  refine x_iconst (pc := 2) (w := 5) dX10_set_2 ic_5 ?_
  obtain ⟨r_2, M_3, e_1, h⟩ := aw_bi_e h
  refine x_callS (pc := 3) (As := [.int p1, .int 0, .int 5]) (rest := []) (st' := [.int r_2]) (w := (some (.int r_2))) dX10_set_3 cw_X10_44 hd1 rfl rfl (Nat.le_of_ble_eq_true rfl) (tm_in (d - 1) hh_0 p1 0 5 _ _ _ e_1) rfl ?_
  refine x_if_eq (pc := 6) 46 dX10_set_6 (by decide) (fun c_4 => ?_) (fun c_4 => ?_)
  · have h := aw_pos h c_4
    refine x_aload_n (pc := 46) 0 dX10_set_46 rfl rfl ?_
    refine x_ldc (pc := 47) dX10_set_47 wk_X10_48 ?_
    refine x_callV (pc := 49) (As := [.int (-1000000001)]) (rest := []) (st' := [.int r]) (w := (some (.int r))) dX10_set_49 cw_X10_49 hd1 gm_0 rfl rfl rfl (Nat.le_of_ble_eq_true rfl) (tm_errs (d - 1) hh_0 (-1000000001) _ _ _ h) rfl ?_
    exact x_iret (pc := 52) dX10_set_52
  · have h := aw_neg h c_4
    refine x_iload_n (pc := 9) 2 dX10_set_9 rfl rfl ?_
    refine x_iconst (pc := 10) (w := 0) dX10_set_10 ic_0 ?_
    refine x_iload_n (pc := 11) 1 dX10_set_11 rfl rfl ?_
    refine x_if_ne (pc := 12) 19 dX10_set_12 (by decide) (fun c_5 => ?_) (fun c_5 => ?_)
    · have h := aw_neg h c_5
      refine x_iload_n (pc := 19) 1 dX10_set_19 rfl rfl ?_
      refine x_iconst (pc := 20) (w := 3) dX10_set_20 ic_3 ?_
      refine x_icmp_ne (pc := 21) 28 dX10_set_21 (by decide) (fun c_6 => ?_) (fun c_6 => ?_)
      · have h := aw_neg h c_6
        refine x_iload_n (pc := 28) 1 dX10_set_28 rfl rfl ?_
        refine x_iconst (pc := 29) (w := 4) dX10_set_29 ic_4 ?_
        refine x_icmp_ne (pc := 30) 38 dX10_set_30 (by decide) (fun c_7 => ?_) (fun c_7 => ?_)
        · have h := aw_neg h c_7
          refine x_bipush (pc := 38) (w := 9) dX10_set_38 bi_9 ?_
          refine x_lv [0, 1, 2] [(0, .ref (ad 0)), (1, .int p1), (2, .int p2)] rfl ?_
          exact tm_set_J40 d hd  p1 p2 9 0 p2 _ _ _ h
        · have h := aw_pos h c_7
          refine x_bipush (pc := 33) (w := 99) dX10_set_33 bi_99 ?_
          refine x_goto (pc := 35) 40 dX10_set_35 (by decide) ?_
          refine x_lv [0, 1, 2] [(0, .ref (ad 0)), (1, .int p1), (2, .int p2)] rfl ?_
          exact tm_set_J40 d hd  p1 p2 99 0 p2 _ _ _ h
      · have h := aw_pos h c_6
        refine x_iconst (pc := 24) (w := 2) dX10_set_24 ic_2 ?_
        refine x_goto (pc := 25) 40 dX10_set_25 (by decide) ?_
        refine x_lv [0, 1, 2] [(0, .ref (ad 0)), (1, .int p1), (2, .int p2)] rfl ?_
        exact tm_set_J40 d hd  p1 p2 2 0 p2 _ _ _ h
    · have h := aw_pos h c_5
      refine x_iconst (pc := 15) (w := 1) dX10_set_15 ic_1 ?_
      refine x_goto (pc := 16) 40 dX10_set_16 (by decide) ?_
      refine x_lv [0, 1, 2] [(0, .ref (ad 0)), (1, .int p1), (2, .int p2)] rfl ?_
      exact tm_set_J40 d hd  p1 p2 1 0 p2 _ _ _ h
def fm_machine (p1 : Int32) (M : aw_M) : Option (Int32 × aw_M) :=
  aw_bi (fm_in p1 0 5 M) fun r_2 M_3 => (
  if r_2 = 0 then (
    fm_errs (-1000000001) M_3
  ) else (
    if aw_in (7 + p1) 213 then none else (
    some ((M_3 1 (7 + p1).toNatClampNeg), M_3)
    )
  )
  )
set_option maxRecDepth 20000 in
theorem tm_machine {l : Launch} {D : va_G} {cy : Nat → ClassId} {ad : Nat → Nat} {A : Nat → Prop} (d : Nat) (hd : 1 ≤ d) (p1 : Int32) (M : aw_M) (r : Int32) (M1 : aw_M) (h : fm_machine p1 M = some (r, M1)) : AX l D cy ad A gm_G yX10_machine cX10_machine 2 (some .int) d [.ref (ad 0), .int p1] M (some (.int r)) M1 := by
  have hd1 : (d - 1) + 1 ≤ d := by omega
  have hm1 : 1 ≤ d := by omega
  have hh_0 : 0 ≤ d - 1 := by omega
  refine AX.of (own := RX10) (by decide +kernel) rfl (Nat.le_of_ble_eq_true rfl) ?_
  unfold fm_machine at h
  show AW l D cy ad A gm_G RX10 cX10_machine 2 (some .int) d (some (.int r)) M1 0 [(0, .ref (ad 0)), (1, .int p1)] [] M
  refine x_iload_n (pc := 0) 1 dX10_machine_0 rfl rfl ?_
  refine x_iconst (pc := 1) (w := 0) dX10_machine_1 ic_0 ?_
  refine x_iconst (pc := 2) (w := 5) dX10_machine_2 ic_5 ?_
  obtain ⟨r_2, M_3, e_1, h⟩ := aw_bi_e h
  refine x_callS (pc := 3) (As := [.int p1, .int 0, .int 5]) (rest := []) (st' := [.int r_2]) (w := (some (.int r_2))) dX10_machine_3 cw_X10_44 hd1 rfl rfl (Nat.le_of_ble_eq_true rfl) (tm_in (d - 1) hh_0 p1 0 5 _ _ _ e_1) rfl ?_
  refine x_if_eq (pc := 6) 21 dX10_machine_6 (by decide) (fun c_4 => ?_) (fun c_4 => ?_)
  · have h := aw_pos h c_4
    refine x_aload_n (pc := 21) 0 dX10_machine_21 rfl rfl ?_
    refine x_ldc (pc := 22) dX10_machine_22 wk_X10_48 ?_
    refine x_callV (pc := 24) (As := [.int (-1000000001)]) (rest := []) (st' := [.int r]) (w := (some (.int r))) dX10_machine_24 cw_X10_49 hd1 gm_0 rfl rfl rfl (Nat.le_of_ble_eq_true rfl) (tm_errs (d - 1) hh_0 (-1000000001) _ _ _ h) rfl ?_
    exact x_iret (pc := 27) dX10_machine_27
  · have h := aw_neg h c_4
    refine x_aload_n (pc := 9) 0 dX10_machine_9 rfl rfl ?_
    refine x_get (pc := 10) dX10_machine_10 lk_X10_7 gm_0 rfl rfl ?_
    refine x_bipush (pc := 13) (w := 7) dX10_machine_13 bi_7 ?_
    refine x_iload_n (pc := 15) 1 dX10_machine_15 rfl rfl ?_
    refine x_iadd (pc := 16) dX10_machine_16 ?_
    obtain ⟨c_5, h⟩ := aw_ck h
    refine x_iald (pc := 17) dX10_machine_17 gm_1 c_5 ?_
    refine x_goto (pc := 18) 27 dX10_machine_18 (by decide) ?_
    obtain ⟨rfl, rfl⟩ := aw_so h
    exact x_iret (pc := 27) dX10_machine_27
def fm_cloth (p1 : Int32) (p2 : Int32) (M : aw_M) : Option (Int32 × aw_M) :=
  aw_bi (fm_in p1 0 69 M) fun r_2 M_3 => (
  if r_2 = 0 then (
    fm_errs (-1000000001) M_3
  ) else (
    aw_bi (fm_in p2 0 9 M_3) fun r_6 M_7 => (
    if r_6 = 0 then (
      fm_errs (-1000000001) M_7
    ) else (
      if (M_7 1 2) = 6 then (
        fm_errs (-1000000004) M_7
      ) else (
        aw_bv (fm_gets (M_7 1 2) 0 (p1 / 10) M_7) fun M_11 => (
        aw_bv (fm_gets (M_7 1 2) 1 (aw_rem p1 10) M_11) fun M_13 => (
        aw_bv (fm_gets (M_7 1 2) 2 p2 M_13) fun M_15 => (
        aw_bv (fm_gets (M_7 1 2) 3 0 M_15) fun M_17 => (
        aw_bv (fm_gets (M_7 1 2) 4 0 M_17) fun M_19 => (
        some ((M_7 1 2), (aw_u M_19 1 2 ((M_19 1 2) + 1)))
        )
        )
        )
        )
        )
      )
    )
    )
  )
  )
set_option maxRecDepth 20000 in
theorem tm_cloth {l : Launch} {D : va_G} {cy : Nat → ClassId} {ad : Nat → Nat} {A : Nat → Prop} (d : Nat) (hd : 1 ≤ d) (p1 : Int32) (p2 : Int32) (M : aw_M) (r : Int32) (M1 : aw_M) (h : fm_cloth p1 p2 M = some (r, M1)) : AX l D cy ad A gm_G yX10_cloth cX10_cloth 4 (some .int) d [.ref (ad 0), .int p1, .int p2] M (some (.int r)) M1 := by
  have hd1 : (d - 1) + 1 ≤ d := by omega
  have hm1 : 1 ≤ d := by omega
  have hh_0 : 0 ≤ d - 1 := by omega
  refine AX.of (own := RX10) (by decide +kernel) rfl (Nat.le_of_ble_eq_true rfl) ?_
  unfold fm_cloth at h
  show AW l D cy ad A gm_G RX10 cX10_cloth 4 (some .int) d (some (.int r)) M1 0 [(0, .ref (ad 0)), (1, .int p1), (2, .int p2)] [] M
  refine x_iload_n (pc := 0) 1 dX10_cloth_0 rfl rfl ?_
  refine x_iconst (pc := 1) (w := 0) dX10_cloth_1 ic_0 ?_
  refine x_bipush (pc := 2) (w := 69) dX10_cloth_2 bi_69 ?_
  obtain ⟨r_2, M_3, e_1, h⟩ := aw_bi_e h
  refine x_callS (pc := 4) (As := [.int p1, .int 0, .int 69]) (rest := []) (st' := [.int r_2]) (w := (some (.int r_2))) dX10_cloth_4 cw_X10_44 hd1 rfl rfl (Nat.le_of_ble_eq_true rfl) (tm_in (d - 1) hh_0 p1 0 69 _ _ _ e_1) rfl ?_
  refine x_if_eq (pc := 7) 20 dX10_cloth_7 (by decide) (fun c_4 => ?_) (fun c_4 => ?_)
  · have h := aw_pos h c_4
    refine x_aload_n (pc := 20) 0 dX10_cloth_20 rfl rfl ?_
    refine x_ldc (pc := 21) dX10_cloth_21 wk_X10_48 ?_
    refine x_callV (pc := 23) (As := [.int (-1000000001)]) (rest := []) (st' := [.int r]) (w := (some (.int r))) dX10_cloth_23 cw_X10_49 hd1 gm_0 rfl rfl rfl (Nat.le_of_ble_eq_true rfl) (tm_errs (d - 1) hh_0 (-1000000001) _ _ _ h) rfl ?_
    exact x_iret (pc := 26) dX10_cloth_26
  · have h := aw_neg h c_4
    refine x_iload_n (pc := 10) 2 dX10_cloth_10 rfl rfl ?_
    refine x_iconst (pc := 11) (w := 0) dX10_cloth_11 ic_0 ?_
    refine x_bipush (pc := 12) (w := 9) dX10_cloth_12 bi_9 ?_
    obtain ⟨r_6, M_7, e_5, h⟩ := aw_bi_e h
    refine x_callS (pc := 14) (As := [.int p2, .int 0, .int 9]) (rest := []) (st' := [.int r_6]) (w := (some (.int r_6))) dX10_cloth_14 cw_X10_44 hd1 rfl rfl (Nat.le_of_ble_eq_true rfl) (tm_in (d - 1) hh_0 p2 0 9 _ _ _ e_5) rfl ?_
    refine x_if_ne (pc := 17) 27 dX10_cloth_17 (by decide) (fun c_8 => ?_) (fun c_8 => ?_)
    · have h := aw_neg h c_8
      refine x_aload_n (pc := 27) 0 dX10_cloth_27 rfl rfl ?_
      refine x_get (pc := 28) dX10_cloth_28 lk_X10_7 gm_0 rfl rfl ?_
      refine x_iconst (pc := 31) (w := 2) dX10_cloth_31 ic_2 ?_
      refine x_ialdJ (pc := 32) 2 dX10_cloth_32 gm_1 (by decide) tn_2 ?_
      refine x_bipush (pc := 33) (w := 6) dX10_cloth_33 bi_6 ?_
      refine x_icmp_ne (pc := 35) 45 dX10_cloth_35 (by decide) (fun c_9 => ?_) (fun c_9 => ?_)
      · have h := aw_neg h c_9
        refine x_aload_n (pc := 45) 0 dX10_cloth_45 rfl rfl ?_
        refine x_get (pc := 46) dX10_cloth_46 lk_X10_7 gm_0 rfl rfl ?_
        refine x_iconst (pc := 49) (w := 2) dX10_cloth_49 ic_2 ?_
        refine x_ialdJ (pc := 50) 2 dX10_cloth_50 gm_1 (by decide) tn_2 ?_
        refine x_istore_n (pc := 51) 3 [(3, .int (M_7 1 2)), (0, .ref (ad 0)), (1, .int p1), (2, .int p2)] dX10_cloth_51 rfl (by decide) rfl ?_
        refine x_aload_n (pc := 52) 0 dX10_cloth_52 rfl rfl ?_
        refine x_iload_n (pc := 53) 3 dX10_cloth_53 rfl rfl ?_
        refine x_iconst (pc := 54) (w := 0) dX10_cloth_54 ic_0 ?_
        refine x_iload_n (pc := 55) 1 dX10_cloth_55 rfl rfl ?_
        refine x_bipush (pc := 56) (w := 10) dX10_cloth_56 bi_10 ?_
        refine x_idiv (pc := 58) dX10_cloth_58 (by decide) ?_
        obtain ⟨M_11, e_10, h⟩ := aw_bv_e h
        refine x_callV (pc := 59) (As := [.int (M_7 1 2), .int 0, .int (p1 / 10)]) (rest := []) (st' := []) (w := none) dX10_cloth_59 cw_X10_58 hd1 gm_0 rfl rfl rfl (Nat.le_of_ble_eq_true rfl) (tm_gets (d - 1) hh_0 (M_7 1 2) 0 (p1 / 10) _  _ e_10) rfl ?_
        refine x_aload_n (pc := 62) 0 dX10_cloth_62 rfl rfl ?_
        refine x_iload_n (pc := 63) 3 dX10_cloth_63 rfl rfl ?_
        refine x_iconst (pc := 64) (w := 1) dX10_cloth_64 ic_1 ?_
        refine x_iload_n (pc := 65) 1 dX10_cloth_65 rfl rfl ?_
        refine x_bipush (pc := 66) (w := 10) dX10_cloth_66 bi_10 ?_
        refine x_irem (pc := 68) dX10_cloth_68 (by decide) ?_
        obtain ⟨M_13, e_12, h⟩ := aw_bv_e h
        refine x_callV (pc := 69) (As := [.int (M_7 1 2), .int 1, .int (aw_rem p1 10)]) (rest := []) (st' := []) (w := none) dX10_cloth_69 cw_X10_58 hd1 gm_0 rfl rfl rfl (Nat.le_of_ble_eq_true rfl) (tm_gets (d - 1) hh_0 (M_7 1 2) 1 (aw_rem p1 10) _  _ e_12) rfl ?_
        refine x_aload_n (pc := 72) 0 dX10_cloth_72 rfl rfl ?_
        refine x_iload_n (pc := 73) 3 dX10_cloth_73 rfl rfl ?_
        refine x_iconst (pc := 74) (w := 2) dX10_cloth_74 ic_2 ?_
        refine x_iload_n (pc := 75) 2 dX10_cloth_75 rfl rfl ?_
        obtain ⟨M_15, e_14, h⟩ := aw_bv_e h
        refine x_callV (pc := 76) (As := [.int (M_7 1 2), .int 2, .int p2]) (rest := []) (st' := []) (w := none) dX10_cloth_76 cw_X10_58 hd1 gm_0 rfl rfl rfl (Nat.le_of_ble_eq_true rfl) (tm_gets (d - 1) hh_0 (M_7 1 2) 2 p2 _  _ e_14) rfl ?_
        refine x_aload_n (pc := 79) 0 dX10_cloth_79 rfl rfl ?_
        refine x_iload_n (pc := 80) 3 dX10_cloth_80 rfl rfl ?_
        refine x_iconst (pc := 81) (w := 3) dX10_cloth_81 ic_3 ?_
        refine x_iconst (pc := 82) (w := 0) dX10_cloth_82 ic_0 ?_
        obtain ⟨M_17, e_16, h⟩ := aw_bv_e h
        refine x_callV (pc := 83) (As := [.int (M_7 1 2), .int 3, .int 0]) (rest := []) (st' := []) (w := none) dX10_cloth_83 cw_X10_58 hd1 gm_0 rfl rfl rfl (Nat.le_of_ble_eq_true rfl) (tm_gets (d - 1) hh_0 (M_7 1 2) 3 0 _  _ e_16) rfl ?_
        refine x_aload_n (pc := 86) 0 dX10_cloth_86 rfl rfl ?_
        refine x_iload_n (pc := 87) 3 dX10_cloth_87 rfl rfl ?_
        refine x_iconst (pc := 88) (w := 4) dX10_cloth_88 ic_4 ?_
        refine x_iconst (pc := 89) (w := 0) dX10_cloth_89 ic_0 ?_
        obtain ⟨M_19, e_18, h⟩ := aw_bv_e h
        refine x_callV (pc := 90) (As := [.int (M_7 1 2), .int 4, .int 0]) (rest := []) (st' := []) (w := none) dX10_cloth_90 cw_X10_58 hd1 gm_0 rfl rfl rfl (Nat.le_of_ble_eq_true rfl) (tm_gets (d - 1) hh_0 (M_7 1 2) 4 0 _  _ e_18) rfl ?_
        refine x_aload_n (pc := 93) 0 dX10_cloth_93 rfl rfl ?_
        refine x_get (pc := 94) dX10_cloth_94 lk_X10_7 gm_0 rfl rfl ?_
        refine x_iconst (pc := 97) (w := 2) dX10_cloth_97 ic_2 ?_
        refine x_dup2_11 (pc := 98) dX10_cloth_98 rfl rfl ?_
        refine x_ialdJ (pc := 99) 2 dX10_cloth_99 gm_1 (by decide) tn_2 ?_
        refine x_iconst (pc := 100) (w := 1) dX10_cloth_100 ic_1 ?_
        refine x_iadd (pc := 101) dX10_cloth_101 ?_
        refine x_iastJ (pc := 102) 2 dX10_cloth_102 gm_1 (by decide) tn_2 ?_
        refine x_iload_n (pc := 103) 3 dX10_cloth_103 rfl rfl ?_
        obtain ⟨rfl, rfl⟩ := aw_so h
        exact x_iret (pc := 104) dX10_cloth_104
      · have h := aw_pos h c_9
        refine x_aload_n (pc := 38) 0 dX10_cloth_38 rfl rfl ?_
        refine x_ldc (pc := 39) dX10_cloth_39 wk_X10_57 ?_
        refine x_callV (pc := 41) (As := [.int (-1000000004)]) (rest := []) (st' := [.int r]) (w := (some (.int r))) dX10_cloth_41 cw_X10_49 hd1 gm_0 rfl rfl rfl (Nat.le_of_ble_eq_true rfl) (tm_errs (d - 1) hh_0 (-1000000004) _ _ _ h) rfl ?_
        exact x_iret (pc := 44) dX10_cloth_44
    · have h := aw_pos h c_8
      refine x_aload_n (pc := 20) 0 dX10_cloth_20 rfl rfl ?_
      refine x_ldc (pc := 21) dX10_cloth_21 wk_X10_48 ?_
      refine x_callV (pc := 23) (As := [.int (-1000000001)]) (rest := []) (st' := [.int r]) (w := (some (.int r))) dX10_cloth_23 cw_X10_49 hd1 gm_0 rfl rfl rfl (Nat.le_of_ble_eq_true rfl) (tm_errs (d - 1) hh_0 (-1000000001) _ _ _ h) rfl ?_
      exact x_iret (pc := 26) dX10_cloth_26
def fm_bears (p1 : Int32) (M : aw_M) : Option (Int32 × aw_M) :=
  aw_bi (fm_its p1 0 M) fun r_2 M_3 => (
  if r_2 = 1 then (
    some (0, M_3)
  ) else (
    if r_2 = 2 then (
      some (1, M_3)
    ) else (
      if r_2 = 3 then (
        some (2, M_3)
      ) else (
        if r_2 = 4 then (
          some (0, M_3)
        ) else (
          if r_2 = 5 then (
            some (2, M_3)
          ) else (
            if r_2 = 6 then (
              aw_bi (fm_its p1 1 M_3) fun r_11 M_12 => (
              some ((2 + (r_11 / 4)), M_12)
              )
            ) else (
              some (1, M_3)
            )
          )
        )
      )
    )
  )
  )
set_option maxRecDepth 20000 in
theorem tm_bears {l : Launch} {D : va_G} {cy : Nat → ClassId} {ad : Nat → Nat} {A : Nat → Prop} (d : Nat) (hd : 1 ≤ d) (p1 : Int32) (M : aw_M) (r : Int32) (M1 : aw_M) (h : fm_bears p1 M = some (r, M1)) : AX l D cy ad A gm_G yX10_bears cX10_bears 2 (some .int) d [.ref (ad 0), .int p1] M (some (.int r)) M1 := by
  have hd1 : (d - 1) + 1 ≤ d := by omega
  have hm1 : 1 ≤ d := by omega
  have hh_0 : 0 ≤ d - 1 := by omega
  refine AX.of (own := RX10) (by decide +kernel) rfl (Nat.le_of_ble_eq_true rfl) ?_
  unfold fm_bears at h
  show AW l D cy ad A gm_G RX10 cX10_bears 2 (some .int) d (some (.int r)) M1 0 [(0, .ref (ad 0)), (1, .int p1)] [] M
  refine x_aload_n (pc := 0) 0 dX10_bears_0 rfl rfl ?_
  refine x_iload_n (pc := 1) 1 dX10_bears_1 rfl rfl ?_
  refine x_iconst (pc := 2) (w := 0) dX10_bears_2 ic_0 ?_
  obtain ⟨r_2, M_3, e_1, h⟩ := aw_bi_e h
  refine x_callV (pc := 3) (As := [.int p1, .int 0]) (rest := []) (st' := [.int r_2]) (w := (some (.int r_2))) dX10_bears_3 cw_X10_78 hd1 gm_0 rfl rfl rfl (Nat.le_of_ble_eq_true rfl) (tm_its (d - 1) hh_0 p1 0 _ _ _ e_1) rfl ?_
  by_cases c_4 : r_2 = 1
  · have h := aw_pos h c_4
    refine x_tin (pc := 6) (off := 38) 1 44 dX10_bears_6 c_4 (by decide) (by decide) rfl (by decide) ?_
    refine x_iconst (pc := 44) (w := 0) dX10_bears_44 ic_0 ?_
    obtain ⟨rfl, rfl⟩ := aw_so h
    exact x_iret (pc := 45) dX10_bears_45
  · have h := aw_neg h c_4
    by_cases c_5 : r_2 = 2
    · have h := aw_pos h c_5
      refine x_tin (pc := 6) (off := 53) 2 59 dX10_bears_6 c_5 (by decide) (by decide) rfl (by decide) ?_
      refine x_iconst (pc := 59) (w := 1) dX10_bears_59 ic_1 ?_
      obtain ⟨rfl, rfl⟩ := aw_so h
      exact x_iret (pc := 60) dX10_bears_60
    · have h := aw_neg h c_5
      by_cases c_6 : r_2 = 3
      · have h := aw_pos h c_6
        refine x_tin (pc := 6) (off := 40) 3 46 dX10_bears_6 c_6 (by decide) (by decide) rfl (by decide) ?_
        refine x_iconst (pc := 46) (w := 2) dX10_bears_46 ic_2 ?_
        obtain ⟨rfl, rfl⟩ := aw_so h
        exact x_iret (pc := 47) dX10_bears_47
      · have h := aw_neg h c_6
        by_cases c_7 : r_2 = 4
        · have h := aw_pos h c_7
          refine x_tin (pc := 6) (off := 38) 4 44 dX10_bears_6 c_7 (by decide) (by decide) rfl (by decide) ?_
          refine x_iconst (pc := 44) (w := 0) dX10_bears_44 ic_0 ?_
          obtain ⟨rfl, rfl⟩ := aw_so h
          exact x_iret (pc := 45) dX10_bears_45
        · have h := aw_neg h c_7
          by_cases c_8 : r_2 = 5
          · have h := aw_pos h c_8
            refine x_tin (pc := 6) (off := 40) 5 46 dX10_bears_6 c_8 (by decide) (by decide) rfl (by decide) ?_
            refine x_iconst (pc := 46) (w := 2) dX10_bears_46 ic_2 ?_
            obtain ⟨rfl, rfl⟩ := aw_so h
            exact x_iret (pc := 47) dX10_bears_47
          · have h := aw_neg h c_8
            by_cases c_9 : r_2 = 6
            · have h := aw_pos h c_9
              refine x_tin (pc := 6) (off := 42) 6 48 dX10_bears_6 c_9 (by decide) (by decide) rfl (by decide) ?_
              refine x_iconst (pc := 48) (w := 2) dX10_bears_48 ic_2 ?_
              refine x_aload_n (pc := 49) 0 dX10_bears_49 rfl rfl ?_
              refine x_iload_n (pc := 50) 1 dX10_bears_50 rfl rfl ?_
              refine x_iconst (pc := 51) (w := 1) dX10_bears_51 ic_1 ?_
              obtain ⟨r_11, M_12, e_10, h⟩ := aw_bi_e h
              refine x_callV (pc := 52) (As := [.int p1, .int 1]) (rest := [.int 2]) (st' := [.int r_11, .int 2]) (w := (some (.int r_11))) dX10_bears_52 cw_X10_78 hd1 gm_0 rfl rfl rfl (Nat.le_of_ble_eq_true rfl) (tm_its (d - 1) hh_0 p1 1 _ _ _ e_10) rfl ?_
              refine x_iconst (pc := 55) (w := 4) dX10_bears_55 ic_4 ?_
              refine x_idiv (pc := 56) dX10_bears_56 (by decide) ?_
              refine x_iadd (pc := 57) dX10_bears_57 ?_
              obtain ⟨rfl, rfl⟩ := aw_so h
              exact x_iret (pc := 58) dX10_bears_58
            · have h := aw_neg h c_9
              refine x_tout (pc := 6) 59 dX10_bears_6 (by have z0 := lv_neT c_4 (a := 1) rfl; have z1 := lv_neT c_5 (a := 2) rfl; have z2 := lv_neT c_6 (a := 3) rfl; have z3 := lv_neT c_7 (a := 4) rfl; have z4 := lv_neT c_8 (a := 5) rfl; have z5 := lv_neT c_9 (a := 6) rfl; omega) (by decide) ?_
              refine x_iconst (pc := 59) (w := 1) dX10_bears_59 ic_1 ?_
              obtain ⟨rfl, rfl⟩ := aw_so h
              exact x_iret (pc := 60) dX10_bears_60
def fm_byteAt (p1 : Int32) (M : aw_M) : Option (Int32 × aw_M) :=
  if (M 0 9) ≤ p1 then (
    some ((-1), M)
  ) else (
    if aw_in ((113 + (50 * (M 0 7))) + p1) 213 then none else (
    some ((M 1 ((113 + (50 * (M 0 7))) + p1).toNatClampNeg), M)
    )
  )
set_option maxRecDepth 20000 in
theorem tm_byteAt {l : Launch} {D : va_G} {cy : Nat → ClassId} {ad : Nat → Nat} {A : Nat → Prop} (d : Nat) (hd : 0 ≤ d) (p1 : Int32) (M : aw_M) (r : Int32) (M1 : aw_M) (h : fm_byteAt p1 M = some (r, M1)) : AX l D cy ad A gm_G yX10_byteAt cX10_byteAt 2 (some .int) d [.ref (ad 0), .int p1] M (some (.int r)) M1 := by
  refine AX.of (own := RX10) (by decide +kernel) rfl (Nat.le_of_ble_eq_true rfl) ?_
  unfold fm_byteAt at h
  show AW l D cy ad A gm_G RX10 cX10_byteAt 2 (some .int) d (some (.int r)) M1 0 [(0, .ref (ad 0)), (1, .int p1)] [] M
  refine x_iload_n (pc := 0) 1 dX10_byteAt_0 rfl rfl ?_
  refine x_aload_n (pc := 1) 0 dX10_byteAt_1 rfl rfl ?_
  refine x_get (pc := 2) dX10_byteAt_2 lk_X10_85 gm_0 rfl rfl ?_
  refine x_icmp_ge (pc := 5) 28 dX10_byteAt_5 (by decide) (fun c_1 => ?_) (fun c_1 => ?_)
  · have h := aw_pos h c_1
    refine x_iconst (pc := 28) (w := (-1)) dX10_byteAt_28 ic_m1 ?_
    obtain ⟨rfl, rfl⟩ := aw_so h
    exact x_iret (pc := 29) dX10_byteAt_29
  · have h := aw_neg h c_1
    refine x_aload_n (pc := 8) 0 dX10_byteAt_8 rfl rfl ?_
    refine x_get (pc := 9) dX10_byteAt_9 lk_X10_7 gm_0 rfl rfl ?_
    refine x_bipush (pc := 12) (w := 113) dX10_byteAt_12 bi_113 ?_
    refine x_bipush (pc := 14) (w := 50) dX10_byteAt_14 bi_50 ?_
    refine x_aload_n (pc := 16) 0 dX10_byteAt_16 rfl rfl ?_
    refine x_get (pc := 17) dX10_byteAt_17 lk_X10_89 gm_0 rfl rfl ?_
    refine x_imul (pc := 20) dX10_byteAt_20 ?_
    refine x_iadd (pc := 21) dX10_byteAt_21 ?_
    refine x_iload_n (pc := 22) 1 dX10_byteAt_22 rfl rfl ?_
    refine x_iadd (pc := 23) dX10_byteAt_23 ?_
    obtain ⟨c_2, h⟩ := aw_ck h
    refine x_iald (pc := 24) dX10_byteAt_24 gm_1 c_2 ?_
    refine x_goto (pc := 25) 29 dX10_byteAt_25 (by decide) ?_
    obtain ⟨rfl, rfl⟩ := aw_so h
    exact x_iret (pc := 29) dX10_byteAt_29
def fm_isDigit (p0 : Int32) (M : aw_M) : Option (Int32 × aw_M) :=
  aw_bi (fm_in p0 48 57 M) fun r_2 M_3 => (
  if ¬ (r_2 = 0 ∨ r_2 = 1) then none else (
  some (r_2, M_3)
  )
  )
set_option maxRecDepth 20000 in
theorem tm_isDigit {l : Launch} {D : va_G} {cy : Nat → ClassId} {ad : Nat → Nat} {A : Nat → Prop} (d : Nat) (hd : 1 ≤ d) (p0 : Int32) (M : aw_M) (r : Int32) (M1 : aw_M) (h : fm_isDigit p0 M = some (r, M1)) : AX l D cy ad A gm_G yX10_isDigit cX10_isDigit 1 (some .boolean) d [.int p0] M (some (.int r)) M1 := by
  have hd1 : (d - 1) + 1 ≤ d := by omega
  have hm1 : 1 ≤ d := by omega
  have hh_0 : 0 ≤ d - 1 := by omega
  refine AX.of (own := RX10) (by decide +kernel) rfl (Nat.le_of_ble_eq_true rfl) ?_
  unfold fm_isDigit at h
  show AW l D cy ad A gm_G RX10 cX10_isDigit 1 (some .boolean) d (some (.int r)) M1 0 [(0, .int p0)] [] M
  refine x_iload_n (pc := 0) 0 dX10_isDigit_0 rfl rfl ?_
  refine x_bipush (pc := 1) (w := 48) dX10_isDigit_1 bi_48 ?_
  refine x_bipush (pc := 3) (w := 57) dX10_isDigit_3 bi_57 ?_
  obtain ⟨r_2, M_3, e_1, h⟩ := aw_bi_e h
  refine x_callS (pc := 5) (As := [.int p0, .int 48, .int 57]) (rest := []) (st' := [.int r_2]) (w := (some (.int r_2))) dX10_isDigit_5 cw_X10_44 hd1 rfl rfl (Nat.le_of_ble_eq_true rfl) (tm_in (d - 1) hh_0 p0 48 57 _ _ _ e_1) rfl ?_
  obtain ⟨c_4, h⟩ := aw_ck h
  obtain ⟨rfl, rfl⟩ := aw_so h
  exact x_zret (pc := 8) (aw_bo c_4) dX10_isDigit_8
def fm_number_L4 : Nat → Int32 → Int32 → aw_M → Option (Int32 × aw_M)
  | 0, _, _, _ => none
  | n + 1, p1, p2, M =>
    if (4 : Int32) ≤ p2 then (
      some (p1, M)
    ) else (
      aw_bi (fm_byteAt (M 0 8) M) fun r_3 M_4 => (
      aw_bi (fm_isDigit r_3 M_4) fun r_6 M_7 => (
      if r_6 = 0 then (
        some (p1, M_7)
      ) else (
        aw_bi (fm_byteAt (M_7 0 8) M_7) fun r_10 M_11 => (
        fm_number_L4 n (((10 * p1) + r_10) - 48) (p2 + 1) (aw_u M_11 0 8 ((M_11 0 8) + 1))
        )
      )
      )
      )
    )
theorem fm_number_L4_s (n : Nat) (p1 : Int32) (p2 : Int32) (M : aw_M) : fm_number_L4 (n + 1) p1 p2 M = (
    if (4 : Int32) ≤ p2 then (
      some (p1, M)
    ) else (
      aw_bi (fm_byteAt (M 0 8) M) fun r_3 M_4 => (
      aw_bi (fm_isDigit r_3 M_4) fun r_6 M_7 => (
      if r_6 = 0 then (
        some (p1, M_7)
      ) else (
        aw_bi (fm_byteAt (M_7 0 8) M_7) fun r_10 M_11 => (
        fm_number_L4 n (((10 * p1) + r_10) - 48) (p2 + 1) (aw_u M_11 0 8 ((M_11 0 8) + 1))
        )
      )
      )
      )
    )
    ) := rfl
set_option maxRecDepth 20000 in
theorem tm_number_L4 {l : Launch} {D : va_G} {cy : Nat → ClassId} {ad : Nat → Nat} {A : Nat → Prop} (d : Nat) (hd : 2 ≤ d) : ∀ (n : Nat) (p1 : Int32) (p2 : Int32) (M : aw_M) (r : Int32) (M1 : aw_M), fm_number_L4 n p1 p2 M = some (r, M1) → AW l D cy ad A gm_G RX10 cX10_number 3 (some .int) d (some (.int r)) M1 4 [(0, .ref (ad 0)), (1, .int p1), (2, .int p2)] [] M := by
  have hd1 : (d - 1) + 1 ≤ d := by omega
  have hm1 : 1 ≤ d := by omega
  have hh_0 : 0 ≤ d - 1 := by omega
  have hh_1 : 1 ≤ d - 1 := by omega
  intro n
  induction n with
  | zero => intro p1 p2 M r M1 h; cases h
  | succ n ih =>
    intro p1 p2 M r M1 h
    rw [fm_number_L4_s] at h
    refine x_iload_n (pc := 4) 2 dX10_number_4 rfl rfl ?_
    refine x_iconst (pc := 5) (w := 4) dX10_number_5 ic_4 ?_
    refine x_icmp_ge (pc := 6) 56 dX10_number_6 (by decide) (fun c_1 => ?_) (fun c_1 => ?_)
    · have h := aw_pos h c_1
      refine x_iload_n (pc := 56) 1 dX10_number_56 rfl rfl ?_
      obtain ⟨rfl, rfl⟩ := aw_so h
      exact x_iret (pc := 57) dX10_number_57
    · have h := aw_neg h c_1
      refine x_aload_n (pc := 9) 0 dX10_number_9 rfl rfl ?_
      refine x_aload_n (pc := 10) 0 dX10_number_10 rfl rfl ?_
      refine x_get (pc := 11) dX10_number_11 lk_X10_96 gm_0 rfl rfl ?_
      obtain ⟨r_3, M_4, e_2, h⟩ := aw_bi_e h
      refine x_callV (pc := 14) (As := [.int (M 0 8)]) (rest := []) (st' := [.int r_3]) (w := (some (.int r_3))) dX10_number_14 cw_X10_99 hd1 gm_0 rfl rfl rfl (Nat.le_of_ble_eq_true rfl) (tm_byteAt (d - 1) hh_0 (M 0 8) _ _ _ e_2) rfl ?_
      obtain ⟨r_6, M_7, e_5, h⟩ := aw_bi_e h
      refine x_callS (pc := 17) (As := [.int r_3]) (rest := []) (st' := [.int r_6]) (w := (some (.int r_6))) dX10_number_17 cw_X10_102 hd1 rfl rfl (Nat.le_of_ble_eq_true rfl) (tm_isDigit (d - 1) hh_1 r_3 _ _ _ e_5) rfl ?_
      refine x_if_eq (pc := 20) 56 dX10_number_20 (by decide) (fun c_8 => ?_) (fun c_8 => ?_)
      · have h := aw_pos h c_8
        refine x_iload_n (pc := 56) 1 dX10_number_56 rfl rfl ?_
        obtain ⟨rfl, rfl⟩ := aw_so h
        exact x_iret (pc := 57) dX10_number_57
      · have h := aw_neg h c_8
        refine x_bipush (pc := 23) (w := 10) dX10_number_23 bi_10 ?_
        refine x_iload_n (pc := 25) 1 dX10_number_25 rfl rfl ?_
        refine x_imul (pc := 26) dX10_number_26 ?_
        refine x_aload_n (pc := 27) 0 dX10_number_27 rfl rfl ?_
        refine x_aload_n (pc := 28) 0 dX10_number_28 rfl rfl ?_
        refine x_get (pc := 29) dX10_number_29 lk_X10_96 gm_0 rfl rfl ?_
        obtain ⟨r_10, M_11, e_9, h⟩ := aw_bi_e h
        refine x_callV (pc := 32) (As := [.int (M_7 0 8)]) (rest := [.int (10 * p1)]) (st' := [.int r_10, .int (10 * p1)]) (w := (some (.int r_10))) dX10_number_32 cw_X10_99 hd1 gm_0 rfl rfl rfl (Nat.le_of_ble_eq_true rfl) (tm_byteAt (d - 1) hh_0 (M_7 0 8) _ _ _ e_9) rfl ?_
        refine x_iadd (pc := 35) dX10_number_35 ?_
        refine x_bipush (pc := 36) (w := 48) dX10_number_36 bi_48 ?_
        refine x_isub (pc := 38) dX10_number_38 ?_
        refine x_istore_n (pc := 39) 1 [(1, .int (((10 * p1) + r_10) - 48)), (0, .ref (ad 0)), (2, .int p2)] dX10_number_39 rfl (by decide) rfl ?_
        refine x_aload_n (pc := 40) 0 dX10_number_40 rfl rfl ?_
        refine x_dup (pc := 41) dX10_number_41 rfl ?_
        refine x_get (pc := 42) dX10_number_42 lk_X10_96 gm_0 rfl rfl ?_
        refine x_iconst (pc := 45) (w := 1) dX10_number_45 ic_1 ?_
        refine x_iadd (pc := 46) dX10_number_46 ?_
        refine x_put (pc := 47) (x := ((M_11 0 8) + 1)) dX10_number_47 lk_X10_96 lp_X10_8 gm_0 rfl rfl rfl rfl ?_
        refine x_iinc (pc := 50) (p2 + 1) [(2, .int (p2 + 1)), (1, .int (((10 * p1) + r_10) - 48)), (0, .ref (ad 0))] dX10_number_50 rfl (congrArg (fun z => p2 + z) ic_1) (by decide) rfl ?_
        refine x_goto (pc := 53) 4 dX10_number_53 (by decide) ?_
        refine x_lv [2, 1, 0] [(0, .ref (ad 0)), (1, .int (((10 * p1) + r_10) - 48)), (2, .int (p2 + 1))] rfl ?_
        exact ih (((10 * p1) + r_10) - 48) (p2 + 1) _ _ _ h
def fm_number  (M : aw_M) : Option (Int32 × aw_M) :=
  fm_number_L4  2000 0 0 M
set_option maxRecDepth 20000 in
theorem tm_number {l : Launch} {D : va_G} {cy : Nat → ClassId} {ad : Nat → Nat} {A : Nat → Prop} (d : Nat) (hd : 2 ≤ d)  (M : aw_M) (r : Int32) (M1 : aw_M) (h : fm_number  M = some (r, M1)) : AX l D cy ad A gm_G yX10_number cX10_number 3 (some .int) d [.ref (ad 0)] M (some (.int r)) M1 := by
  have hd1 : (d - 1) + 1 ≤ d := by omega
  have hm1 : 1 ≤ d := by omega
  have hh_0 : 0 ≤ d - 1 := by omega
  have hh_1 : 1 ≤ d - 1 := by omega
  refine AX.of (own := RX10) (by decide +kernel) rfl (Nat.le_of_ble_eq_true rfl) ?_
  unfold fm_number at h
  show AW l D cy ad A gm_G RX10 cX10_number 3 (some .int) d (some (.int r)) M1 0 [(0, .ref (ad 0))] [] M
  refine x_iconst (pc := 0) (w := 0) dX10_number_0 ic_0 ?_
  refine x_istore_n (pc := 1) 1 [(1, .int 0), (0, .ref (ad 0))] dX10_number_1 rfl (by decide) rfl ?_
  refine x_iconst (pc := 2) (w := 0) dX10_number_2 ic_0 ?_
  refine x_istore_n (pc := 3) 2 [(2, .int 0), (1, .int 0), (0, .ref (ad 0))] dX10_number_3 rfl (by decide) rfl ?_
  refine x_lv [2, 1, 0] [(0, .ref (ad 0)), (1, .int 0), (2, .int 0)] rfl ?_
  exact tm_number_L4 d hd  2000 0 0 _ _ _ h
def fm_fails  (M : aw_M) : Option (Int32 × aw_M) :=
  some (0, (aw_u M 0 14 0))
set_option maxRecDepth 20000 in
theorem tm_fails {l : Launch} {D : va_G} {cy : Nat → ClassId} {ad : Nat → Nat} {A : Nat → Prop} (d : Nat) (hd : 0 ≤ d)  (M : aw_M) (r : Int32) (M1 : aw_M) (h : fm_fails  M = some (r, M1)) : AX l D cy ad A gm_G yX10_fails cX10_fails 1 (some .int) d [.ref (ad 0)] M (some (.int r)) M1 := by
  refine AX.of (own := RX10) (by decide +kernel) rfl (Nat.le_of_ble_eq_true rfl) ?_
  unfold fm_fails at h
  show AW l D cy ad A gm_G RX10 cX10_fails 1 (some .int) d (some (.int r)) M1 0 [(0, .ref (ad 0))] [] M
  refine x_aload_n (pc := 0) 0 dX10_fails_0 rfl rfl ?_
  refine x_iconst (pc := 1) (w := 0) dX10_fails_1 ic_0 ?_
  refine x_put (pc := 2) (x := 0) dX10_fails_2 lk_X10_92 lp_X10_14 gm_0 rfl rfl (by decide +kernel) (by decide +kernel) ?_
  refine x_iconst (pc := 5) (w := 0) dX10_fails_5 ic_0 ?_
  obtain ⟨rfl, rfl⟩ := aw_so h
  exact x_iret (pc := 6) dX10_fails_6
def fm_named_J67 (p2 : Int32) (p3 : Int32) (M : aw_M) : Option (Int32 × aw_M) :=
    if p2 = 0 then (
      if p3 = 0 then (
        some (((aw_u M 0 8 ((M 0 8) + 1)) 0 13), (aw_u M 0 8 ((M 0 8) + 1)))
      ) else (
        some (((aw_u M 0 8 ((M 0 8) + 1)) 0 12), (aw_u M 0 8 ((M 0 8) + 1)))
      )
    ) else (
      some (((aw_u M 0 8 ((M 0 8) + 1)) 0 11), (aw_u M 0 8 ((M 0 8) + 1)))
    )
set_option maxRecDepth 20000 in
theorem tm_named_J67 {l : Launch} {D : va_G} {cy : Nat → ClassId} {ad : Nat → Nat} {A : Nat → Prop} (d : Nat) (hd : 1 ≤ d) (p2 : Int32) (p3 : Int32) (M : aw_M) (r : Int32) (M1 : aw_M) (h : fm_named_J67 p2 p3 M = some (r, M1)) : AW l D cy ad A gm_G RX10 cX10_named 5 (some .int) d (some (.int r)) M1 67 [(0, .ref (ad 0)), (2, .int p2), (3, .int p3)] [] M := by
  have hd1 : (d - 1) + 1 ≤ d := by omega
  have hm1 : 1 ≤ d := by omega
  have hh_0 : 0 ≤ d - 1 := by omega
  unfold fm_named_J67 at h
  refine x_aload_n (pc := 67) 0 dX10_named_67 rfl rfl ?_
  refine x_dup (pc := 68) dX10_named_68 rfl ?_
  refine x_get (pc := 69) dX10_named_69 lk_X10_96 gm_0 rfl rfl ?_
  refine x_iconst (pc := 72) (w := 1) dX10_named_72 ic_1 ?_
  refine x_iadd (pc := 73) dX10_named_73 ?_
  refine x_put (pc := 74) (x := ((M 0 8) + 1)) dX10_named_74 lk_X10_96 lp_X10_8 gm_0 rfl rfl rfl rfl ?_
  refine x_iload_n (pc := 77) 2 dX10_named_77 rfl rfl ?_
  refine x_if_eq (pc := 78) 88 dX10_named_78 (by decide) (fun c_12 => ?_) (fun c_12 => ?_)
  · have h := aw_pos h c_12
    refine x_iload_n (pc := 88) 3 dX10_named_88 rfl rfl ?_
    refine x_if_eq (pc := 89) 99 dX10_named_89 (by decide) (fun c_13 => ?_) (fun c_13 => ?_)
    · have h := aw_pos h c_13
      refine x_aload_n (pc := 99) 0 dX10_named_99 rfl rfl ?_
      refine x_get (pc := 100) dX10_named_100 lk_X10_115 gm_0 rfl rfl ?_
      obtain ⟨rfl, rfl⟩ := aw_so h
      exact x_iret (pc := 103) dX10_named_103
    · have h := aw_neg h c_13
      refine x_aload_n (pc := 92) 0 dX10_named_92 rfl rfl ?_
      refine x_get (pc := 93) dX10_named_93 lk_X10_112 gm_0 rfl rfl ?_
      refine x_goto (pc := 96) 103 dX10_named_96 (by decide) ?_
      obtain ⟨rfl, rfl⟩ := aw_so h
      exact x_iret (pc := 103) dX10_named_103
  · have h := aw_neg h c_12
    refine x_aload_n (pc := 81) 0 dX10_named_81 rfl rfl ?_
    refine x_get (pc := 82) dX10_named_82 lk_X10_109 gm_0 rfl rfl ?_
    refine x_goto (pc := 85) 103 dX10_named_85 (by decide) ?_
    obtain ⟨rfl, rfl⟩ := aw_so h
    exact x_iret (pc := 103) dX10_named_103
def fm_named_J39 (p2 : Int32) (p3 : Int32) (p100 : Int32) (p101 : Int32) (M : aw_M) : Option (Int32 × aw_M) :=
    if p101 = p100 then (
      if p2 = 0 then (
        if p3 = 0 then (
          if (1 : Int32) = 0 then (
            fm_fails  M
          ) else (
            fm_named_J67  p2 p3 M
          )
        ) else (
          fm_named_J67  p2 p3 M
        )
      ) else (
        fm_named_J67  p2 p3 M
      )
    ) else (
      if p2 = 0 then (
        if p3 = 0 then (
          if (0 : Int32) = 0 then (
            fm_fails  M
          ) else (
            fm_named_J67  p2 p3 M
          )
        ) else (
          fm_named_J67  p2 p3 M
        )
      ) else (
        fm_named_J67  p2 p3 M
      )
    )
set_option maxRecDepth 20000 in
theorem tm_named_J39 {l : Launch} {D : va_G} {cy : Nat → ClassId} {ad : Nat → Nat} {A : Nat → Prop} (d : Nat) (hd : 1 ≤ d) (p2 : Int32) (p3 : Int32) (p100 : Int32) (p101 : Int32) (M : aw_M) (r : Int32) (M1 : aw_M) (h : fm_named_J39 p2 p3 p100 p101 M = some (r, M1)) : AW l D cy ad A gm_G RX10 cX10_named 5 (some .int) d (some (.int r)) M1 39 [(0, .ref (ad 0)), (2, .int p2), (3, .int p3)] [.int p100, .int p101] M := by
  have hd1 : (d - 1) + 1 ≤ d := by omega
  have hm1 : 1 ≤ d := by omega
  have hh_0 : 0 ≤ d - 1 := by omega
  unfold fm_named_J39 at h
  refine x_icmp_ne (pc := 39) 46 dX10_named_39 (by decide) (fun c_5 => ?_) (fun c_5 => ?_)
  · have h := aw_neg h c_5
    refine x_iconst (pc := 46) (w := 0) dX10_named_46 ic_0 ?_
    refine x_istore (pc := 47) 4 [(4, .int 0), (0, .ref (ad 0)), (2, .int p2), (3, .int p3)] dX10_named_47 (by decide) rfl ?_
    refine x_iload_n (pc := 49) 2 dX10_named_49 rfl rfl ?_
    refine x_if_ne (pc := 50) 67 dX10_named_50 (by decide) (fun c_6 => ?_) (fun c_6 => ?_)
    · have h := aw_neg h c_6
      refine x_lv [1, 2, 3] [(0, .ref (ad 0)), (2, .int p2), (3, .int p3)] rfl ?_
      exact tm_named_J67 d hd  p2 p3 _ _ _ h
    · have h := aw_pos h c_6
      refine x_iload_n (pc := 53) 3 dX10_named_53 rfl rfl ?_
      refine x_if_ne (pc := 54) 67 dX10_named_54 (by decide) (fun c_7 => ?_) (fun c_7 => ?_)
      · have h := aw_neg h c_7
        refine x_lv [1, 2, 3] [(0, .ref (ad 0)), (2, .int p2), (3, .int p3)] rfl ?_
        exact tm_named_J67 d hd  p2 p3 _ _ _ h
      · have h := aw_pos h c_7
        refine x_iload (pc := 57) dX10_named_57 rfl ?_
        refine x_if_ne (pc := 59) 67 dX10_named_59 (by decide) (fun c_8 => ?_) (fun c_8 => ?_)
        · have h := aw_neg h c_8
          refine x_lv [1, 2, 3] [(0, .ref (ad 0)), (2, .int p2), (3, .int p3)] rfl ?_
          exact tm_named_J67 d hd  p2 p3 _ _ _ h
        · have h := aw_pos h c_8
          refine x_aload_n (pc := 62) 0 dX10_named_62 rfl rfl ?_
          refine x_callV (pc := 63) (As := []) (rest := []) (st' := [.int r]) (w := (some (.int r))) dX10_named_63 cw_X10_105 hd1 gm_0 rfl rfl rfl (Nat.le_of_ble_eq_true rfl) (tm_fails (d - 1) hh_0  _ _ _ h) rfl ?_
          exact x_iret (pc := 66) dX10_named_66
  · have h := aw_pos h c_5
    refine x_iconst (pc := 42) (w := 1) dX10_named_42 ic_1 ?_
    refine x_goto (pc := 43) 47 dX10_named_43 (by decide) ?_
    refine x_istore (pc := 47) 4 [(4, .int 1), (0, .ref (ad 0)), (2, .int p2), (3, .int p3)] dX10_named_47 (by decide) rfl ?_
    refine x_iload_n (pc := 49) 2 dX10_named_49 rfl rfl ?_
    refine x_if_ne (pc := 50) 67 dX10_named_50 (by decide) (fun c_9 => ?_) (fun c_9 => ?_)
    · have h := aw_neg h c_9
      refine x_lv [1, 2, 3] [(0, .ref (ad 0)), (2, .int p2), (3, .int p3)] rfl ?_
      exact tm_named_J67 d hd  p2 p3 _ _ _ h
    · have h := aw_pos h c_9
      refine x_iload_n (pc := 53) 3 dX10_named_53 rfl rfl ?_
      refine x_if_ne (pc := 54) 67 dX10_named_54 (by decide) (fun c_10 => ?_) (fun c_10 => ?_)
      · have h := aw_neg h c_10
        refine x_lv [1, 2, 3] [(0, .ref (ad 0)), (2, .int p2), (3, .int p3)] rfl ?_
        exact tm_named_J67 d hd  p2 p3 _ _ _ h
      · have h := aw_pos h c_10
        refine x_iload (pc := 57) dX10_named_57 rfl ?_
        refine x_if_ne (pc := 59) 67 dX10_named_59 (by decide) (fun c_11 => ?_) (fun c_11 => ?_)
        · have h := aw_neg h c_11
          refine x_lv [1, 2, 3] [(0, .ref (ad 0)), (2, .int p2), (3, .int p3)] rfl ?_
          exact tm_named_J67 d hd  p2 p3 _ _ _ h
        · have h := aw_pos h c_11
          refine x_aload_n (pc := 62) 0 dX10_named_62 rfl rfl ?_
          refine x_callV (pc := 63) (As := []) (rest := []) (st' := [.int r]) (w := (some (.int r))) dX10_named_63 cw_X10_105 hd1 gm_0 rfl rfl rfl (Nat.le_of_ble_eq_true rfl) (tm_fails (d - 1) hh_0  _ _ _ h) rfl ?_
          exact x_iret (pc := 66) dX10_named_66
def fm_named_J11 (p1 : Int32) (p100 : Int32) (M : aw_M) : Option (Int32 × aw_M) :=
    if p1 = 109 then (
      if (M 0 7) = 0 then (
        fm_named_J39  p100 1 107 p1 M
      ) else (
        fm_named_J39  p100 1 108 p1 M
      )
    ) else (
      if (M 0 7) = 0 then (
        fm_named_J39  p100 0 107 p1 M
      ) else (
        fm_named_J39  p100 0 108 p1 M
      )
    )
set_option maxRecDepth 20000 in
theorem tm_named_J11 {l : Launch} {D : va_G} {cy : Nat → ClassId} {ad : Nat → Nat} {A : Nat → Prop} (d : Nat) (hd : 1 ≤ d) (p1 : Int32) (p100 : Int32) (M : aw_M) (r : Int32) (M1 : aw_M) (h : fm_named_J11 p1 p100 M = some (r, M1)) : AW l D cy ad A gm_G RX10 cX10_named 5 (some .int) d (some (.int r)) M1 11 [(0, .ref (ad 0)), (1, .int p1)] [.int p100] M := by
  have hd1 : (d - 1) + 1 ≤ d := by omega
  have hm1 : 1 ≤ d := by omega
  have hh_0 : 0 ≤ d - 1 := by omega
  unfold fm_named_J11 at h
  refine x_istore_n (pc := 11) 2 [(2, .int p100), (0, .ref (ad 0)), (1, .int p1)] dX10_named_11 rfl (by decide) rfl ?_
  refine x_iload_n (pc := 12) 1 dX10_named_12 rfl rfl ?_
  refine x_bipush (pc := 13) (w := 109) dX10_named_13 bi_109 ?_
  refine x_icmp_ne (pc := 15) 22 dX10_named_15 (by decide) (fun c_2 => ?_) (fun c_2 => ?_)
  · have h := aw_neg h c_2
    refine x_iconst (pc := 22) (w := 0) dX10_named_22 ic_0 ?_
    refine x_istore_n (pc := 23) 3 [(3, .int 0), (2, .int p100), (0, .ref (ad 0)), (1, .int p1)] dX10_named_23 rfl (by decide) rfl ?_
    refine x_iload_n (pc := 24) 1 dX10_named_24 rfl rfl ?_
    refine x_aload_n (pc := 25) 0 dX10_named_25 rfl rfl ?_
    refine x_get (pc := 26) dX10_named_26 lk_X10_89 gm_0 rfl rfl ?_
    refine x_if_ne (pc := 29) 37 dX10_named_29 (by decide) (fun c_3 => ?_) (fun c_3 => ?_)
    · have h := aw_neg h c_3
      refine x_bipush (pc := 37) (w := 108) dX10_named_37 bi_108 ?_
      refine x_lv [2, 1, 0] [(0, .ref (ad 0)), (2, .int p100), (3, .int 0)] rfl ?_
      exact tm_named_J39 d hd  p100 0 108 p1 _ _ _ h
    · have h := aw_pos h c_3
      refine x_bipush (pc := 32) (w := 107) dX10_named_32 bi_107 ?_
      refine x_goto (pc := 34) 39 dX10_named_34 (by decide) ?_
      refine x_lv [2, 1, 0] [(0, .ref (ad 0)), (2, .int p100), (3, .int 0)] rfl ?_
      exact tm_named_J39 d hd  p100 0 107 p1 _ _ _ h
  · have h := aw_pos h c_2
    refine x_iconst (pc := 18) (w := 1) dX10_named_18 ic_1 ?_
    refine x_goto (pc := 19) 23 dX10_named_19 (by decide) ?_
    refine x_istore_n (pc := 23) 3 [(3, .int 1), (2, .int p100), (0, .ref (ad 0)), (1, .int p1)] dX10_named_23 rfl (by decide) rfl ?_
    refine x_iload_n (pc := 24) 1 dX10_named_24 rfl rfl ?_
    refine x_aload_n (pc := 25) 0 dX10_named_25 rfl rfl ?_
    refine x_get (pc := 26) dX10_named_26 lk_X10_89 gm_0 rfl rfl ?_
    refine x_if_ne (pc := 29) 37 dX10_named_29 (by decide) (fun c_4 => ?_) (fun c_4 => ?_)
    · have h := aw_neg h c_4
      refine x_bipush (pc := 37) (w := 108) dX10_named_37 bi_108 ?_
      refine x_lv [2, 1, 0] [(0, .ref (ad 0)), (2, .int p100), (3, .int 1)] rfl ?_
      exact tm_named_J39 d hd  p100 1 108 p1 _ _ _ h
    · have h := aw_pos h c_4
      refine x_bipush (pc := 32) (w := 107) dX10_named_32 bi_107 ?_
      refine x_goto (pc := 34) 39 dX10_named_34 (by decide) ?_
      refine x_lv [2, 1, 0] [(0, .ref (ad 0)), (2, .int p100), (3, .int 1)] rfl ?_
      exact tm_named_J39 d hd  p100 1 107 p1 _ _ _ h
def fm_named (p1 : Int32) (M : aw_M) : Option (Int32 × aw_M) :=
  if p1 = 116 then (
    fm_named_J11  p1 1 M
  ) else (
    fm_named_J11  p1 0 M
  )
set_option maxRecDepth 20000 in
theorem tm_named {l : Launch} {D : va_G} {cy : Nat → ClassId} {ad : Nat → Nat} {A : Nat → Prop} (d : Nat) (hd : 1 ≤ d) (p1 : Int32) (M : aw_M) (r : Int32) (M1 : aw_M) (h : fm_named p1 M = some (r, M1)) : AX l D cy ad A gm_G yX10_named cX10_named 5 (some .int) d [.ref (ad 0), .int p1] M (some (.int r)) M1 := by
  have hd1 : (d - 1) + 1 ≤ d := by omega
  have hm1 : 1 ≤ d := by omega
  have hh_0 : 0 ≤ d - 1 := by omega
  refine AX.of (own := RX10) (by decide +kernel) rfl (Nat.le_of_ble_eq_true rfl) ?_
  unfold fm_named at h
  show AW l D cy ad A gm_G RX10 cX10_named 5 (some .int) d (some (.int r)) M1 0 [(0, .ref (ad 0)), (1, .int p1)] [] M
  refine x_iload_n (pc := 0) 1 dX10_named_0 rfl rfl ?_
  refine x_bipush (pc := 1) (w := 116) dX10_named_1 bi_116 ?_
  refine x_icmp_ne (pc := 3) 10 dX10_named_3 (by decide) (fun c_1 => ?_) (fun c_1 => ?_)
  · have h := aw_neg h c_1
    refine x_iconst (pc := 10) (w := 0) dX10_named_10 ic_0 ?_
    refine x_lv [0, 1] [(0, .ref (ad 0)), (1, .int p1)] rfl ?_
    exact tm_named_J11 d hd  p1 0 _ _ _ h
  · have h := aw_pos h c_1
    refine x_iconst (pc := 6) (w := 1) dX10_named_6 ic_1 ?_
    refine x_goto (pc := 7) 11 dX10_named_7 (by decide) ?_
    refine x_lv [0, 1] [(0, .ref (ad 0)), (1, .int p1)] rfl ?_
    exact tm_named_J11 d hd  p1 1 _ _ _ h
def fm_product_J51 (g_tm_factor : aw_M → Option (Int32 × aw_M)) (K5 : Int32 → aw_M → Option (Int32 × aw_M)) (p1 : Int32) (M : aw_M) : Option (Int32 × aw_M) :=
    aw_bi (fm_byteAt (M 0 8) M) fun r_18 M_19 => (
    aw_bi (g_tm_factor  (aw_u M_19 0 8 ((M_19 0 8) + 1))) fun r_21 M_22 => (
    if r_18 = 42 then (
      K5 (p1 * r_21) M_22
    ) else (
      if r_21 = 0 then (
        K5 0 M_22
      ) else (
        if r_18 = 47 then (
          if r_21 = 0 then none else (
          K5 (p1 / r_21) M_22
          )
        ) else (
          if r_21 = 0 then none else (
          K5 (aw_rem p1 r_21) M_22
          )
        )
      )
    )
    )
    )
set_option maxRecDepth 20000 in
theorem tm_product_J51 {l : Launch} {D : va_G} {cy : Nat → ClassId} {ad : Nat → Nat} {A : Nat → Prop} (d0 : Nat) (g_tm_factor : aw_M → Option (Int32 × aw_M)) (hg_tm_factor : ∀ (d : Nat), d0 + 0 ≤ d → ∀  (M : aw_M) (r : Int32) (M1 : aw_M), g_tm_factor  M = some (r, M1) → AX l D cy ad A gm_G yX10_factor cX10_factor 3 (some .int) d [.ref (ad 0)] M (some (.int r)) M1) (d : Nat) (hd : d0 + 1 ≤ d) (K5 : Int32 → aw_M → Option (Int32 × aw_M)) (hK5 : ∀ (p1 : Int32) (M : aw_M) (r : Int32) (M1 : aw_M), K5  p1 M = some (r, M1) → AW l D cy ad A gm_G RX10 cX10_product 4 (some .int) d (some (.int r)) M1 5 [(0, .ref (ad 0)), (1, .int p1)] [] M) (p1 : Int32) (M : aw_M) (r : Int32) (M1 : aw_M) (h : fm_product_J51 g_tm_factor K5 p1 M = some (r, M1)) : AW l D cy ad A gm_G RX10 cX10_product 4 (some .int) d (some (.int r)) M1 51 [(0, .ref (ad 0)), (1, .int p1)] [] M := by
  have hd1 : (d - 1) + 1 ≤ d := by omega
  have hm1 : 1 ≤ d := by omega
  have hh_0 : 0 ≤ d - 1 := by omega
  have ho_0 : d0 + 0 ≤ d - 1 := by omega
  unfold fm_product_J51 at h
  refine x_aload_n (pc := 51) 0 dX10_product_51 rfl rfl ?_
  refine x_aload_n (pc := 52) 0 dX10_product_52 rfl rfl ?_
  refine x_get (pc := 53) dX10_product_53 lk_X10_96 gm_0 rfl rfl ?_
  obtain ⟨r_18, M_19, e_17, h⟩ := aw_bi_e h
  refine x_callV (pc := 56) (As := [.int (M 0 8)]) (rest := []) (st' := [.int r_18]) (w := (some (.int r_18))) dX10_product_56 cw_X10_99 hd1 gm_0 rfl rfl rfl (Nat.le_of_ble_eq_true rfl) (tm_byteAt (d - 1) hh_0 (M 0 8) _ _ _ e_17) rfl ?_
  refine x_istore_n (pc := 59) 2 [(2, .int r_18), (0, .ref (ad 0)), (1, .int p1)] dX10_product_59 rfl (by decide) rfl ?_
  refine x_aload_n (pc := 60) 0 dX10_product_60 rfl rfl ?_
  refine x_dup (pc := 61) dX10_product_61 rfl ?_
  refine x_get (pc := 62) dX10_product_62 lk_X10_96 gm_0 rfl rfl ?_
  refine x_iconst (pc := 65) (w := 1) dX10_product_65 ic_1 ?_
  refine x_iadd (pc := 66) dX10_product_66 ?_
  refine x_put (pc := 67) (x := ((M_19 0 8) + 1)) dX10_product_67 lk_X10_96 lp_X10_8 gm_0 rfl rfl rfl rfl ?_
  refine x_aload_n (pc := 70) 0 dX10_product_70 rfl rfl ?_
  obtain ⟨r_21, M_22, e_20, h⟩ := aw_bi_e h
  refine x_callV (pc := 71) (As := []) (rest := []) (st' := [.int r_21]) (w := (some (.int r_21))) dX10_product_71 cw_X10_127 hd1 gm_0 rfl rfl rfl (Nat.le_of_ble_eq_true rfl) (hg_tm_factor (d - 1) ho_0  _ _ _ e_20) rfl ?_
  refine x_istore_n (pc := 74) 3 [(3, .int r_21), (2, .int r_18), (0, .ref (ad 0)), (1, .int p1)] dX10_product_74 rfl (by decide) rfl ?_
  refine x_iload_n (pc := 75) 2 dX10_product_75 rfl rfl ?_
  refine x_bipush (pc := 76) (w := 42) dX10_product_76 bi_42 ?_
  refine x_icmp_ne (pc := 78) 87 dX10_product_78 (by decide) (fun c_23 => ?_) (fun c_23 => ?_)
  · have h := aw_neg h c_23
    refine x_iload_n (pc := 87) 3 dX10_product_87 rfl rfl ?_
    refine x_if_ne (pc := 88) 95 dX10_product_88 (by decide) (fun c_24 => ?_) (fun c_24 => ?_)
    · have h := aw_neg h c_24
      refine x_iload_n (pc := 95) 2 dX10_product_95 rfl rfl ?_
      refine x_bipush (pc := 96) (w := 47) dX10_product_96 bi_47 ?_
      refine x_icmp_ne (pc := 98) 107 dX10_product_98 (by decide) (fun c_25 => ?_) (fun c_25 => ?_)
      · have h := aw_neg h c_25
        refine x_iload_n (pc := 107) 1 dX10_product_107 rfl rfl ?_
        refine x_iload_n (pc := 108) 3 dX10_product_108 rfl rfl ?_
        obtain ⟨c_26, h⟩ := aw_ck h
        refine x_irem (pc := 109) dX10_product_109 c_26 ?_
        refine x_istore_n (pc := 110) 1 [(1, .int (aw_rem p1 r_21)), (3, .int r_21), (2, .int r_18), (0, .ref (ad 0))] dX10_product_110 rfl (by decide) rfl ?_
        refine x_goto (pc := 111) 5 dX10_product_111 (by decide) ?_
        refine x_lv [3, 0] [(0, .ref (ad 0)), (1, .int (aw_rem p1 r_21))] rfl ?_
        exact hK5 (aw_rem p1 r_21) _ _ _ h
      · have h := aw_pos h c_25
        refine x_iload_n (pc := 101) 1 dX10_product_101 rfl rfl ?_
        refine x_iload_n (pc := 102) 3 dX10_product_102 rfl rfl ?_
        obtain ⟨c_27, h⟩ := aw_ck h
        refine x_idiv (pc := 103) dX10_product_103 c_27 ?_
        refine x_goto (pc := 104) 110 dX10_product_104 (by decide) ?_
        refine x_istore_n (pc := 110) 1 [(1, .int (p1 / r_21)), (3, .int r_21), (2, .int r_18), (0, .ref (ad 0))] dX10_product_110 rfl (by decide) rfl ?_
        refine x_goto (pc := 111) 5 dX10_product_111 (by decide) ?_
        refine x_lv [3, 0] [(0, .ref (ad 0)), (1, .int (p1 / r_21))] rfl ?_
        exact hK5 (p1 / r_21) _ _ _ h
    · have h := aw_pos h c_24
      refine x_iconst (pc := 91) (w := 0) dX10_product_91 ic_0 ?_
      refine x_goto (pc := 92) 110 dX10_product_92 (by decide) ?_
      refine x_istore_n (pc := 110) 1 [(1, .int 0), (3, .int r_21), (2, .int r_18), (0, .ref (ad 0))] dX10_product_110 rfl (by decide) rfl ?_
      refine x_goto (pc := 111) 5 dX10_product_111 (by decide) ?_
      refine x_lv [3, 0] [(0, .ref (ad 0)), (1, .int 0)] rfl ?_
      exact hK5 0 _ _ _ h
  · have h := aw_pos h c_23
    refine x_iload_n (pc := 81) 1 dX10_product_81 rfl rfl ?_
    refine x_iload_n (pc := 82) 3 dX10_product_82 rfl rfl ?_
    refine x_imul (pc := 83) dX10_product_83 ?_
    refine x_goto (pc := 84) 110 dX10_product_84 (by decide) ?_
    refine x_istore_n (pc := 110) 1 [(1, .int (p1 * r_21)), (3, .int r_21), (2, .int r_18), (0, .ref (ad 0))] dX10_product_110 rfl (by decide) rfl ?_
    refine x_goto (pc := 111) 5 dX10_product_111 (by decide) ?_
    refine x_lv [3, 0] [(0, .ref (ad 0)), (1, .int (p1 * r_21))] rfl ?_
    exact hK5 (p1 * r_21) _ _ _ h
def fm_product_L5 (g_tm_factor : aw_M → Option (Int32 × aw_M)) : Nat → Int32 → aw_M → Option (Int32 × aw_M)
  | 0, _, _ => none
  | n + 1, p1, M =>
    if (M 0 14) = 0 then (
      some (p1, M)
    ) else (
      aw_bi (fm_byteAt (M 0 8) M) fun r_6 M_7 => (
      if r_6 = 42 then (
        fm_product_J51 g_tm_factor (fm_product_L5 g_tm_factor n) p1 M_7
      ) else (
        aw_bi (fm_byteAt (M_7 0 8) M_7) fun r_10 M_11 => (
        if r_10 = 47 then (
          fm_product_J51 g_tm_factor (fm_product_L5 g_tm_factor n) p1 M_11
        ) else (
          aw_bi (fm_byteAt (M_11 0 8) M_11) fun r_14 M_15 => (
          if r_14 = 37 then (
            fm_product_J51 g_tm_factor (fm_product_L5 g_tm_factor n) p1 M_15
          ) else (
            some (p1, M_15)
          )
          )
        )
        )
      )
      )
    )
theorem fm_product_L5_s (g_tm_factor : aw_M → Option (Int32 × aw_M)) (n : Nat) (p1 : Int32) (M : aw_M) : fm_product_L5 g_tm_factor (n + 1) p1 M = (
    if (M 0 14) = 0 then (
      some (p1, M)
    ) else (
      aw_bi (fm_byteAt (M 0 8) M) fun r_6 M_7 => (
      if r_6 = 42 then (
        fm_product_J51 g_tm_factor (fm_product_L5 g_tm_factor n) p1 M_7
      ) else (
        aw_bi (fm_byteAt (M_7 0 8) M_7) fun r_10 M_11 => (
        if r_10 = 47 then (
          fm_product_J51 g_tm_factor (fm_product_L5 g_tm_factor n) p1 M_11
        ) else (
          aw_bi (fm_byteAt (M_11 0 8) M_11) fun r_14 M_15 => (
          if r_14 = 37 then (
            fm_product_J51 g_tm_factor (fm_product_L5 g_tm_factor n) p1 M_15
          ) else (
            some (p1, M_15)
          )
          )
        )
        )
      )
      )
    )
    ) := rfl
set_option maxRecDepth 20000 in
theorem tm_product_L5 {l : Launch} {D : va_G} {cy : Nat → ClassId} {ad : Nat → Nat} {A : Nat → Prop} (d0 : Nat) (g_tm_factor : aw_M → Option (Int32 × aw_M)) (hg_tm_factor : ∀ (d : Nat), d0 + 0 ≤ d → ∀  (M : aw_M) (r : Int32) (M1 : aw_M), g_tm_factor  M = some (r, M1) → AX l D cy ad A gm_G yX10_factor cX10_factor 3 (some .int) d [.ref (ad 0)] M (some (.int r)) M1) (d : Nat) (hd : d0 + 1 ≤ d) : ∀ (n : Nat) (p1 : Int32) (M : aw_M) (r : Int32) (M1 : aw_M), fm_product_L5 g_tm_factor n p1 M = some (r, M1) → AW l D cy ad A gm_G RX10 cX10_product 4 (some .int) d (some (.int r)) M1 5 [(0, .ref (ad 0)), (1, .int p1)] [] M := by
  have hd1 : (d - 1) + 1 ≤ d := by omega
  have hm1 : 1 ≤ d := by omega
  have hh_0 : 0 ≤ d - 1 := by omega
  have ho_0 : d0 + 0 ≤ d - 1 := by omega
  intro n
  induction n with
  | zero => intro p1 M r M1 h; cases h
  | succ n ih =>
    intro p1 M r M1 h
    rw [fm_product_L5_s] at h
    refine x_aload_n (pc := 5) 0 dX10_product_5 rfl rfl ?_
    refine x_get (pc := 6) dX10_product_6 lk_X10_92 gm_0 rfl rfl ?_
    refine x_if_eq (pc := 9) 114 dX10_product_9 (by decide) (fun c_4 => ?_) (fun c_4 => ?_)
    · have h := aw_pos h c_4
      refine x_iload_n (pc := 114) 1 dX10_product_114 rfl rfl ?_
      obtain ⟨rfl, rfl⟩ := aw_so h
      exact x_iret (pc := 115) dX10_product_115
    · have h := aw_neg h c_4
      refine x_aload_n (pc := 12) 0 dX10_product_12 rfl rfl ?_
      refine x_aload_n (pc := 13) 0 dX10_product_13 rfl rfl ?_
      refine x_get (pc := 14) dX10_product_14 lk_X10_96 gm_0 rfl rfl ?_
      obtain ⟨r_6, M_7, e_5, h⟩ := aw_bi_e h
      refine x_callV (pc := 17) (As := [.int (M 0 8)]) (rest := []) (st' := [.int r_6]) (w := (some (.int r_6))) dX10_product_17 cw_X10_99 hd1 gm_0 rfl rfl rfl (Nat.le_of_ble_eq_true rfl) (tm_byteAt (d - 1) hh_0 (M 0 8) _ _ _ e_5) rfl ?_
      refine x_bipush (pc := 20) (w := 42) dX10_product_20 bi_42 ?_
      refine x_icmp_eq (pc := 22) 51 dX10_product_22 (by decide) (fun c_8 => ?_) (fun c_8 => ?_)
      · have h := aw_pos h c_8
        refine x_lv [0, 1] [(0, .ref (ad 0)), (1, .int p1)] rfl ?_
        exact tm_product_J51 d0  g_tm_factor hg_tm_factor d hd _ ih p1 _ _ _ h
      · have h := aw_neg h c_8
        refine x_aload_n (pc := 25) 0 dX10_product_25 rfl rfl ?_
        refine x_aload_n (pc := 26) 0 dX10_product_26 rfl rfl ?_
        refine x_get (pc := 27) dX10_product_27 lk_X10_96 gm_0 rfl rfl ?_
        obtain ⟨r_10, M_11, e_9, h⟩ := aw_bi_e h
        refine x_callV (pc := 30) (As := [.int (M_7 0 8)]) (rest := []) (st' := [.int r_10]) (w := (some (.int r_10))) dX10_product_30 cw_X10_99 hd1 gm_0 rfl rfl rfl (Nat.le_of_ble_eq_true rfl) (tm_byteAt (d - 1) hh_0 (M_7 0 8) _ _ _ e_9) rfl ?_
        refine x_bipush (pc := 33) (w := 47) dX10_product_33 bi_47 ?_
        refine x_icmp_eq (pc := 35) 51 dX10_product_35 (by decide) (fun c_12 => ?_) (fun c_12 => ?_)
        · have h := aw_pos h c_12
          refine x_lv [0, 1] [(0, .ref (ad 0)), (1, .int p1)] rfl ?_
          exact tm_product_J51 d0  g_tm_factor hg_tm_factor d hd _ ih p1 _ _ _ h
        · have h := aw_neg h c_12
          refine x_aload_n (pc := 38) 0 dX10_product_38 rfl rfl ?_
          refine x_aload_n (pc := 39) 0 dX10_product_39 rfl rfl ?_
          refine x_get (pc := 40) dX10_product_40 lk_X10_96 gm_0 rfl rfl ?_
          obtain ⟨r_14, M_15, e_13, h⟩ := aw_bi_e h
          refine x_callV (pc := 43) (As := [.int (M_11 0 8)]) (rest := []) (st' := [.int r_14]) (w := (some (.int r_14))) dX10_product_43 cw_X10_99 hd1 gm_0 rfl rfl rfl (Nat.le_of_ble_eq_true rfl) (tm_byteAt (d - 1) hh_0 (M_11 0 8) _ _ _ e_13) rfl ?_
          refine x_bipush (pc := 46) (w := 37) dX10_product_46 bi_37 ?_
          refine x_icmp_ne (pc := 48) 114 dX10_product_48 (by decide) (fun c_16 => ?_) (fun c_16 => ?_)
          · have h := aw_neg h c_16
            refine x_iload_n (pc := 114) 1 dX10_product_114 rfl rfl ?_
            obtain ⟨rfl, rfl⟩ := aw_so h
            exact x_iret (pc := 115) dX10_product_115
          · have h := aw_pos h c_16
            refine x_lv [0, 1] [(0, .ref (ad 0)), (1, .int p1)] rfl ?_
            exact tm_product_J51 d0  g_tm_factor hg_tm_factor d hd _ ih p1 _ _ _ h
def fm_product (g_tm_factor : aw_M → Option (Int32 × aw_M))  (M : aw_M) : Option (Int32 × aw_M) :=
  aw_bi (g_tm_factor  M) fun r_2 M_3 => (
  fm_product_L5 g_tm_factor  2000 r_2 M_3
  )
set_option maxRecDepth 20000 in
theorem tm_product {l : Launch} {D : va_G} {cy : Nat → ClassId} {ad : Nat → Nat} {A : Nat → Prop} (d0 : Nat) (g_tm_factor : aw_M → Option (Int32 × aw_M)) (hg_tm_factor : ∀ (d : Nat), d0 + 0 ≤ d → ∀  (M : aw_M) (r : Int32) (M1 : aw_M), g_tm_factor  M = some (r, M1) → AX l D cy ad A gm_G yX10_factor cX10_factor 3 (some .int) d [.ref (ad 0)] M (some (.int r)) M1) (d : Nat) (hd : d0 + 1 ≤ d)  (M : aw_M) (r : Int32) (M1 : aw_M) (h : fm_product g_tm_factor  M = some (r, M1)) : AX l D cy ad A gm_G yX10_product cX10_product 4 (some .int) d [.ref (ad 0)] M (some (.int r)) M1 := by
  have hd1 : (d - 1) + 1 ≤ d := by omega
  have hm1 : 1 ≤ d := by omega
  have hh_0 : 0 ≤ d - 1 := by omega
  have ho_0 : d0 + 0 ≤ d - 1 := by omega
  refine AX.of (own := RX10) (by decide +kernel) rfl (Nat.le_of_ble_eq_true rfl) ?_
  unfold fm_product at h
  show AW l D cy ad A gm_G RX10 cX10_product 4 (some .int) d (some (.int r)) M1 0 [(0, .ref (ad 0))] [] M
  refine x_aload_n (pc := 0) 0 dX10_product_0 rfl rfl ?_
  obtain ⟨r_2, M_3, e_1, h⟩ := aw_bi_e h
  refine x_callV (pc := 1) (As := []) (rest := []) (st' := [.int r_2]) (w := (some (.int r_2))) dX10_product_1 cw_X10_127 hd1 gm_0 rfl rfl rfl (Nat.le_of_ble_eq_true rfl) (hg_tm_factor (d - 1) ho_0  _ _ _ e_1) rfl ?_
  refine x_istore_n (pc := 4) 1 [(1, .int r_2), (0, .ref (ad 0))] dX10_product_4 rfl (by decide) rfl ?_
  refine x_lv [1, 0] [(0, .ref (ad 0)), (1, .int r_2)] rfl ?_
  exact tm_product_L5 d0  g_tm_factor hg_tm_factor d hd  2000 r_2 _ _ _ h
