-- voices
theorem Inv.upd3 {n : Nat} {C D : aw_M} (h : Inv n C D) (v : Int32) (hv : Rb v 0 40) : Inv n (aw_u C 56 1 v) (aw_u D 0 23 v) := by
  obtain ⟨h1, ⟨h2, h2'⟩, ⟨h3, h3'⟩, ⟨h4, h4'⟩, h5, h6, h8⟩ := h
  have eD : ∀ k, k ≠ 0 → aw_u D 0 23 v k = D k := fun k hk => aw_u_row hk
  have eC : ∀ k, k ≠ 56 → aw_u C 56 1 v k = C k := fun k hk => aw_u_row hk
  have e0 : ∀ j, j ≠ 23 → aw_u D 0 23 v 0 j = D 0 j := fun j hj => aw_u_j 0 hj
  refine ⟨h1.upd lk_trl v, ⟨?_, ?_⟩, ⟨?_, ?_⟩, ⟨?_, ?_⟩, ?_, ?_, ?_⟩
  · rw [eC 10 (by omega), eD 1 (by omega)]; exact h2
  · rw [eC 11 (by omega), eD 2 (by omega)]; exact h2'
  · rw [eD 1 (by omega)]; exact h3
  · rw [eD 2 (by omega)]; exact h3'
  · intro s hs; rw [eD 6 (by omega), eD 7 (by omega)]; exact h4 s hs
  · rw [aw_u_s]; exact hv
  · unfold Laws
    rw [eC 26 (by omega), eC 27 (by omega), eC 30 (by omega), eC 31 (by omega), eD 1 (by omega)]; exact h5
  · rw [e0 5 (by omega), e0 4 (by omega)]; exact h6
  · intro hk
    rw [e0 4 (by omega)] at hk
    refine ⟨?_, (h8 hk).2.cg (fun o ho => eC o (by omega)) (fun k _ => by rw [eD 2 (by omega)])⟩
    unfold LawsK
    rw [eC 28 (by omega), eC 29 (by omega), eC 32 (by omega), eC 33 (by omega), eD 2 (by omega)]; exact (h8 hk).1
def VR (n k : Nat) (nn mm : Int32) (C D : aw_M) : Prop := Inv n C D ∧ (C 56 2 = nI k ∧ C 56 3 = mm ∧ C 56 4 = nn) ∧ D 0 24 = nI k ∧ D 0 25 = nn ∧ D 0 26 = mm
theorem note_b {n k : Nat} {nn mm : Int32} {C D : aw_M} (h : VR n k nn mm C D) (b : Int32) : ∃ C' D', fc_Ch_note b C = some C' ∧ fm_ran b D = some D' ∧ VR n k nn mm C' D' := by
  obtain ⟨hI, ⟨c2, c3, c4⟩, d24, d25, d26⟩ := h
  have E : C 56 1 = D 0 23 := hI.1 _ _ _ _ lk_trl
  have R : Rb (D 0 23) 0 40 := hI.2.2.2.1.2
  obtain ⟨t, ht, et⟩ := nat_of (n := 40) (by omega) R.1 R.2
  unfold fc_Ch_note fm_ran
  rw [E, et]
  by_cases c : t = 40
  · subst c
    rw [if_pos (by decide), if_pos (by decide)]
    exact ⟨C, D, rfl, rfl, hI, ⟨c2, c3, c4⟩, d24, d25, d26⟩
  · have n40 : ¬ (40 : Int32) ≤ nI t := nI_ge (b := 40) (by omega) (by omega)
    have nin : ¬ aw_in (nI t) 40 := nI_in (by omega) (by omega)
    rw [if_neg n40, if_neg n40, if_neg nin, if_neg nin, nI_clamp (by omega)]
    have I2 := hI.upd2 (lk_tr (j := t) (by omega)) (by omega) b (by omega) (by omega)
    have x1 : aw_u C 57 t b 56 1 = nI t := by rw [aw_u_o _ (by decide), E, et]
    have x2 : aw_u D 11 t b 0 23 = nI t := by rw [aw_u_o _ (by decide), et]
    have I3 := I2.upd3 (nI (t + 1)) ⟨by rw [nI_toInt (by omega)]; omega, by rw [nI_toInt (by omega)]; omega⟩
    rw [x1, x2, nI_1]
    refine ⟨_, _, rfl, rfl, I3, ⟨?_, ?_, ?_⟩, ?_, ?_, ?_⟩
    · rw [aw_u_j 56 (by decide), aw_u_o _ (by decide)]; exact c2
    · rw [aw_u_j 56 (by decide), aw_u_o _ (by decide)]; exact c3
    · rw [aw_u_j 56 (by decide), aw_u_o _ (by decide)]; exact c4
    · rw [aw_u_j 0 (by decide), aw_u_o _ (by decide)]; exact d24
    · rw [aw_u_j 0 (by decide), aw_u_o _ (by decide)]; exact d25
    · rw [aw_u_j 0 (by decide), aw_u_o _ (by decide)]; exact d26
def Sq (n k : Nat) (nn mm : Int32) (f g : aw_M → Option (Int32 × aw_M)) : Prop := ∀ C D, VR n k nn mm C D → ∃ r C' D', f C = some (r, C') ∧ g D = some (r, D') ∧ VR n k nn mm C' D'
theorem sk_eq (f : Nat) (p p' a x d : Int32) (M : aw_M) (h : fc_Ch_bodyFrom p a M = fc_Ch_bodyFrom p' a M) : FX_fc_Ch_speak (f + 1) p a x d M = FX_fc_Ch_speak (f + 1) p' a x d M := by
  show fc_Ch_speak (FX_fc_Ch_speak f) p a x d M = fc_Ch_speak (FX_fc_Ch_speak f) p' a x d M
  unfold fc_Ch_speak
  rw [h]
/-- one BODY at the class: what stands behind its note -/
theorem sk_b (f : Nat) (p a x : Int32) (d : Nat) (hd : d < 40) (b : Int32) (M M' : aw_M) (hb : fc_Ch_bodyFrom p a M = some (b, M)) (hn : fc_Ch_note b M = some M') : FX_fc_Ch_speak (f + 1) p a x (nI d) M = (
    if b = 10 then some ((x + (M' 56 4)), M') else
    if b = 11 then aw_bi (FX_fc_Ch_speak f (M' 56 2) 0 x (nI (d + 1)) M') fun r_10 M_11 => some ((r_10 * 2), M_11) else
    if b = 12 then some ((x - (M' 56 3)), M') else
    if b = 13 then aw_bi (FX_fc_Ch_speak f (M' 56 2) 1 x (nI (d + 1)) M') fun r_15 M_16 => aw_bi (FX_fc_Ch_speak f (M_16 56 2) 2 x (nI (d + 1)) M_16) fun r_18 M_19 => some ((r_15 ^^^ r_18), M_19) else
    if b = 20 then aw_bi (FX_fc_Ch_speak f 0 0 x (nI (d + 1)) M') fun r_22 M_23 => some ((r_22 * 3), M_23) else
    if b = 30 then aw_bi (FX_fc_Ch_speak f 0 1 x (nI (d + 1)) M') fun r_26 M_27 => aw_bi (FX_fc_Ch_speak f (M_27 56 2) 2 1 (nI (d + 1)) M_27) fun r_29 M_30 => some ((r_26 - r_29), M_30) else
    if b = 40 then aw_bi (FX_fc_Ch_speak f 0 2 x (nI (d + 1)) M') fun r_33 M_34 => some ((-r_33), M_34) else
    if b = 50 then aw_bi (FX_fc_Ch_speak f 1 3 x (nI (d + 1)) M') fun r_37 M_38 => aw_bi (FX_fc_Ch_speak f (M_38 56 2) 0 2 (nI (d + 1)) M_38) fun r_40 M_41 => some ((r_37 - r_40), M_41) else
    if b = 60 then FX_fc_Ch_speak f 2 1 (x + 1) (nI (d + 1)) M' else
    if b = 70 then aw_bi (FX_fc_Ch_speak f 3 2 x (nI (d + 1)) M') fun r_45 M_46 => some ((r_45 ^^^ (M_46 56 4)), M_46) else
    if b = 71 then aw_bi (FX_fc_Ch_speak f (M' 56 2) 1 x (nI (d + 1)) M') fun r_49 M_50 => aw_bi (FX_fc_Ch_speak f 3 3 x (nI (d + 1)) M_50) fun r_52 M_53 => some ((r_49 - r_52), M_53) else
    some (0, M')) := by
  show fc_Ch_speak (FX_fc_Ch_speak f) p a x (nI d) M = _
  unfold fc_Ch_speak
  rw [if_pos (show nI d < 40 from nI_lt (b := 40) (by omega) (by omega)), hb, bi_n, hn, bv_n, nI_1]
-- threads
theorem v_t0 {n k : Nat} {nn mm : Int32} (f g d : Nat) (x : Int32) (hd : d < 40) : Sq n k nn mm (FX_fc_Ch_speak (f + 1) 0 0 x (nI d)) (FX_fm_threadsIn (g + 1) 0 x) := by
  intro C D h
  obtain ⟨C', D', e1, e2, h'⟩ := note_b h 10
  refine ⟨x + nn, C', D', ?_, ?_, h'⟩
  · rw [sk_b f 0 0 x d hd 10 C C' rfl e1, if_pos rfl, h'.2.1.2.2]
  · show (aw_bv (fm_ran 10 D) fun M_12 => some ((x + (M_12 0 25)), M_12)) = _
    rw [e2, bv_n, h'.2.2.2.1]
theorem v_t1 {n k : Nat} {nn mm : Int32} (f g d : Nat) (x : Int32) (hd : d < 39) : Sq n k nn mm (FX_fc_Ch_speak (f + 2) 1 0 x (nI d)) (FX_fm_threadsIn (g + 2) 1 x) := by
  intro C D h
  obtain ⟨C', D', e1, e2, h'⟩ := note_b h 20
  obtain ⟨r, C2, D2, q1, q2, h2⟩ := v_t0 f g (d + 1) x (by omega) C' D' h'
  refine ⟨r * 3, C2, D2, ?_, ?_, h2⟩
  · rw [sk_b (f + 1) 1 0 x d (by omega) 20 C C' rfl e1]
    show (aw_bi (FX_fc_Ch_speak (f + 1) 0 0 x (nI (d + 1)) C') fun r_22 M_23 => some ((r_22 * 3), M_23)) = _
    rw [q1, bi_n]
  · show (aw_bv (fm_ran 20 D) fun M_7 => aw_bi (FX_fm_threadsIn (g + 1) 0 x M_7) fun r_9 M_10 => some ((r_9 * 3), M_10)) = _
    rw [e2, bv_n, q2, bi_n]
theorem v_t {n k : Nat} {nn mm : Int32} (f d j : Nat) (x : Int32) (hd : d < 39) (hj : j ≤ 6) : Sq n k nn mm (FX_fc_Ch_speak (f + 2) (nI j) 0 x (nI d)) (FX_fm_threadsIn 4 (nI j) x) := by
  intro C D h
  rcases k7 hj with rfl | rfl | rfl | rfl | rfl | rfl | rfl
  · exact v_t0 (f + 1) 3 d x (by omega) C D h
  · exact v_t1 f 2 d x hd C D h
  · obtain ⟨r, C2, D2, q1, q2, h2⟩ := v_t0 (f + 1) 2 d x (by omega) C D h
    exact ⟨r, C2, D2, (sk_eq (f + 1) _ 0 0 x _ C rfl).trans q1, q2, h2⟩
  · obtain ⟨r, C2, D2, q1, q2, h2⟩ := v_t0 (f + 1) 2 d x (by omega) C D h
    exact ⟨r, C2, D2, (sk_eq (f + 1) _ 0 0 x _ C rfl).trans q1, q2, h2⟩
  · obtain ⟨r, C2, D2, q1, q2, h2⟩ := v_t1 f 1 d x hd C D h
    exact ⟨r, C2, D2, (sk_eq (f + 1) _ 1 0 x _ C rfl).trans q1, q2, h2⟩
  · obtain ⟨r, C2, D2, q1, q2, h2⟩ := v_t0 (f + 1) 1 d x (by omega) C D h
    exact ⟨r, C2, D2, (sk_eq (f + 1) _ 0 0 x _ C rfl).trans q1, q2, h2⟩
  · obtain ⟨r, C2, D2, q1, q2, h2⟩ := v_t0 (f + 1) 1 d x (by omega) C D h
    exact ⟨r, C2, D2, (sk_eq (f + 1) _ 0 0 x _ C rfl).trans q1, q2, h2⟩
-- shows
theorem v_h0 {n k : Nat} {nn mm : Int32} (f g d : Nat) (x : Int32) (hd : d < 40) : Sq n k nn mm (FX_fc_Ch_speak (f + 1) 0 2 x (nI d)) (FX_fm_showsIn (g + 1) 0 x) := by
  intro C D h
  obtain ⟨C', D', e1, e2, h'⟩ := note_b h 12
  refine ⟨x - mm, C', D', ?_, ?_, h'⟩
  · rw [sk_b f 0 2 x d hd 12 C C' rfl e1]
    show some (x - C' 56 3, C') = _
    rw [h'.2.1.2.1]
  · show (aw_bv (fm_ran 12 D) fun M_12 => some ((x - (M_12 0 26)), M_12)) = _
    rw [e2, bv_n, h'.2.2.2.2]
theorem v_h3 {n k : Nat} {nn mm : Int32} (f g d : Nat) (x : Int32) (hd : d < 39) : Sq n k nn mm (FX_fc_Ch_speak (f + 2) 3 2 x (nI d)) (FX_fm_showsIn (g + 2) 3 x) := by
  intro C D h
  obtain ⟨C', D', e1, e2, h'⟩ := note_b h 40
  obtain ⟨r, C2, D2, q1, q2, h2⟩ := v_h0 f g (d + 1) x (by omega) C' D' h'
  refine ⟨-r, C2, D2, ?_, ?_, h2⟩
  · rw [sk_b (f + 1) 3 2 x d (by omega) 40 C C' rfl e1]
    show (aw_bi (FX_fc_Ch_speak (f + 1) 0 2 x (nI (d + 1)) C') fun r_22 M_23 => some ((-r_22), M_23)) = _
    rw [q1, bi_n]
  · show (aw_bv (fm_ran 40 D) fun M_7 => aw_bi (FX_fm_showsIn (g + 1) 0 x M_7) fun r_9 M_10 => some ((-r_9), M_10)) = _
    rw [e2, bv_n, q2, bi_n]
theorem v_h6 {n k : Nat} {nn mm : Int32} (f g d : Nat) (x : Int32) (hd : d < 38) : Sq n k nn mm (FX_fc_Ch_speak (f + 3) 6 2 x (nI d)) (FX_fm_showsIn (g + 3) 6 x) := by
  intro C D h
  obtain ⟨C', D', e1, e2, h'⟩ := note_b h 70
  obtain ⟨r, C2, D2, q1, q2, h2⟩ := v_h3 f g (d + 1) x (by omega) C' D' h'
  refine ⟨r ^^^ nn, C2, D2, ?_, ?_, h2⟩
  · rw [sk_b (f + 2) 6 2 x d (by omega) 70 C C' rfl e1]
    show (aw_bi (FX_fc_Ch_speak (f + 2) 3 2 x (nI (d + 1)) C') fun r_45 M_46 => some ((r_45 ^^^ (M_46 56 4)), M_46)) = _
    rw [q1, bi_n, h2.2.1.2.2]
  · show (aw_bv (fm_ran 70 D) fun M_7 => aw_bi (FX_fm_showsIn (g + 2) 3 x M_7) fun r_10 M_11 => some ((r_10 ^^^ (M_11 0 25)), M_11)) = _
    rw [e2, bv_n, q2, bi_n, h2.2.2.2.1]
theorem v_h {n k : Nat} {nn mm : Int32} (f d j : Nat) (x : Int32) (hd : d < 38) (hj : j ≤ 6) : Sq n k nn mm (FX_fc_Ch_speak (f + 3) (nI j) 2 x (nI d)) (FX_fm_showsIn 4 (nI j) x) := by
  intro C D h
  rcases k7 hj with rfl | rfl | rfl | rfl | rfl | rfl | rfl
  · exact v_h0 (f + 2) 3 d x (by omega) C D h
  · obtain ⟨r, C2, D2, q1, q2, h2⟩ := v_h0 (f + 2) 2 d x (by omega) C D h
    exact ⟨r, C2, D2, (sk_eq (f + 2) _ 0 2 x _ C rfl).trans q1, q2, h2⟩
  · obtain ⟨r, C2, D2, q1, q2, h2⟩ := v_h0 (f + 2) 2 d x (by omega) C D h
    exact ⟨r, C2, D2, (sk_eq (f + 2) _ 0 2 x _ C rfl).trans q1, q2, h2⟩
  · exact v_h3 (f + 1) 2 d x (by omega) C D h
  · obtain ⟨r, C2, D2, q1, q2, h2⟩ := v_h0 (f + 2) 1 d x (by omega) C D h
    exact ⟨r, C2, D2, (sk_eq (f + 2) _ 0 2 x _ C rfl).trans q1, q2, h2⟩
  · obtain ⟨r, C2, D2, q1, q2, h2⟩ := v_h0 (f + 2) 1 d x (by omega) C D h
    exact ⟨r, C2, D2, (sk_eq (f + 2) _ 0 2 x _ C rfl).trans q1, q2, h2⟩
  · exact v_h6 f 1 d x hd C D h
-- sews
theorem v_s0 {n k : Nat} {nn mm : Int32} (hk : k ≤ 6) (f g d : Nat) (x : Int32) (hd : d < 38) : Sq n k nn mm (FX_fc_Ch_speak (f + 3) 0 1 x (nI d)) (FX_fm_sewsIn (g + 1) 0 x) := by
  intro C D h
  obtain ⟨C', D', e1, e2, h'⟩ := note_b h 11
  obtain ⟨r, C2, D2, q1, q2, h2⟩ := v_t f (d + 1) k x (by omega) hk C' D' h'
  refine ⟨r * 2, C2, D2, ?_, ?_, h2⟩
  · rw [sk_b (f + 2) 0 1 x d (by omega) 11 C C' rfl e1]
    show (aw_bi (FX_fc_Ch_speak (f + 2) (C' 56 2) 0 x (nI (d + 1)) C') fun r_10 M_11 => some ((r_10 * 2), M_11)) = _
    rw [h'.2.1.1, q1, bi_n]
  · show (aw_bv (fm_ran 11 D) fun M_18 => aw_bi (FX_fm_threadsIn 4 (M_18 0 24) x M_18) fun r_20 M_21 => some ((r_20 * 2), M_21)) = _
    rw [e2, bv_n, h'.2.2.1, q2, bi_n]
theorem v_s2 {n k : Nat} {nn mm : Int32} (hk : k ≤ 6) (f g d : Nat) (x : Int32) (hd : d < 37) : Sq n k nn mm (FX_fc_Ch_speak (f + 4) 2 1 x (nI d)) (FX_fm_sewsIn (g + 2) 2 x) := by
  intro C D h
  obtain ⟨C', D', e1, e2, h'⟩ := note_b h 30
  obtain ⟨r, C2, D2, q1, q2, h2⟩ := v_s0 hk f g (d + 1) x (by omega) C' D' h'
  obtain ⟨r3, C3, D3, w1, w2, h3⟩ := v_h f (d + 1) k 1 (by omega) hk C2 D2 h2
  refine ⟨r - r3, C3, D3, ?_, ?_, h3⟩
  · rw [sk_b (f + 3) 2 1 x d (by omega) 30 C C' rfl e1]
    show (aw_bi (FX_fc_Ch_speak (f + 3) 0 1 x (nI (d + 1)) C') fun r_26 M_27 => aw_bi (FX_fc_Ch_speak (f + 3) (M_27 56 2) 2 1 (nI (d + 1)) M_27) fun r_29 M_30 => some ((r_26 - r_29), M_30)) = _
    rw [q1, bi_n, h2.2.1.1, w1, bi_n]
  · show (aw_bv (fm_ran 30 D) fun M_10 => aw_bi (FX_fm_sewsIn (g + 1) 0 x M_10) fun r_12 M_13 => aw_bi (FX_fm_showsIn 4 (M_13 0 24) 1 M_13) fun r_15 M_16 => some ((r_12 - r_15), M_16)) = _
    rw [e2, bv_n, q2, bi_n, h2.2.2.1, w2, bi_n]
theorem v_s5 {n k : Nat} {nn mm : Int32} (hk : k ≤ 6) (f g d : Nat) (x : Int32) (hd : d < 36) : Sq n k nn mm (FX_fc_Ch_speak (f + 5) 5 1 x (nI d)) (FX_fm_sewsIn (g + 3) 5 x) := by
  intro C D h
  obtain ⟨C', D', e1, e2, h'⟩ := note_b h 60
  obtain ⟨r, C2, D2, q1, q2, h2⟩ := v_s2 hk f g (d + 1) (x + 1) (by omega) C' D' h'
  refine ⟨r, C2, D2, ?_, ?_, h2⟩
  · rw [sk_b (f + 4) 5 1 x d (by omega) 60 C C' rfl e1]
    exact q1
  · show (aw_bv (fm_ran 60 D) fun M_10 => FX_fm_sewsIn (g + 2) 2 (x + 1) M_10) = _
    rw [e2, bv_n, q2]
theorem v_s {n k : Nat} {nn mm : Int32} (hk : k ≤ 6) (f d j : Nat) (x : Int32) (hd : d < 36) (hj : j ≤ 6) : Sq n k nn mm (FX_fc_Ch_speak (f + 5) (nI j) 1 x (nI d)) (FX_fm_sewsIn 4 (nI j) x) := by
  intro C D h
  rcases k7 hj with rfl | rfl | rfl | rfl | rfl | rfl | rfl
  · exact v_s0 hk (f + 2) 3 d x (by omega) C D h
  · obtain ⟨r, C2, D2, q1, q2, h2⟩ := v_s0 hk (f + 2) 2 d x (by omega) C D h
    exact ⟨r, C2, D2, (sk_eq (f + 4) _ 0 1 x _ C rfl).trans q1, q2, h2⟩
  · exact v_s2 hk (f + 1) 2 d x (by omega) C D h
  · obtain ⟨r, C2, D2, q1, q2, h2⟩ := v_s0 hk (f + 2) 2 d x (by omega) C D h
    exact ⟨r, C2, D2, (sk_eq (f + 4) _ 0 1 x _ C rfl).trans q1, q2, h2⟩
  · obtain ⟨r, C2, D2, q1, q2, h2⟩ := v_s0 hk (f + 2) 1 d x (by omega) C D h
    exact ⟨r, C2, D2, (sk_eq (f + 4) _ 0 1 x _ C rfl).trans q1, q2, h2⟩
  · exact v_s5 hk f 1 d x hd C D h
  · obtain ⟨r, C2, D2, q1, q2, h2⟩ := v_s0 hk (f + 2) 1 d x (by omega) C D h
    exact ⟨r, C2, D2, (sk_eq (f + 4) _ 0 1 x _ C rfl).trans q1, q2, h2⟩
-- folds
theorem v_f0 {n k : Nat} {nn mm : Int32} (hk : k ≤ 6) (f g d : Nat) (x : Int32) (hd : d < 35) : Sq n k nn mm (FX_fc_Ch_speak (f + 6) 0 3 x (nI d)) (FX_fm_foldsIn (g + 1) 0 x) := by
  intro C D h
  obtain ⟨C', D', e1, e2, h'⟩ := note_b h 13
  obtain ⟨r, C2, D2, q1, q2, h2⟩ := v_s hk f (d + 1) k x (by omega) hk C' D' h'
  obtain ⟨r3, C3, D3, w1, w2, h3⟩ := v_h (f + 2) (d + 1) k x (by omega) hk C2 D2 h2
  refine ⟨r ^^^ r3, C3, D3, ?_, ?_, h3⟩
  · rw [sk_b (f + 5) 0 3 x d (by omega) 13 C C' rfl e1]
    show (aw_bi (FX_fc_Ch_speak (f + 5) (C' 56 2) 1 x (nI (d + 1)) C') fun r_15 M_16 => aw_bi (FX_fc_Ch_speak (f + 5) (M_16 56 2) 2 x (nI (d + 1)) M_16) fun r_18 M_19 => some ((r_15 ^^^ r_18), M_19)) = _
    rw [h'.2.1.1, q1, bi_n, h2.2.1.1, w1, bi_n]
  · show (aw_bv (fm_ran 13 D) fun M_24 => aw_bi (FX_fm_sewsIn 4 (M_24 0 24) x M_24) fun r_26 M_27 => aw_bi (FX_fm_showsIn 4 (M_27 0 24) x M_27) fun r_29 M_30 => some ((r_26 ^^^ r_29), M_30)) = _
    rw [e2, bv_n, h'.2.2.1, q2, bi_n, h2.2.2.1, w2, bi_n]
theorem v_f4 {n k : Nat} {nn mm : Int32} (hk : k ≤ 6) (f g d : Nat) (x : Int32) (hd : d < 34) : Sq n k nn mm (FX_fc_Ch_speak (f + 7) 4 3 x (nI d)) (FX_fm_foldsIn (g + 3) 4 x) := by
  intro C D h
  obtain ⟨C', D', e1, e2, h'⟩ := note_b h 50
  obtain ⟨r, C2, D2, q1, q2, h2⟩ := v_f0 hk f g (d + 1) x (by omega) C' D' h'
  obtain ⟨r3, C3, D3, w1, w2, h3⟩ := v_t (f + 4) (d + 1) k 2 (by omega) hk C2 D2 h2
  refine ⟨r - r3, C3, D3, ?_, ?_, h3⟩
  · rw [sk_b (f + 6) 4 3 x d (by omega) 50 C C' rfl e1]
    show (aw_bi (FX_fc_Ch_speak (f + 6) 1 3 x (nI (d + 1)) C') fun r_37 M_38 => aw_bi (FX_fc_Ch_speak (f + 6) (M_38 56 2) 0 2 (nI (d + 1)) M_38) fun r_40 M_41 => some ((r_37 - r_40), M_41)) = _
    rw [sk_eq (f + 5) 1 0 3 x _ C' rfl, q1, bi_n, h2.2.1.1, w1, bi_n]
  · show (aw_bv (fm_ran 50 D) fun M_16 => aw_bi (FX_fm_foldsIn (g + 1) 0 x M_16) fun r_18 M_19 => aw_bi (FX_fm_threadsIn 4 (M_19 0 24) 2 M_19) fun r_21 M_22 => some ((r_18 - r_21), M_22)) = _
    rw [e2, bv_n, q2, bi_n, h2.2.2.1, w2, bi_n]
theorem v_f6 {n k : Nat} {nn mm : Int32} (hk : k ≤ 6) (f g d : Nat) (x : Int32) (hd : d < 34) : Sq n k nn mm (FX_fc_Ch_speak (f + 7) 6 3 x (nI d)) (FX_fm_foldsIn (g + 3) 6 x) := by
  intro C D h
  obtain ⟨C', D', e1, e2, h'⟩ := note_b h 71
  obtain ⟨r, C2, D2, q1, q2, h2⟩ := v_s hk (f + 1) (d + 1) k x (by omega) hk C' D' h'
  obtain ⟨r3, C3, D3, w1, w2, h3⟩ := v_f0 hk f g (d + 1) x (by omega) C2 D2 h2
  refine ⟨r - r3, C3, D3, ?_, ?_, h3⟩
  · rw [sk_b (f + 6) 6 3 x d (by omega) 71 C C' rfl e1]
    show (aw_bi (FX_fc_Ch_speak (f + 6) (C' 56 2) 1 x (nI (d + 1)) C') fun r_49 M_50 => aw_bi (FX_fc_Ch_speak (f + 6) 3 3 x (nI (d + 1)) M_50) fun r_52 M_53 => some ((r_49 - r_52), M_53)) = _
    rw [h'.2.1.1, q1, bi_n, sk_eq (f + 5) 3 0 3 x _ C2 rfl, w1, bi_n]
  · show (aw_bv (fm_ran 71 D) fun M_8 => aw_bi (FX_fm_sewsIn 4 (M_8 0 24) x M_8) fun r_10 M_11 => aw_bi (FX_fm_foldsIn (g + 1) 0 x M_11) fun r_13 M_14 => some ((r_10 - r_13), M_14)) = _
    rw [e2, bv_n, h'.2.2.1, q2, bi_n, w2, bi_n]
theorem v_f {n k : Nat} {nn mm : Int32} (hk : k ≤ 6) (f d j : Nat) (x : Int32) (hd : d < 34) (hj : j ≤ 6) : Sq n k nn mm (FX_fc_Ch_speak (f + 7) (nI j) 3 x (nI d)) (FX_fm_foldsIn 4 (nI j) x) := by
  intro C D h
  rcases k7 hj with rfl | rfl | rfl | rfl | rfl | rfl | rfl
  · exact v_f0 hk (f + 1) 3 d x (by omega) C D h
  · obtain ⟨r, C2, D2, q1, q2, h2⟩ := v_f0 hk (f + 1) 2 d x (by omega) C D h
    exact ⟨r, C2, D2, (sk_eq (f + 6) _ 0 3 x _ C rfl).trans q1, q2, h2⟩
  · obtain ⟨r, C2, D2, q1, q2, h2⟩ := v_f0 hk (f + 1) 2 d x (by omega) C D h
    exact ⟨r, C2, D2, (sk_eq (f + 6) _ 0 3 x _ C rfl).trans q1, q2, h2⟩
  · obtain ⟨r, C2, D2, q1, q2, h2⟩ := v_f0 hk (f + 1) 2 d x (by omega) C D h
    exact ⟨r, C2, D2, (sk_eq (f + 6) _ 0 3 x _ C rfl).trans q1, q2, h2⟩
  · exact v_f4 hk f 1 d x hd C D h
  · obtain ⟨r, C2, D2, q1, q2, h2⟩ := v_f0 hk (f + 1) 1 d x (by omega) C D h
    exact ⟨r, C2, D2, (sk_eq (f + 6) _ 0 3 x _ C rfl).trans q1, q2, h2⟩
  · exact v_f6 hk f 1 d x hd C D h
theorem eq_voice (a b x : Int32) : op_ok Inv (fc_LB_voice a b x) (fm_voice a b x) := by
  intro n C D hn hI
  rcases (Classical.em (okC a D)).symm with h | h
  · exact go1 hI (sb (hc_c hI a) (sp (if_neg h) rfl)) (sb (ic_m a D) (sp (if_neg h) rfl))
  obtain ⟨i, hi, rfl, -⟩ := hI.ok h
  simp only [fc_LB_voice, fm_voice, hc_c hI, ic_m, if_pos h, bi_n, i10, if_false]
  rcases (Classical.em (0 ≤ b ∧ b ≤ 3)).symm with hb | hb
  · rw [in_n hb, r_noL 3 hb]; exact er1 hI
  rw [in_y hb, r_yesL 3 hb]
  obtain ⟨k, hk, e, e'⟩ := hI.kind hi
  have em : C (14 + i) 1 = D 1 (13 + 5 * i + 1) := hI.1 _ _ _ _ (lk_cl hi (j := 1) (by omega))
  simp only [bi_n, i10, if_false, ni_f hi (show 6 < 2 ^ 31 by omega), nI_clamp (show i < 2 ^ 31 by omega), its_0 hi, its_1 hi, fc_Ch_sing]
  have x1 : ∀ v, (aw_u C 56 2 v) (14 + i) 1 = C (14 + i) 1 := fun v => aw_u_o _ (by omega)
  have x2 : (aw_u D 0 23 0) 1 (13 + 5 * i + 0) = nI k := by rw [aw_u_o _ (by omega)]; exact e
  simp only [x1, x2, e', em]
  have x3 : (aw_u (aw_u (aw_u D 0 23 0) 0 24 (nI k)) 0 25 (nI i)) 1 (13 + 5 * i + 1) = D 1 (13 + 5 * i + 1) := by rw [aw_u_o _ (by omega), aw_u_o _ (by omega), aw_u_o _ (by omega)]
  simp only [x3]
  generalize hmm : D 1 (13 + 5 * i + 1) = mm
  have V : VR n k (nI i) mm (aw_u (aw_u (aw_u (aw_u C 56 2 (nI k)) 56 3 mm) 56 4 (nI i)) 56 1 0) (aw_u (aw_u (aw_u (aw_u D 0 23 0) 0 24 (nI k)) 0 25 (nI i)) 0 26 mm) := by
    have I1 : Inv n (aw_u (aw_u (aw_u C 56 2 (nI k)) 56 3 mm) 56 4 (nI i)) D := hI.same ⟨fun o ho => by rw [aw_u_row (by omega), aw_u_row (by omega), aw_u_row (by omega)], by rw [aw_u_j 56 (by decide), aw_u_j 56 (by decide), aw_u_j 56 (by decide)]⟩ (SD.rf D)
    have I2 := I1.upd3 0 ⟨by decide, by decide⟩
    refine ⟨I2.same (SC.rf _) ⟨fun q _ => ?_, fun q _ => ?_, fun o ho => ?_, fun j hj => ?_⟩, ⟨?_, ?_, ?_⟩, ?_, ?_, ?_⟩
    · rw [aw_u_o _ (by omega), aw_u_o _ (by omega), aw_u_o _ (by omega)]
    · rw [aw_u_o _ (by omega), aw_u_o _ (by omega), aw_u_o _ (by omega)]
    · rw [aw_u_row (by omega), aw_u_row (by omega), aw_u_row (by omega)]
    · rw [aw_u_j 0 (by omega), aw_u_j 0 (by omega), aw_u_j 0 (by omega)]
    · rw [aw_u_j 56 (by decide), aw_u_j 56 (by decide), aw_u_j 56 (by decide), aw_u_s]
    · rw [aw_u_j 56 (by decide), aw_u_j 56 (by decide), aw_u_s]
    · rw [aw_u_j 56 (by decide), aw_u_s]
    · rw [aw_u_j 0 (by decide), aw_u_j 0 (by decide), aw_u_s]
    · rw [aw_u_j 0 (by decide), aw_u_s]
    · rw [aw_u_s]
  rw [V.2.1.1, V.2.2.1]
  generalize aw_u (aw_u (aw_u (aw_u C 56 2 (nI k)) 56 3 mm) 56 4 (nI i)) 56 1 0 = C1 at V ⊢
  generalize aw_u (aw_u (aw_u (aw_u D 0 23 0) 0 24 (nI k)) 0 25 (nI i)) 0 26 mm = D1 at V ⊢
  obtain ⟨j, -, hj, rfl⟩ := rng 0 3 hb
  rcases (show j = 0 ∨ j = 1 ∨ j = 2 ∨ j = 3 by omega) with rfl | rfl | rfl | rfl
  · obtain ⟨r, C2, D2, q1, q2, h2⟩ := v_t 43 0 k x (by omega) hk C1 D1 V
    exact go0e h2.1 q1 q2 rfl
  · obtain ⟨r, C2, D2, q1, q2, h2⟩ := v_s hk 40 0 k x (by omega) hk C1 D1 V
    exact go0e h2.1 q1 q2 rfl
  · obtain ⟨r, C2, D2, q1, q2, h2⟩ := v_h 42 0 k x (by omega) hk C1 D1 V
    exact go0e h2.1 q1 q2 rfl
  · obtain ⟨r, C2, D2, q1, q2, h2⟩ := v_f hk 38 0 k x (by omega) hk C1 D1 V
    exact go0e h2.1 q1 q2 rfl
