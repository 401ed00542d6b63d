theorem knob_l {L : Lw} {n : Nat} {C D : aw_M} (hI : Inv n C D) (l1 : CL L C) (l2 : DL L D) (l3 : LR L) {i k : Nat} (hi : i < 6) (hk : k < 6) (t : Int32) : ∀ (d j f : Nat) (s : Int32) (C' A : aw_M), j + d = 10 → d < f → TC C C' → TB 8 D A → GV L C' i → GV L C' k → (∀ q, q < 6 → q ≠ 1 → C' 5 q = D 1 (7 + q)) → ∃ r C1 D1, fc_LB_knobWas_L87 f t i k s (nI j) C' = some (r, C1) ∧ fm_knobWas_L61 f (nI i) (nI k) t (D 1 8) s (nI j) A = some (r, D1) ∧ Inv n C1 D1 := by
  intro d
  induction d with
  | zero =>
    intro j f s C' A h hf tc tb g g' th
    obtain ⟨f, rfl⟩ : ∃ g, f = g + 1 := ⟨f - 1, by omega⟩
    obtain rfl : j = 10 := by omega
    rw [fc_LB_knobWas_L87_s, fm_knobWas_L61_s, if_pos (by decide), if_pos (by decide)]
    exact ⟨s, C', _, rfl, rfl, hI.same tc.sc tb.back⟩
  | succ d ih =>
    intro j f s C' A h hf tc tb g g' th
    obtain ⟨f, rfl⟩ : ∃ g, f = g + 1 := ⟨f - 1, by omega⟩
    have j9 : ¬ (9 : Int32) < nI j := nI_nlt (a := 9) (by omega) (by omega)
    obtain ⟨C2, A2, w1, w2, w3, w4, w5⟩ := TB.both hI l1 l2 l3 tc tb (x := 1) rfl (Or.inl rfl) hi g th (nI j)
    have gk2 : GV L C2 k := w4 k hk (g'.u hk (by decide))
    have gi2 : GV L C2 i := w4 i hi (g.u hi (by decide))
    have tc2 : TC C C2 := (tc.tr TC.u).tr w3.t
    have tb2 : TB 8 D A2 := (tb.u _).j w5
    have th2 : ∀ q, q < 6 → q ≠ 1 → C2 5 q = D 1 (7 + q) := fun q hq h1 => by rw [w3 5 (by omega), aw_u_j 5 h1]; exact th q hq h1
    rw [fc_LB_knobWas_L87_s, fm_knobWas_L61_s]
    simp only [if_neg j9, w1, w2, bi_n, nI_1, Int32.or_zero]
    by_cases c : mS L (aw_u A 1 8 (nI j)) i = t / 10
    · rw [if_pos c, if_pos c]
      obtain ⟨p, hp, ep, -⟩ := hI.lint
      obtain ⟨C3, A3, v1, v2, v3, v4, v5⟩ := both_w hI l1 l2 l3 tc2 (A := A2) (fun q hq hm => tb2.2.2 q hq (fun e => hm (by unfold mv; omega))) hk gk2 (fun q hq => by
        rw [w3 5 (by omega), w5.r1]
        by_cases c1 : q = 1
        · subst c1; rw [aw_u_s, aw_u_s]
        · rw [aw_u_j 5 c1, aw_u_j 1 (by omega), th q hq c1, tb.2.2 _ (by omega) (by omega)]) (by rw [tb2.2.2 7 (by omega) (by omega)]; exact hI.th.1) hp (by rw [tb2.2.2 11 (by omega) (by omega)]; exact ep)
      simp only [v1, v2, bi_n]
      have th3 : ∀ q, q < 6 → q ≠ 1 → C3 5 q = D 1 (7 + q) := fun q hq h1 => by rw [v3 5 (by omega)]; exact th2 q hq h1
      by_cases c2 : mS L A2 k = aw_rem t 10
      · rw [if_pos c2, if_pos c2]
        exact ih (j + 1) f _ C3 A3 (by omega) (by omega) (tc2.tr v3.t) (tb2.j v5) (v4 i hi gi2) (v4 k hk gk2) th3
      · rw [if_neg c2, if_neg c2]
        exact ih (j + 1) f _ C3 A3 (by omega) (by omega) (tc2.tr v3.t) (tb2.j v5) (v4 i hi gi2) (v4 k hk gk2) th3
    · rw [if_neg c, if_neg c]
      exact ih (j + 1) f _ C2 A2 (by omega) (by omega) tc2 tb2 gi2 gk2 th2
theorem TB.rf (b : Nat) (D : aw_M) : TB b D D := ⟨fun _ _ _ => rfl, fun _ _ => rfl, fun _ _ _ => rfl⟩
theorem eq_knobWas (a b t : Int32) : op_ok Inv (fc_LB_knobWas a b t) (fm_knobWas a b t) := by
  intro n C D hn hI
  rcases (Classical.em (okC a D)).symm with h | h
  · exact go1 hI (sb (hc_c hI a) (sp (if_neg h) rfl)) (sb (ic_m a D) (sp (if_neg h) rfl))
  rcases (Classical.em (okC b D)).symm with h' | h'
  · simp only [fc_LB_knobWas, fm_knobWas, hc_c hI, ic_m, if_pos h, if_neg h', bi_n, i10, i00, if_true, if_false]; exact er1 hI
  simp only [fc_LB_knobWas, fm_knobWas, hc_c hI, ic_m, if_pos h, if_pos h', bi_n, i10, if_false]
  by_cases hab : a = b
  · simp only [if_pos hab]; exact er1 hI
  simp only [if_neg hab]
  obtain ⟨i, hi, rfl, -⟩ := hI.ok h
  obtain ⟨k, hk, rfl, -⟩ := hI.ok h'
  have hik : i ≠ k := fun q => hab (by rw [q])
  by_cases t0 : t < 0
  · rw [if_pos t0, in_n (fun q => by have := q.1; rw [lt_i] at t0; rw [le_i] at this; omega)]; exact er1 hI
  rw [if_neg t0]
  obtain ⟨T, hT, rfl⟩ := nI_of t0
  have d10 : nI T / 10 = nI (T / 10) := div_n (b := 10) hT (by omega)
  have m10 : aw_rem (nI T) 10 = nI (T % 10) := rem_n (b := 10) hT (by omega)
  by_cases t44 : T ≤ 44
  case neg =>
    rw [in_n (fun q => by have := q.2; rw [show (44 : Int32) = nI 44 from rfl, nI_leI hT (by omega)] at this; omega), d10, m10]
    by_cases c : 50 ≤ T
    · rw [if_pos (show (5 : Int32) ≤ nI (T / 10) from nI_le (a := 5) (by omega) (by omega))]; exact er1 hI
    · rw [if_neg (show ¬ (5 : Int32) ≤ nI (T / 10) from nI_ge (b := 5) (by omega) (by omega)), if_neg (show ¬ nI (T % 10) < 5 from nI_nlt (b := 5) (by omega) (by omega))]; exact er1 hI
  rw [in_y (⟨nI_pos' hT, nI_le (b := 44) t44 (by omega)⟩ : (0 : Int32) ≤ nI T ∧ nI T ≤ 44), if_neg (show ¬ (5 : Int32) ≤ nI T / 10 by rw [d10]; exact nI_ge (b := 5) (by omega) (by omega))]
  by_cases c : T % 10 ≤ 4
  case neg =>
    simp only [bi_n, i10, if_false, if_neg (show ¬ aw_rem (nI T) 10 < 5 by rw [m10]; exact nI_nlt (b := 5) (by omega) (by omega)), if_neg (show ¬ aw_rem (nI T) 10 ≤ 4 by rw [m10]; exact nI_ge (a := 4) (by omega) (by omega))]
    exact er1 hI
  obtain ⟨L, l1, l2, l3⟩ := laws_L hI.2.2.2.2.1
  obtain ⟨C1, q1, q2, q3, -, I1⟩ := hI.gauge l1 hi
  obtain ⟨C2, q4, q5, q6, q7, I2⟩ := I1.gauge (l1.k q2) hk
  obtain ⟨C3, g1, g2, g3, g4⟩ := I2.think
  have n6 : (6 ≤ i) = False := eq_false (by omega)
  have n6' : (6 ≤ k) = False := eq_false (by omega)
  simp only [bi_n, i10, if_false, if_pos (show aw_rem (nI T) 10 < 5 by rw [m10]; exact nI_lt (b := 5) (by omega) (by omega)), if_pos (show aw_rem (nI T) 10 ≤ 4 by rw [m10]; exact nI_le (b := 4) (by omega) (by omega)), q1, q4, br_n, n6, n6', g1, bv_n]
  obtain ⟨r, Cz, Dz, z1, z2, z3⟩ := knob_l hI l1 l2 l3 hi hk (nI T) 10 0 2000 0 C3 D (by omega) (by omega) ((q2.tr q5).t.tr g2) (TB.rf 8 D) ((q7 i hi hik q3).x g3) (q6.x g3) (fun q hq _ => g4 q hq)
  rw [nI_0] at z1 z2
  exact go0e z3 z1 z2 rfl
-- odds
theorem ten_c {c : Nat} (h : c ≤ 10) (M : aw_M) (f : Nat) : ∃ x, x ≠ 0 ∧ fc_LB_commonOfTen (nI c) M = some (x, M) ∧ fm_divisor_L4 (f + 8) (nI c) 10 M = some (x, M) := by
  rcases (show c = 0 ∨ c = 1 ∨ c = 2 ∨ c = 3 ∨ c = 4 ∨ c = 5 ∨ c = 6 ∨ c = 7 ∨ c = 8 ∨ c = 9 ∨ c = 10 by omega) with rfl | rfl | rfl | rfl | rfl | rfl | rfl | rfl | rfl | rfl | rfl
  · exact ⟨10, by decide, rfl, rfl⟩
  · exact ⟨1, by decide, rfl, rfl⟩
  · exact ⟨2, by decide, rfl, rfl⟩
  · exact ⟨1, by decide, rfl, rfl⟩
  · exact ⟨2, by decide, rfl, rfl⟩
  · exact ⟨5, by decide, rfl, rfl⟩
  · exact ⟨2, by decide, rfl, rfl⟩
  · exact ⟨1, by decide, rfl, rfl⟩
  · exact ⟨2, by decide, rfl, rfl⟩
  · exact ⟨1, by decide, rfl, rfl⟩
  · exact ⟨10, by decide, rfl, rfl⟩
theorem ten_b {c : Nat} (h : c ≤ 10) : ∃ x, x ≠ 0 ∧ (∀ M, fc_LB_commonOfTen (nI c) M = some (x, M)) ∧ ∀ M, fm_divisor (nI c) 10 M = some (x, M) := by
  have X : ∀ M, ∃ x, x ≠ 0 ∧ fc_LB_commonOfTen (nI c) M = some (x, M) ∧ fm_divisor_L4 (1992 + 8) (nI c) 10 M = some (x, M) := fun M => ten_c h M 1992
  have U : ∀ (x y : Int32) (M N : aw_M), fc_LB_commonOfTen (nI c) M = some (x, M) → fc_LB_commonOfTen (nI c) N = some (y, N) → x = y := by
    intro x y M N e1 e2
    unfold fc_LB_commonOfTen at e1 e2
    by_cases a1 : aw_rem (nI c) 10 = 0
    · rw [if_pos a1] at e1 e2; rw [← (aw_so e1).1, ← (aw_so e2).1]
    rw [if_neg a1] at e1 e2
    by_cases a2 : aw_rem (nI c) 5 = 0
    · rw [if_pos a2] at e1 e2; rw [← (aw_so e1).1, ← (aw_so e2).1]
    rw [if_neg a2] at e1 e2
    by_cases a3 : aw_rem (nI c) 2 = 0
    · rw [if_pos a3] at e1 e2; rw [← (aw_so e1).1, ← (aw_so e2).1]
    rw [if_neg a3] at e1 e2
    rw [← (aw_so e1).1, ← (aw_so e2).1]
  obtain ⟨x, hx, e, -⟩ := X (fun _ _ => 0)
  refine ⟨x, hx, fun M => ?_, fun M => ?_⟩
  · obtain ⟨y, -, e', -⟩ := X M
    rw [U x y _ _ e e']; exact e'
  · obtain ⟨y, -, e', e''⟩ := X M
    rw [U x y _ _ e e']; exact e''
theorem odds_l {L : Lw} {n : Nat} {C D : aw_M} (hI : Inv n C D) (l1 : CL L C) (l2 : DL L D) (l3 : LR L) {i : Nat} (hi : i < 6) (t : Int32) : ∀ (d j f c : Nat) (C' A : aw_M), j + d = 10 → c ≤ j → d < f → TC C C' → TB 12 D A → GV L C' i → (∀ q, q < 6 → q ≠ 5 → C' 5 q = D 1 (7 + q)) → ∃ r C1 D1, fc_LB_odds_L47 f t i (nI c) (nI j) C' = some (r, C1) ∧ fm_odds_L38 f (nI i) t (D 1 12) (nI c) (nI j) A = some (r, D1) ∧ Inv n C1 D1 := by
  intro d
  induction d with
  | zero =>
    intro j f c C' A h hc hf tc tb g th
    obtain ⟨f, rfl⟩ : ∃ g, f = g + 1 := ⟨f - 1, by omega⟩
    obtain rfl : j = 10 := by omega
    obtain ⟨x, hx, e1, e2⟩ := ten_b hc
    rw [fc_LB_odds_L47_s, fm_odds_L38_s]
    simp only [if_pos (show (9 : Int32) < nI 10 by decide), e1, e2, bi_n, if_neg hx]
    by_cases c0 : t = 0
    · rw [if_pos c0, if_pos c0]; exact ⟨_, _, _, rfl, rfl, hI.same tc.sc tb.back⟩
    · rw [if_neg c0, if_neg c0]; exact ⟨_, _, _, rfl, rfl, hI.same tc.sc tb.back⟩
  | succ d ih =>
    intro j f c C' A h hc hf tc tb g th
    obtain ⟨f, rfl⟩ : ∃ g, f = g + 1 := ⟨f - 1, by omega⟩
    have j9 : ¬ (9 : Int32) < nI j := nI_nlt (a := 9) (by omega) (by omega)
    obtain ⟨C2, A2, w1, w2, w3, w4, w5⟩ := TB.both hI l1 l2 l3 tc tb (x := 5) rfl (Or.inr rfl) hi g th (nI j)
    have gi2 : GV L C2 i := w4 i hi (g.u hi (by decide))
    have tc2 : TC C C2 := (tc.tr TC.u).tr w3.t
    have tb2 : TB 12 D A2 := (tb.u _).j w5
    have th2 : ∀ q, q < 6 → q ≠ 5 → C2 5 q = D 1 (7 + q) := fun q hq h1 => by rw [w3 5 (by omega), aw_u_j 5 h1]; exact th q hq h1
    rw [fc_LB_odds_L47_s, fm_odds_L38_s]
    simp only [if_neg j9, w1, w2, bi_n, nI_1, Int32.add_zero]
    by_cases c1 : mS L (aw_u A 1 12 (nI j)) i = 0
    · rw [if_pos c1, if_pos c1]
      exact ih (j + 1) f (c + 1) C2 A2 (by omega) (by omega) (by omega) tc2 tb2 gi2 th2
    · rw [if_neg c1, if_neg c1]
      exact ih (j + 1) f c C2 A2 (by omega) (by omega) (by omega) tc2 tb2 gi2 th2
theorem eq_odds (a b : Int32) : op_ok Inv (fc_LB_odds a b) (fm_odds a b) := by
  intro n C D hn hI
  rcases (Classical.em (okC a D)).symm with h | h
  · exact go1 hI (sb (hc_c hI a) (sp (if_neg h) rfl)) (sb (ic_m a D) (sp (if_neg h) rfl))
  simp only [fc_LB_odds, fm_odds, hc_c hI, ic_m, if_pos h, bi_n, i10, if_false, pt_c]
  rcases (Classical.em (0 ≤ b ∧ b ≤ 1)).symm with hb | hb
  · simp only [in_n hb, if_neg hb, bi_n, i00, if_true]; exact er1 hI
  obtain ⟨i, hi, rfl, -⟩ := hI.ok h
  obtain ⟨L, l1, l2, l3⟩ := laws_L hI.2.2.2.2.1
  obtain ⟨C1, q1, q2, q3, -, I1⟩ := hI.gauge l1 hi
  obtain ⟨C3, g1, g2, g3, g4⟩ := I1.think
  have n6 : (6 ≤ i) = False := eq_false (by omega)
  simp only [in_y hb, if_pos hb, bi_n, i10, if_false, q1, br_n, n6, g1, bv_n]
  obtain ⟨r, Cz, Dz, z1, z2, z3⟩ := odds_l hI l1 l2 l3 hi b 10 0 2000 0 C3 D (by omega) (by omega) (by omega) (q2.t.tr g2) (TB.rf 12 D) (q3.x g3) (fun q hq _ => g4 q hq)
  rw [nI_0] at z1 z2
  exact go0e z3 z1 z2 rfl
