theorem spo_nn (s : Int32) : (0 : Int32) ≤ spo s := by
  rw [le_i]; exact (spo_rg s).1
theorem sews_t {L : Lw} {D : aw_M} (hd : DL L D) {i k N : Nat} (hi : i < 6) (hk : k ≤ 6) (e : D 1 (13 + 5 * i + 0) = nI k) (hN : N ≤ 200) : ∀ (d j f p : Nat) (s : Int32) (A : aw_M), j + d = N → d < f → TD D A → A 1 11 = nI p → p ≤ 99 → 0 ≤ s.toInt → s.toInt + d ≤ 1000 → ∃ r A', fm_sews_L5 f (nI i) (nI N) s (nI j) A = some (r, A') ∧ TD D A' ∧ A' 1 11 = nI (min 99 (p + d * lyN k)) ∧ (∀ q, 7 ≤ q → q ≤ 12 → q ≠ 11 → A' 1 q = A 1 q) ∧ 0 ≤ r.toInt ∧ r.toInt ≤ s.toInt + d := by
  intro d
  induction d with
  | zero =>
    intro j f p s A h hf td ep hp h0 h1
    obtain ⟨f, rfl⟩ : ∃ g, f = g + 1 := ⟨f - 1, by omega⟩
    refine ⟨s, A, ?_, td, ?_, fun _ _ _ _ => rfl, h0, by omega⟩
    · rw [fm_sews_L5_s, if_pos (nI_le (by omega) (by omega))]
    · rw [ep, Nat.zero_mul, show min 99 (p + 0) = p by omega]
  | succ d ih =>
    intro j f p s A h hf td ep hp h0 h1
    obtain ⟨f, rfl⟩ : ∃ g, f = g + 1 := ⟨f - 1, by omega⟩
    obtain ⟨A1, e1, t1, p1, m1⟩ := yard_t hd td hi hk e hp ep
    have R := spo_rg (mS L A i)
    have S : (s + spo (mS L A i)).toInt = s.toInt + (spo (mS L A i)).toInt := add_i (by omega) (by omega)
    obtain ⟨r, A2, e2, t2, p2, m2, r0, r1⟩ := ih (j + 1) f (min 99 (p + lyN k)) (s + spo (mS L A i)) A1 (by omega) (by omega) t1 p1 (by omega) (by omega) (by omega)
    refine ⟨r, A2, ?_, t2, ?_, fun q a b c => (m2 q a b c).trans (m1 q a b c), r0, by omega⟩
    · rw [fm_sews_L5_s, if_neg (nI_ge (by omega) (by omega)), e1, aw_bi_s, nI_1, e2]
    · rw [p2, Nat.succ_mul]
      congr 1
      omega
theorem min99 {a b : Nat} (ha : a < 2 ^ 31) (hb : b < 2 ^ 31) (h : a + b < 2 ^ 31) : aw_min 99 (nI a + nI b) = nI (min 99 (a + b)) := by
  rw [nI_add]; exact min_n (a := 99) (by omega) h
theorem eq_after (a b : Int32) : op_ok Inv (fc_LB_after a b) (fm_after a b) := by
  intro n C D hn hI
  rcases (Classical.em (okC a D)).symm with h | h
  · exact go1 hI (sb (hc_c hI a) (sp (if_neg h) rfl)) (sb (ic_m a D) (sp (if_neg h) rfl))
  obtain ⟨i, hi, rfl, -⟩ := hI.ok h
  simp only [fc_LB_after, fm_after, hc_c hI, ic_m, if_pos h, bi_n, i10, if_false]
  rcases (Classical.em (0 ≤ b ∧ b ≤ 200)).symm with hb | hb
  · rw [in_n hb, r_no' hb]; exact er1 hI
  rw [in_y hb, r_yes' hb]
  obtain ⟨N, -, hN, rfl⟩ := rng 0 200 hb
  obtain ⟨L, l1, l2, l3⟩ := laws_L hI.2.2.2.2.1
  obtain ⟨k, hk, e, e'⟩ := hI.kind hi
  obtain ⟨p, hp, ep, ep'⟩ := hI.lint
  have y2 := lyN_2 k
  have hNy : N * lyN k ≤ 200 * 2 := Nat.mul_le_mul hN y2
  -- the reference
  obtain ⟨D0, m0, t0, r0⟩ := keep_m D
  obtain ⟨r, A, f1, f2, f3, f4, f5, f6⟩ := sews_t l2 hi hk e hN N 0 2000 p 0 D0 (by omega) (by omega) t0 (by rw [r0]; exact ep) hp (by decide) (by rw [show (0 : Int32).toInt = 0 by decide]; omega)
  rw [nI_0] at f1
  -- the class
  obtain ⟨C1, g1, g2, g3, g4⟩ := hI.think
  have K1 : C1 (14 + i) 0 = nI k := by rw [g3 _ (by omega)]; exact e'
  have L1 : C1 5 4 = nI p := (g4 4 (by omega)).trans ep
  have tc2 : TC C (aw_u C1 5 4 (nI (min 99 (p + N * lyN k)))) := g2.tr TC.u
  obtain ⟨C3, q1, q2, q3, -⟩ := gauge_c (C := aw_u C1 5 4 (nI (min 99 (p + N * lyN k)))) (l1.t tc2) hi hk (by rw [aw_u_o _ (by omega)]; exact K1)
  have tc3 := tc2.tr q2.t
  obtain ⟨C4, A4, w1, w2, w3, w4, w5⟩ := both_t hI l1 l2 l3 tc3 f2 hi q3 (p := min 99 (p + N * lyN k)) (fun j hj h4 => by rw [q2 5 (by omega), aw_u_j 5 h4, g4 j hj, f4 (7 + j) (by omega) (by omega) (by omega), r0]) (by rw [f4 7 (by omega) (by omega) (by omega), r0]; exact hI.th.1) (by omega) (by rw [q2 5 (by omega), aw_u_s]) f3
  obtain ⟨D5, b1, b2, -⟩ := back_m (f2.j w5)
  have n6 : (6 ≤ i) = False := eq_false (by omega)
  have r0' : (0 : Int32) ≤ r := by rw [le_i]; exact f5
  have sw : fm_sews (nI i) (nI N) D0 = some (r, A) := f1
  have gth : fc_Ma_gather 2 (nI N * nI (lyN k)) C1 = some (aw_u C1 5 4 (nI (min 99 (p + N * lyN k)))) := by
    unfold fc_Ma_gather
    rw [show (3 + 2 : Nat) = 5 from rfl, L1, nI_mul, min99 (by omega) (by omega) (by omega)]
  simp only [g1, bv_n, ni_f hi (show 6 < 2 ^ 31 by omega), if_false, nI_clamp (show i < 2 ^ 31 by omega), ly_c hk K1, bi_n, i10, gth, q1, br_n, n6, w1, m0, sw, if_pos r0', w2, b1]
  exact go0e (hI.same (tc3.tr w3.t).sc b2) rfl rfl rfl
theorem until_l {L : Lw} {n : Nat} {C D : aw_M} (hI : Inv n C D) (l1 : CL L C) (l2 : DL L D) (l3 : LR L) {i k : Nat} (hi : i < 6) (hk : k ≤ 6) (e : D 1 (13 + 5 * i + 0) = nI k) (w : Int32) : ∀ (d j f f2 p : Nat) (C' A : aw_M), j + d = 201 → d < f → d < f2 → TC C C' → TD D A → GV L C' i → Th C' A → (A 1 7 = 0 ∨ A 1 7 = 1) → p ≤ 99 → C' 5 4 = nI p → A 1 11 = nI (min 99 (p + lyN k)) → ∃ r C1 D1, fc_LB_until_L60 f i (nI (lyN k)) w (nI j) C' = some (r, C1) ∧ fm_until_L35 f2 (nI i) w (nI j) A = some (r, D1) ∧ Inv (n + 1) C1 D1 := by
  have y2 := lyN_2 k
  intro d
  induction d with
  | zero =>
    intro j f f2 p C' A h hf hf2 tc td g th t0 hp ec ea
    obtain ⟨f, rfl⟩ : ∃ g, f = g + 1 := ⟨f - 1, by omega⟩
    obtain ⟨f2, rfl⟩ : ∃ g, f2 = g + 1 := ⟨f2 - 1, by omega⟩
    obtain ⟨D5, b1, b2, -⟩ := back_m td
    obtain rfl : j = 201 := by omega
    rw [fc_LB_until_L60_s, fm_until_L35_s, if_pos (by decide), if_pos (by decide), b1, aw_bv_s, if_neg (by decide), bi_id]
    exact er2 (hI.same tc.sc b2)
  | succ d ih =>
    intro j f f2 p C' A h hf hf2 tc td g th t0 hp ec ea
    obtain ⟨f, rfl⟩ : ∃ g, f = g + 1 := ⟨f - 1, by omega⟩
    obtain ⟨f2, rfl⟩ : ∃ g, f2 = g + 1 := ⟨f2 - 1, by omega⟩
    have gth : fc_Ma_gather 2 (nI (lyN k)) C' = some (aw_u C' 5 4 (nI (min 99 (p + lyN k)))) := by
      unfold fc_Ma_gather
      rw [show (3 + 2 : Nat) = 5 from rfl, ec, min99 (by omega) (by omega) (by omega)]
    have tc2 : TC C (aw_u C' 5 4 (nI (min 99 (p + lyN k)))) := tc.tr TC.u
    obtain ⟨C4, A4, w1, w2, w3, w4, w5⟩ := both_t hI l1 l2 l3 tc2 td hi (p := min 99 (p + lyN k)) (g.u hi (by decide)) (fun q hq h4 => by rw [aw_u_j 5 h4]; exact th q hq h4) t0 (by omega) (by rw [aw_u_s]) ea
    have j200 : ¬ (200 : Int32) < nI j := nI_nlt (a := 200) (by omega) (by omega)
    rw [fc_LB_until_L60_s, fm_until_L35_s]
    simp only [if_neg j200, gth, bv_n, w1, w2, bi_n]
    by_cases c : mS L A i = w
    · obtain ⟨A5, y1, y2', y3, y4⟩ := yard_t l2 (td.j w5) hi hk e (p := min 99 (p + lyN k)) (by omega) (by rw [w5.r1]; exact ea)
      simp only [if_pos c, y1, bi_n, if_pos (spo_nn _), nI_1]
      refine ih (j + 1) f f2 (min 99 (p + lyN k)) C4 A5 (by omega) (by omega) (by omega) (tc2.tr w3.t) y2' (w4 i hi (g.u hi (by decide))) (fun q hq h4 => ?_) ?_ (by omega) (by rw [w3 5 (by omega), aw_u_s]) y3
      · rw [w3 5 (by omega), aw_u_j 5 h4, th q hq h4, y4 (7 + q) (by omega) (by omega) (by omega), w5.r1]
      · rw [y4 7 (by omega) (by omega) (by omega), w5.r1]; exact t0
    · obtain ⟨D5, b1, b2, -⟩ := back_m (td.j w5)
      have j2 : nI j ≤ 200 := nI_le (b := 200) (by omega) (by omega)
      simp only [if_neg c, b1, bv_n, if_pos j2]
      exact go0e (hI.same (tc2.tr w3.t).sc b2) rfl rfl rfl
theorem eq_until (a : Int32) : op_ok Inv (fc_LB_until a) (fm_until a) := by
  intro n C D hn hI
  rcases (Classical.em (okC a D)).symm with h | h
  · exact go1 hI (sb (hc_c hI a) (sp (if_neg h) rfl)) (sb (ic_m a D) (sp (if_neg h) rfl))
  obtain ⟨i, hi, rfl, -⟩ := hI.ok h
  simp only [fc_LB_until, fm_until, hc_c hI, ic_m, if_pos h, bi_n, i10, if_false]
  obtain ⟨L, l1, l2, l3⟩ := laws_L hI.2.2.2.2.1
  obtain ⟨k, hk, e, e'⟩ := hI.kind hi
  obtain ⟨p, hp, ep, ep'⟩ := hI.lint
  obtain ⟨C1, q1, q2, q3, -, I1⟩ := hI.gauge l1 hi
  obtain ⟨C2, g1, g2, g3, g4⟩ := I1.think
  have tc2 := q2.t.tr g2
  have gv2 : GV L C2 i := q3.x g3
  obtain ⟨D0, v1, v2⟩ := shows_m l2 hi
  obtain ⟨D1, m0, t0, r0⟩ := keep_m D0
  have hI' : Inv n C D0 := hI.same (SC.rf C) v2.sd
  have l2' := l2.j v2
  have R : D1 1 = D 1 := r0.trans v2.r1
  obtain ⟨C3, A3, w1, w2, w3, w4, w5⟩ := both_t hI' l1 l2' l3 tc2 t0 hi gv2 (p := p) (fun j hj h4 => by rw [g4 j hj, R]) (by rw [R]; exact hI.th.1) hp ((g4 4 (by omega)).trans ep) (by rw [R]; exact ep)
  have mm : mS L D1 i = mS L D i := by unfold mS; rw [R]
  rw [mm] at w1 w2
  obtain ⟨A4, y1, y2, y3, y4⟩ := yard_t l2' (t0.j w5) hi hk (by rw [v2.r1]; exact e) hp (by rw [w5.r1, R]; exact ep)
  have n6 : (6 ≤ i) = False := eq_false (by omega)
  have K1 : C1 (14 + i) 0 = nI k := by rw [q2 (14 + i) (by omega)]; exact e'
  obtain ⟨r, Cz, Dz, z1, z2, z3⟩ := until_l hI' l1 l2' l3 hi hk (by rw [v2.r1]; exact e) (mS L D i) 200 1 2000 1999 p C3 A4 (by omega) (by omega) (by omega) (tc2.tr w3.t) y2 (w4 i hi gv2) (fun q hq h4 => by rw [w3 5 (by omega), g4 q hq, y4 (7 + q) (by omega) (by omega) (by omega), w5.r1, R]) (by rw [y4 7 (by omega) (by omega) (by omega), w5.r1, R]; exact hI.th.1) hp (by rw [w3 5 (by omega)]; exact (g4 4 (by omega)).trans ep) y3
  simp only [q1, br_n, n6, if_false, ni_f hi (show 6 < 2 ^ 31 by omega), nI_clamp (show i < 2 ^ 31 by omega), ly_c hk K1, bi_n, g1, bv_n, w1, v1, m0]
  refine ⟨r, Cz, Dz, z1, ?_, z3⟩
  rw [show (2000 : Nat) = 1999 + 1 from rfl, fm_until_L35_s]
  simp only [if_neg (show ¬ (200 : Int32) < 0 by decide), w2, bi_n, if_true, y1, if_pos (spo_nn _)]
  exact z2
