theorem eq_row (a b w : Int32) : op_ok Inv (fc_LB_row a b w) (fm_row a b w) := by
  intro N C D hN hI
  obtain ⟨m, hm, e, e'⟩ := hI.many
  unfold fc_LB_row fm_row
  rcases (Classical.em (1 ≤ a ∧ a ≤ 4)).symm with ha | ha
  · refine go1 hI ?_ (sb (in_n ha) rfl)
    by_cases c1 : a < 1
    · rw [if_pos c1]
    · rw [if_neg c1, if_pos]
      by_cases c2 : 4 < a
      · exact c2
      · exfalso; apply ha; rw [lt_i] at c1 c2; rw [le_i, le_i]; omega
  obtain ⟨n, hn1, hn, rfl⟩ := rng 1 4 ha
  rw [in_y ha, bi_n, if_neg (show ¬ (1 : Int32) = 0 by decide), if_neg (show ¬ nI n < 1 from nI_nlt (b := 1) (by omega) (by omega)), if_neg (show ¬ (4 : Int32) < nI n from nI_nlt (a := 4) (by omega) (by omega)), e, e']
  by_cases hnm : m < n
  · rw [if_pos (nI_lt hnm (by omega)), if_pos (nI_lt hnm (by omega))]; exact er1 hI
  rw [if_neg (nI_nlt (by omega) (by omega)), if_neg (nI_nlt (by omega) (by omega))]
  rcases (Classical.em (1 ≤ b ∧ b ≤ 20)).symm with hb | hb
  · refine go1 hI ?_ (sb (in_n hb) rfl)
    by_cases c1 : b < 1
    · rw [if_pos c1]
    · rw [if_neg c1, if_pos]
      by_cases c2 : 20 < b
      · exact c2
      · exfalso; apply hb; rw [lt_i] at c1 c2; rw [le_i, le_i]; omega
  obtain ⟨y, hy1, hy, rfl⟩ := rng 1 20 hb
  rw [in_y hb, bi_n, if_neg (show ¬ (1 : Int32) = 0 by decide), if_neg (show ¬ nI y < 1 from nI_nlt (b := 1) (by omega) (by omega)), if_neg (show ¬ (20 : Int32) < nI y from nI_nlt (a := 20) (by omega) (by omega)), pt_c]
  rcases (Classical.em (0 ≤ w ∧ w ≤ 1)).symm with hw | hw
  · rw [in_n hw, if_neg hw]; exact er1 hI
  rw [in_y hw, if_pos hw, bi_n, bi_n, if_neg (show ¬ (1 : Int32) = 0 by decide), if_neg (show ¬ (1 : Int32) = 0 by decide)]
  obtain ⟨L, l1, l2, l3⟩ := laws_L hI.2.2.2.2.1
  obtain ⟨p0, hp0, ep, -⟩ := hI.lint
  -- the class
  obtain ⟨A, a1, a2, a3, -⟩ := refr_l (L := L) hm m 0 2000 C (by omega) (by omega) l1 e' (fun q hq => by obtain ⟨k, hk, -, e⟩ := hI.kind hq; exact ⟨k, hk, e⟩)
  rw [nI_0] at a1
  have a1' : fc_LB_refreshGauges C = some A := a1
  obtain ⟨B, b1, b2, b3, b4⟩ := (hI.same a2.sc (SD.rf D)).think
  have eB : B 1 5 = nI m := by rw [b3 1 (by decide), a2 1 (by omega)]; exact e'
  have h06 : hl (nI m) 0 6 = nI m := by
    have : ∀ q, q < 7 → hl (nI q) 0 6 = nI q := by decide +kernel
    exact this m (by omega)
  have bg : fc_Ro_begin (nI m) (nI n) (nI y) B = some (aw_u (aw_u (aw_u (aw_u (aw_u B 52 2 (nI m)) 52 3 (nI n)) 52 4 (nI y)) 52 5 1000000) 52 6 0) := by
    unfold fc_Ro_begin
    rw [hl_c, h06, bi_n]
  have X0 : XR L m n y C D (1000000, 0) p0 (aw_u (aw_u (aw_u (aw_u (aw_u B 52 2 (nI m)) 52 3 (nI n)) 52 4 (nI y)) 52 5 1000000) 52 6 0) := by
    have X : ∀ o, o ≠ 52 → (aw_u (aw_u (aw_u (aw_u (aw_u B 52 2 (nI m)) 52 3 (nI n)) 52 4 (nI y)) 52 5 1000000) 52 6 0) o = B o := fun o ho => by
      rw [aw_u_row ho, aw_u_row ho, aw_u_row ho, aw_u_row ho, aw_u_row ho]
    refine ⟨(a2.sc.tr b2.sc).tr ⟨fun o ho => X o (by omega), by rw [X 56 (by omega)]⟩, fun q hq => ?_, fun j hj h4 => by rw [X 5 (by omega)]; exact b4 j hj, by rw [X 5 (by omega)]; exact (b4 4 (by omega)).trans ep, ?_, ?_, ?_, ?_, ?_⟩
    · exact ((a3 q (by omega) hq).x b3).cg (X _ (by omega)) (by rw [X _ (by omega)]) (by rw [X _ (by omega)]) (by rw [X _ (by omega)]) (X _ (by omega))
    · rw [aw_u_j 52 (by decide), aw_u_j 52 (by decide), aw_u_j 52 (by decide), aw_u_j 52 (by decide), aw_u_s]
    · rw [aw_u_j 52 (by decide), aw_u_j 52 (by decide), aw_u_j 52 (by decide), aw_u_s]
    · rw [aw_u_j 52 (by decide), aw_u_j 52 (by decide), aw_u_s]
    · rw [aw_u_j 52 (by decide), aw_u_s]; rfl
    · rw [aw_u_s]; rfl
  obtain ⟨p', C', x1, x2, x3⟩ := ext_c hI l1 l3 hm hn hy hp0 n 7 0 0 (0, 0, p0, 0) (1000000, 0) _ (by omega) (by omega) rfl (Nat.le_refl _) X0
  dsimp only at x2
  rw [nI_0] at x2
  rw [a1', bv_n, b1, bv_n, eB, bg, bv_n, x2, bv_n]
  -- the reference
  obtain ⟨w1, w2⟩ := pw6 hn
  have sd0 : SD D (aw_u D 0 20 (-1)) := ⟨fun k _ => by rw [aw_u_o _ (by decide)], fun k _ => by rw [aw_u_o _ (by decide)], fun o ho => by rw [aw_u_row (by omega)], fun j hj => by rw [aw_u_j 0 (by omega)]⟩
  obtain ⟨D', z1, z2, z3⟩ := rows_l (L := L) hI l2 hm e hn1 hn hy hp0 ep w (6 ^ n) 0 2000 (1000000, 0) (aw_u D 0 20 (-1)) (by omega) (by omega) sd0 (Or.inl ⟨rfl, aw_u_s _ _ _ _⟩)
  rw [nI_0] at z1
  have hr : (if nI n = 1 then fm_row_L89 2000 (nI n) (nI y) w 6 0 (aw_u D 0 20 (-1)) else if nI n = 2 then fm_row_L89 2000 (nI n) (nI y) w 36 0 (aw_u D 0 20 (-1)) else if nI n = 3 then fm_row_L89 2000 (nI n) (nI y) w 216 0 (aw_u D 0 20 (-1)) else fm_row_L89 2000 (nI n) (nI y) w 1296 0 (aw_u D 0 20 (-1))) = fm_row_L89 2000 (nI n) (nI y) w (nI (6 ^ n)) 0 (aw_u D 0 20 (-1)) := by
    rcases (show n = 1 ∨ n = 2 ∨ n = 3 ∨ n = 4 by omega) with rfl | rfl | rfl | rfl
    · rw [if_pos (show nI 1 = 1 by decide), show nI (6 ^ 1) = 6 by decide]
    · rw [if_neg (show ¬ nI 2 = 1 by decide), if_pos (show nI 2 = 2 by decide), show nI (6 ^ 2) = 36 by decide]
    · rw [if_neg (show ¬ nI 3 = 1 by decide), if_neg (show ¬ nI 3 = 2 by decide), if_pos (show nI 3 = 3 by decide), show nI (6 ^ 3) = 216 by decide]
    · rw [if_neg (show ¬ nI 4 = 1 by decide), if_neg (show ¬ nI 4 = 2 by decide), if_neg (show ¬ nI 4 = 3 by decide), show nI (6 ^ 4) = 1296 by decide]
  rw [hr, z1]
  have eb : it (fun c b => up (ev L D m y p0 n c) b) (6 ^ n) 0 (1000000, 0) = ex L D m y p0 n 0 0 (1000000, 0) := by
    have := blk (L := L) (D := D) (m := m) (y := y) (p0 := p0) n 0 0 (1000000, 0)
    rw [Nat.zero_add, Nat.zero_mul] at this
    exact this
  have hit : (it (fun c b => up (ev L D m y p0 n c) b) (6 ^ n) 0 (1000000, 0)).1 ≤ 80 := by
    obtain ⟨c, t, c1, c2⟩ := ev_any (L := L) (D := D) (y := y) (p0 := p0) hn1 hn (show n ≤ m by omega)
    obtain ⟨s1, s2, s3, s4⟩ := ev_b hm hp0 n c t c2
    have tb : t.2.1 ≤ 80 := Nat.le_trans s2 (Nat.le_trans (Nat.mul_le_mul hy hn) (by omega))
    refine it_hit (q := c) (fun c b => up_le _ b) (fun b => ?_) _ _ _ (by omega) (by omega)
    rw [c2]
    show (if t.2.1 < b.1 then (t.2.1, t.2.2.2) else b).1 ≤ 80
    by_cases q : t.2.1 < b.1
    · rw [if_pos q]; exact tb
    · rw [if_neg q]; omega
  rw [eb] at z3 hit
  have hI2 := hI.same x3.1 z2
  rcases z3 with ⟨r1, -⟩ | ⟨-, r2, r3⟩
  · omega
  by_cases w0 : w = 0
  · rw [if_pos w0, if_pos w0]
    exact go0e hI2 rfl rfl (x3.2.2.2.2.2.2.2.1.trans r2.symm)
  · rw [if_neg w0, if_neg w0]
    exact go0e hI2 rfl rfl (x3.2.2.2.2.2.2.2.2.trans r3.symm)
