-- move
theorem n40b {s a k : Nat} (h : s < 4) (ha : a < 2 ^ 31) : (40 * nI s + nI a + nI k : Int32) = nI (40 * s + a + k) := by
  rw [← nI_add, ← nI_add]; rcases (show s = 0 ∨ s = 1 ∨ s = 2 ∨ s = 3 by omega) with rfl | rfl | rfl | rfl <;> rfl
theorem mv_l2 {t b n : Nat} (ht : t < 4) (h : b + n ≤ 40) : ∀ (d i f : Nat) (M : aw_M), i + d = n → d < f → fm_move_L156 f (nI t) (nI b) (nI n) (nI i) M = some (nI n, aw_un M 8 (fun k => if 40 * t + b + i ≤ k ∧ k < 40 * t + b + n then M 9 (k - (40 * t + b)) else M 8 k)) := by
  intro d
  induction d with
  | zero =>
    intro i f M hi hf
    obtain ⟨f, rfl⟩ : ∃ g, f = g + 1 := ⟨f - 1, by omega⟩
    rw [fm_move_L156_s, if_pos (nI_le (by omega) (by omega))]
    rw [show (fun k => if 40 * t + b + i ≤ k ∧ k < 40 * t + b + n then M 9 (k - (40 * t + b)) else M 8 k) = M 8 from funext fun k => if_neg (by omega), aw_un_e]
  | succ d ih =>
    intro i f M hi hf
    obtain ⟨f, rfl⟩ : ∃ g, f = g + 1 := ⟨f - 1, by omega⟩
    rw [fm_move_L156_s, if_neg (nI_ge (by omega) (by omega)), if_neg (nI_in (show i < 40 by omega) (by omega)), n40b ht (by omega), if_neg (nI_in (show 40 * t + b + i < 160 by omega) (by omega)), nI_clamp (show 40 * t + b + i < 2 ^ 31 by omega), nI_clamp (show i < 2 ^ 31 by omega), nI_1, ih (i + 1) f _ (by omega) (by omega)]
    congr 2
    show aw_un (aw_un M 8 _) 8 _ = _
    rw [aw_un_un]
    congr 1
    funext k
    rw [aw_u_o (a := 9) _ (by decide), aw_u_if]
    by_cases c : k = 40 * t + b + i
    · subst c; rw [if_neg (by omega), if_pos ⟨rfl, rfl⟩, if_pos (by omega), show 40 * t + b + i - (40 * t + b) = i by omega]
    · rw [if_neg (show ¬ (8 = 8 ∧ k = 40 * t + b + i) from fun q => c q.2)]
      by_cases c2 : 40 * t + b + (i + 1) ≤ k ∧ k < 40 * t + b + n
      · rw [if_pos c2, if_pos (by omega)]
      · rw [if_neg c2, if_neg (by omega)]
theorem mv_l1 {s t a b n : Nat} (hs : s < 4) (ht : t < 4) (h : a + n ≤ 40) (h' : b + n ≤ 40) : ∀ (d i f : Nat) (M : aw_M), i + d = n → d < f → fm_move_L119 f (nI s) (nI a) (nI t) (nI b) (nI n) (nI i) M = fm_move_L156 2000 (nI t) (nI b) (nI n) 0 (aw_un M 9 (fun k => if i ≤ k ∧ k < n then M 8 (40 * s + a + k) else M 9 k)) := by
  intro d
  induction d with
  | zero =>
    intro i f M hi hf
    obtain ⟨f, rfl⟩ : ∃ g, f = g + 1 := ⟨f - 1, by omega⟩
    rw [fm_move_L119_s, if_pos (nI_le (by omega) (by omega))]
    rw [show (fun k => if i ≤ k ∧ k < n then M 8 (40 * s + a + k) else M 9 k) = M 9 from funext fun k => if_neg (by omega), aw_un_e]
  | succ d ih =>
    intro i f M hi hf
    obtain ⟨f, rfl⟩ : ∃ g, f = g + 1 := ⟨f - 1, by omega⟩
    rw [fm_move_L119_s, if_neg (nI_ge (by omega) (by omega)), n40b hs (by omega), if_neg (nI_in (show 40 * s + a + i < 160 by omega) (by omega)), if_neg (nI_in (show i < 40 by omega) (by omega)), nI_clamp (show 40 * s + a + i < 2 ^ 31 by omega), nI_clamp (show i < 2 ^ 31 by omega), nI_1, ih (i + 1) f _ (by omega) (by omega)]
    congr 1
    show aw_un (aw_un M 9 _) 9 _ = _
    rw [aw_un_un]
    congr 1
    funext k
    rw [aw_u_o (a := 8) _ (by decide), aw_u_if]
    by_cases c : k = i
    · subst c; rw [if_neg (by omega), if_pos ⟨rfl, rfl⟩, if_pos (by omega)]
    · rw [if_neg (show ¬ (9 = 9 ∧ k = i) from fun q => c q.2)]
      by_cases c2 : i + 1 ≤ k ∧ k < n
      · rw [if_pos c2, if_pos (by omega)]
      · rw [if_neg c2, if_neg (by omega)]
theorem Inv.move {n : Nat} {C D : aw_M} (hI : Inv n C D) {s t a b l : Nat} (hs : s < 4) (ht : t < 4) (h : a + l ≤ 40) (h' : b + l ≤ 40) (z : Nat → Int32) (hz : ∀ k, k < l → z k = D 8 (40 * s + a + k)) : Inv n (aw_un C (63 + t) (va_cpy (C (63 + s)) (C (63 + t)) a b l)) (aw_un (aw_un D 9 z) 8 (fun k => if 40 * t + b + 0 ≤ k ∧ k < 40 * t + b + l then (aw_un D 9 z) 9 (k - (40 * t + b)) else (aw_un D 9 z) 8 k)) := by
  have eD : ∀ x, x ≠ 9 → x ≠ 8 → aw_un (aw_un D 9 z) 8 (fun k => if 40 * t + b + 0 ≤ k ∧ k < 40 * t + b + l then (aw_un D 9 z) 9 (k - (40 * t + b)) else (aw_un D 9 z) 8 k) x = D x := fun x h9 h8 => by rw [aw_un_o h8, aw_un_o h9]
  refine hI.beside (fun o ho => aw_un_o (by omega)) (fun a h1 h5 => eD a (by omega) (by omega)) (by rw [eD 0 (by decide) (by decide)]) (by rw [eD 0 (by decide) (by decide)]) (by rw [eD 0 (by decide) (by decide)]; exact hI.2.2.2.1.2) (fun o j x y hL ho => ?_) (fun q hq => by rw [eD 6 (by decide) (by decide), eD 7 (by decide) (by decide)]; exact hI.2.2.2.1.1 q hq)
  rcases Lk_s hL ho with ⟨q, hq, e, e'⟩ | ⟨q, hq, rfl, rfl, hj, rfl⟩ | ⟨e, e', -⟩ | ⟨e, e', -⟩ | ⟨e, e', -⟩
  · rw [aw_un_o (by omega), eD x (by omega) (by omega)]; exact hI.1 _ _ _ _ hL
  · rw [aw_un_s, aw_un_s, aw_un_o (a := 8) (by decide)]
    by_cases c : q = t
    · subst c
      rw [aw_un_s]
      unfold va_cpy
      by_cases c2 : b ≤ j ∧ j < b + l
      · rw [if_pos c2, if_pos (by omega), show 40 * q + j - (40 * q + b) = j - b by omega, hz _ (by omega), Nat.add_assoc]
        exact hI.1 _ _ _ _ (lk_num hs (by omega))
      · rw [if_neg c2, if_neg (by omega)]
        exact hI.1 _ _ _ _ hL
    · rw [aw_un_o (by omega), if_neg (by omega)]
      exact hI.1 _ _ _ _ hL
  · rw [aw_un_o (by omega), eD x (by omega) (by omega)]; exact hI.1 _ _ _ _ hL
  · rw [aw_un_o (by omega), eD x (by omega) (by omega)]; exact hI.1 _ _ _ _ hL
  · rw [aw_un_o (by omega), eD x (by omega) (by omega)]; exact hI.1 _ _ _ _ hL
theorem sub_n {l n : Nat} (hl : l ≤ 40) (hn : n < 2 ^ 31) : (nI l - nI n).toInt = (l : Int) - n := by
  rw [Int32.toInt_sub, nI_toInt (by omega), nI_toInt hn, Int.bmod_def]
  omega
theorem run_y {s l a b : Nat} {M : aw_M} (hl : l ≤ 40) (e : M (59 + s) 2 = nI l) (hab : a + b ≤ l) : fc_Sh_hasRun s (nI a) (nI b) M = some (1, M) := by
  unfold fc_Sh_hasRun
  rw [e, if_neg (nI_pos (by omega)), if_neg (nI_pos (by omega)), if_neg (nI_nlt (by omega) (by omega)), if_neg]
  rw [lt_i, sub_n hl (by omega), nI_toInt (by omega)]; omega
theorem run_n {s l : Nat} {i n : Int32} {M : aw_M} (hl : l ≤ 40) (e : M (59 + s) 2 = nI l) (h : ¬ ∃ a b : Nat, i = nI a ∧ n = nI b ∧ a + b ≤ l) : fc_Sh_hasRun s i n M = some (0, M) := by
  unfold fc_Sh_hasRun
  rw [e]
  by_cases h1 : i < 0
  · rw [if_pos h1]
  rw [if_neg h1]
  by_cases h2 : n < 0
  · rw [if_pos h2]
  rw [if_neg h2]
  obtain ⟨a, ha, rfl⟩ := nI_of h1
  obtain ⟨b, hb, rfl⟩ := nI_of h2
  by_cases h3 : nI l < nI b
  · rw [if_pos h3]
  rw [if_neg h3, if_pos]
  rw [lt_i, sub_n hl hb, nI_toInt ha]
  have : ¬ a + b ≤ l := fun q => h ⟨a, b, rfl, rfl, q⟩
  omega
theorem eq_move (p1 p2 p3 p4 p5 : Int32) : op_ok Inv (fc_LB_move p1 p2 p3 p4 p5) (fm_move p1 p2 p3 p4 p5) := by
  intro n C D hn hI
  rcases (Classical.em (0 ≤ p1 ∧ p1 ≤ 3)).symm with h | h
  · exact go1 hI (sb (sh_c p1 C) (sp (if_neg h) rfl)) (sb (sh_m p1 D) (sp (if_neg h) rfl))
  rcases (Classical.em (0 ≤ p3 ∧ p3 ≤ 3)).symm with h' | h'
  · simp only [fc_LB_move, fm_move, sh_c, sh_m, if_pos h, if_neg h', bi_n, i10, i00, if_true, if_false]; exact er1 hI
  obtain ⟨s, -, hs, rfl⟩ := rng 0 3 h
  obtain ⟨t, -, ht, rfl⟩ := rng 0 3 h'
  have hs : s < 4 := by omega
  have ht : t < 4 := by omega
  obtain ⟨e1, e2, l, hl, e3⟩ := shs_b hI hs
  obtain ⟨f1, f2, l', hl', f3⟩ := shs_b hI ht
  have c1 : (nI s).toNatClampNeg = s := nI_clamp (by omega)
  have c2 : (nI t).toNatClampNeg = t := nI_clamp (by omega)
  have hin := ni_f (k := s) (N := 4) hs (by omega)
  have hin' := ni_f (k := t) (N := 4) ht (by omega)
  simp only [fc_LB_move, fm_move, sh_c, sh_m, if_pos h, if_pos h', bi_n, i10, if_false, hin, hin', c1, c2, fc_Sh_isMissing, e1, f1]
  by_cases h0 : D 6 s = 0
  · simp only [if_pos h0, bi_n, i10, if_false]; exact er2 hI
  by_cases h0' : D 6 t = 0
  · simp only [if_neg h0, if_pos h0', bi_n, i10, i00, if_true, if_false, f1]; exact er2 hI
  simp only [if_neg h0, if_neg h0', bi_n, i00, if_true, e1, f1]
  by_cases h5 : D 6 s = D 6 t
  case neg => simp only [if_neg h5]; exact er5 hI
  simp only [if_pos h5]
  by_cases q5 : p5 < 0
  · have nr : ¬ ∃ a b : Nat, p2 = nI a ∧ p5 = nI b ∧ a + b ≤ l := by rintro ⟨a, b, -, rfl, hab⟩; exact nI_pos (by omega) q5
    simp only [run_n hl (e2.trans e3) nr, bi_n, i00, if_true, if_pos q5]; exact er1 hI
  by_cases q2 : p2 < 0
  · have nr : ¬ ∃ a b : Nat, p2 = nI a ∧ p5 = nI b ∧ a + b ≤ l := by rintro ⟨a, b, rfl, -, hab⟩; exact nI_pos (by omega) q2
    simp only [run_n hl (e2.trans e3) nr, bi_n, i00, if_true, if_neg q5, if_pos q2]; exact er1 hI
  obtain ⟨b, hb, rfl⟩ := nI_of q5
  obtain ⟨a, ha, rfl⟩ := nI_of q2
  by_cases r1 : a + b ≤ l
  case neg =>
    have nr : ¬ ∃ a' b' : Nat, nI a = nI a' ∧ nI b = nI b' ∧ a' + b' ≤ l := by
      rintro ⟨a', b', x1, x2, hab⟩
      rw [nI_eq ha (by omega)] at x1
      rw [nI_eq hb (by omega)] at x2
      omega
    have g1 : nI l - nI b < nI a := by rw [lt_i, sub_n hl hb, nI_toInt ha]; omega
    by_cases q4 : p4 < 0
    · simp only [run_n hl (e2.trans e3) nr, bi_n, i00, if_true, if_neg q5, if_neg q2, if_pos q4]; exact er1 hI
    · simp only [run_n hl (e2.trans e3) nr, bi_n, i00, if_true, if_neg q5, if_neg q2, if_neg q4, e3, if_pos g1]; exact er1 hI
  have g1 : ¬ nI l - nI b < nI a := by rw [lt_i, sub_n hl hb, nI_toInt ha]; omega
  simp only [run_y hl (e2.trans e3) r1, bi_n, i10, if_false, if_neg q5, if_neg q2]
  by_cases q4 : p4 < 0
  · have nr : ¬ ∃ a' b' : Nat, p4 = nI a' ∧ nI b = nI b' ∧ a' + b' ≤ l' := by rintro ⟨a, b, rfl, -, hab⟩; exact nI_pos (by omega) q4
    simp only [run_n hl' (f2.trans f3) nr, bi_n, i00, if_true, if_pos q4]; exact er1 hI
  obtain ⟨j, hj, rfl⟩ := nI_of q4
  by_cases r2 : j + b ≤ l'
  case neg =>
    have nr : ¬ ∃ a' b' : Nat, nI j = nI a' ∧ nI b = nI b' ∧ a' + b' ≤ l' := by
      rintro ⟨a', b', x1, x2, hab⟩
      rw [nI_eq hj (by omega)] at x1
      rw [nI_eq hb (by omega)] at x2
      omega
    have g2 : ¬ nI j ≤ nI l' - nI b := by rw [le_i, sub_n hl' hb, nI_toInt hj]; omega
    simp only [run_n hl' (f2.trans f3) nr, bi_n, i00, if_true, if_neg q4, e3, if_neg g1, f3, if_neg g2]; exact er1 hI
  have g2 : nI j ≤ nI l' - nI b := by rw [le_i, sub_n hl' hb, nI_toInt hj]; omega
  have ok : ¬ ¬ (¬ nI a < 0 ∧ ¬ nI j < 0 ∧ ¬ nI b < 0 ∧ a + b ≤ 40 ∧ j + b ≤ 40) := fun q => q ⟨q2, q4, q5, by omega, by omega⟩
  have ca : (nI a).toNatClampNeg = a := nI_clamp ha
  have cb : (nI b).toNatClampNeg = b := nI_clamp hb
  have cj : (nI j).toNatClampNeg = j := nI_clamp hj
  have G1 := mv_l1 hs ht (show a + b ≤ 40 by omega) (show j + b ≤ 40 by omega) b 0 2000 D (by omega) (by omega)
  have G2 := fun M => mv_l2 ht (show j + b ≤ 40 by omega) b 0 2000 M (by omega) (by omega)
  rw [nI_0] at G1
  simp only [nI_0] at G2
  simp only [run_y hl' (f2.trans f3) r2, bi_n, i10, if_false, if_neg q4, e3, if_neg g1, f3, if_pos g2, ca, cb, cj, if_neg ok]
  refine go0e (hI.move hs ht (show a + b ≤ 40 by omega) (show j + b ≤ 40 by omega) (fun k => if 0 ≤ k ∧ k < b then D 8 (40 * s + a + k) else D 9 k) (fun k hk => if_pos (by omega))) rfl (G1.trans (G2 _)) rfl
