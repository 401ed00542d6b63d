theorem refr_l {L : Lw} {m : Nat} (hm : m ≤ 6) : ∀ (d i f : Nat) (C : aw_M), i + d = m → d < f → CL L C → C 1 5 = nI m → (∀ q, q < 6 → ∃ k, k ≤ 6 ∧ C (14 + q) 0 = nI k) → ∃ C', fc_LB_refreshGauges_L2 f (nI i) C = some C' ∧ KC C C' ∧ (∀ q, i ≤ q → q < m → GV L C' q) ∧ ∀ q, q < i → q < 6 → GV L C q → GV L C' q := by
  intro d
  induction d with
  | zero =>
    intro i f C h hf hc em hk
    obtain ⟨f, rfl⟩ : ∃ g, f = g + 1 := ⟨f - 1, by omega⟩
    refine ⟨C, ?_, KC.rf C, fun q a b => by omega, fun q _ _ g => g⟩
    rw [fc_LB_refreshGauges_L2_s, if_pos (by rw [em]; exact nI_le (by omega) (by omega))]
  | succ d ih =>
    intro i f C h hf hc em hk
    obtain ⟨f, rfl⟩ : ∃ g, f = g + 1 := ⟨f - 1, by omega⟩
    obtain ⟨k, k6, ek⟩ := hk i (by omega)
    obtain ⟨C1, e1, k1, g1, o1⟩ := refresh_c hc (i := i) (by omega) k6 ek
    obtain ⟨C2, e2, k2, g2, o2⟩ := ih (i + 1) f C1 (by omega) (by omega) (hc.k k1) (by rw [k1 1 (by omega)]; exact em) (fun q hq => by rw [k1 (14 + q) (by omega)]; exact hk q hq)
    refine ⟨C2, ?_, k1.tr k2, fun q a b => ?_, fun q a b g => o2 q (by omega) b (o1 q b (by omega) g)⟩
    · rw [fc_LB_refreshGauges_L2_s]
      simp only [if_neg (show ¬ C 1 5 ≤ nI i by rw [em]; exact nI_ge (by omega) (by omega)), ni_f (show i < 6 by omega) (by omega), if_false, nI_clamp (show i < 2 ^ 31 by omega), e1, bv_n, nI_1, e2]
    · by_cases c : q = i
      · subst c; exact o2 q (by omega) (by omega) g1
      · exact g2 q (by omega) b
theorem Inv.refr {n m : Nat} {C D : aw_M} (hI : Inv n C D) {L : Lw} (h : CL L C) (hm : m ≤ 6) (em : D 1 2 = nI m) : ∃ C', fc_LB_refreshGauges C = some C' ∧ KC C C' ∧ (∀ q, q < m → GV L C' q) ∧ Inv n C' D := by
  obtain ⟨C', e, k, g, -⟩ := refr_l hm m 0 2000 C (by omega) (by omega) h ((hI.1 _ _ _ _ lk_cnt).trans em) (fun q hq => by obtain ⟨k, a, _, b⟩ := hI.kind hq; exact ⟨k, a, b⟩)
  rw [nI_0] at e
  exact ⟨C', e, k, fun q hq => g q (by omega) hq, hI.same k.sc (SD.rf D)⟩
theorem loose_l {L : Lw} (hL : LR L) {m N : Nat} (hm : m ≤ 6) (hN : N ≤ 40) : ∀ (d j f n : Nat) (s : Int32) (C D : aw_M), j + d = N → d < f → Inv n C D → CL L C → DL L D → (∀ q, q < m → GV L C q) → D 1 2 = nI m → (D 1 0).toInt + d * 30 ≤ 99999 → ∃ r C' D', fc_LB_loose_L48 f (nI N) s (nI j) C = some (r, C') ∧ fm_loose_L44 f (nI N) s (nI j) D = some (r, D') ∧ Inv n C' D' := by
  intro d
  induction d with
  | zero =>
    intro j f n s C D h hf hI hc hd g em hs
    obtain ⟨f, rfl⟩ : ∃ g, f = g + 1 := ⟨f - 1, by omega⟩
    refine ⟨s, C, D, ?_, ?_, hI⟩
    · rw [fc_LB_loose_L48_s, if_pos (nI_le (by omega) (by omega))]
    · rw [fm_loose_L44_s, if_pos (nI_le (by omega) (by omega))]
  | succ d ih =>
    intro j f n s C D h hf hI hc hd g em hs
    obtain ⟨f, rfl⟩ : ∃ g, f = g + 1 := ⟨f - 1, by omega⟩
    obtain ⟨r, C1, D1, e1, e2, I1, c1, d1, g1, m1, s1⟩ := even_both hm hI em hc hd hL g (by omega)
    obtain ⟨r', C2, D2, e3, e4, I2⟩ := ih (j + 1) f n (s + r) C1 D1 (by omega) (by omega) I1 c1 d1 g1 m1 (by omega)
    refine ⟨r', C2, D2, ?_, ?_, I2⟩
    · rw [fc_LB_loose_L48_s, if_neg (nI_ge (by omega) (by omega)), e1, aw_bi_s, nI_1, e3]
    · rw [fm_loose_L44_s, if_neg (nI_ge (by omega) (by omega)), e2, nI_1, e4]
theorem eq_loose (a : Int32) : op_ok Inv (fc_LB_loose a) (fm_loose a) := by
  intro n C D hn hI
  simp only [fc_LB_loose, fm_loose]
  rcases (Classical.em (1 ≤ a ∧ a ≤ 40)).symm with hb | hb
  · rw [in_n hb, in1n _ _ hb]; exact er1 hI
  rw [in_y hb, in1 _ _ hb]
  obtain ⟨N, hN1, hN, rfl⟩ := rng 1 40 hb
  obtain ⟨L, l1, l2, l3⟩ := laws_L hI.2.2.2.2.1
  obtain ⟨m, hm, em, -⟩ := hI.many
  obtain ⟨C1, q1, q2, q3, I1⟩ := hI.refr l1 hm em
  have Z : Rb (D 1 0) 0 99999 := hI.row 0 (by omega) (by omega) (by omega) (by omega)
  have e30 : (30 * nI N : Int32) = nI (30 * N) := nI_mul 30 N
  have E0 := hI.1 _ _ _ _ lk_sec
  simp only [bi_n, i10, if_false, q1, bv_n, e30, E0]
  have V : (nI (30 * N)).toInt = (30 * N : Nat) := nI_toInt (by omega)
  by_cases hs : D 1 0 + nI (30 * N) ≤ 99999
  · have hs2 := (le_add Z ⟨by omega, by omega⟩).mp hs
    rw [V] at hs2
    simp only [if_pos hs]
    obtain ⟨r, C2, D2, e1, e2, I2⟩ := loose_l l3 hm hN N 0 2000 n 0 C1 D (by omega) (by omega) I1 (l1.k q2) l2 q3 em (by omega)
    rw [nI_0] at e1 e2
    exact go0e I2 e1 e2 rfl
  · simp only [if_neg hs]; exact er3 hI
-- judge
theorem judge_l {L : Lw} (hL : LR L) {s m l : Nat} (hs : s < 4) (hm : m ≤ 6) (hl : l ≤ 40) : ∀ (d i f n : Nat) (C D : aw_M), i + d = min l m → d < f → Inv n C D → CL L C → DL L D → D 1 2 = nI m → D 7 s = nI l → ∃ r C1 D1, fc_LB_judge_L51 f s (nI (min l m)) (nI i) C = some (r, C1) ∧ fm_judge_L32 f (nI s) (nI i) D = some (r, D1) ∧ Inv n C1 D1 := by
  have hmin : min l m ≤ l ∧ min l m ≤ m := ⟨Nat.min_le_left _ _, Nat.min_le_right _ _⟩
  intro d
  induction d with
  | zero =>
    intro i f n C D h hf hI hc hd e e'
    obtain ⟨f, rfl⟩ : ∃ g, f = g + 1 := ⟨f - 1, by omega⟩
    obtain rfl : i = min l m := by omega
    have e1 : C 1 5 = nI m := (hI.1 _ _ _ _ lk_cnt).trans e
    have e2 : C (59 + s) 2 = nI l := (hI.1 _ _ _ _ (lk_len hs)).trans e'
    have J : fm_judge_J77 (nI s) (nI (min l m)) D = some (if l = m then -1 else nI (min l m), D) := by
      simp only [fm_judge_J77, e, ni_f hs (show 4 < 2 ^ 31 by omega), if_false, nI_clamp (show s < 2 ^ 31 by omega), e', nI_eq (show min l m < 2 ^ 31 by omega) (show m < 2 ^ 31 by omega), nI_eq (show min l m < 2 ^ 31 by omega) (show l < 2 ^ 31 by omega)]
      by_cases c1 : min l m = m
      · by_cases c2 : min l m = l
        · rw [if_pos c1, if_pos c2, if_pos (by omega)]
        · rw [if_pos c1, if_neg c2, if_neg (by omega)]
      · rw [if_neg c1, if_neg (by omega)]
    refine ⟨if l = m then -1 else nI (min l m), C, D, ?_, ?_, hI⟩
    · rw [fc_LB_judge_L51_s, if_pos (nI_le (by omega) (by omega)), e1, e2]
      by_cases c : l = m
      · rw [if_pos (by rw [c]), if_pos c]
      · rw [if_neg (fun q => c ((nI_eq (by omega) (by omega)).mp q)), if_neg c]
    · rw [fm_judge_L32_s, e]
      by_cases c1 : m ≤ min l m
      · rw [if_pos (nI_le c1 (by omega)), J]
      · simp only [if_neg (nI_ge (show min l m < m by omega) (by omega)), ni_f hs (show 4 < 2 ^ 31 by omega), if_false, nI_clamp (show s < 2 ^ 31 by omega), e', if_pos (nI_le (show l ≤ min l m by omega) (by omega)), J]
  | succ d ih =>
    intro i f n C D h hf hI hc hd e e'
    obtain ⟨f, rfl⟩ : ∃ g, f = g + 1 := ⟨f - 1, by omega⟩
    obtain ⟨C1, q1, q2, q3, q4, I1⟩ := hI.gauge hc (i := i) (by omega)
    obtain ⟨C2, D2, w1, w2, w3, w4, w5⟩ := both_shows I1 (hc.k q2) hd hL (i := i) (by omega) q3
    have I2 := I1.same w3.sc w5.sd
    have E : C2 (63 + s) i = D 8 (40 * s + i) := by rw [I2.1 _ _ _ _ (lk_num hs (j := i) (by omega)), w5.1 8 (by decide)]
    have n6 : (6 ≤ i) = False := eq_false (by omega)
    rw [fc_LB_judge_L51_s, fm_judge_L32_s]
    simp only [e, e', if_neg (nI_ge (show i < min l m by omega) (by omega)), if_neg (nI_ge (show i < m by omega) (by omega)), if_neg (nI_ge (show i < l by omega) (by omega)), ni_f hs (show 4 < 2 ^ 31 by omega), if_false, nI_clamp (show s < 2 ^ 31 by omega), nI_clamp (show i < 2 ^ 31 by omega), q1, br_n, n6, w1, w2, bi_n, ni_f (show i < 40 by omega) (show 40 < 2 ^ 31 by omega), n40 hs (show i < 40 by omega), ni_f (show 40 * s + i < 160 by omega) (show 160 < 2 ^ 31 by omega), nI_clamp (show 40 * s + i < 2 ^ 31 by omega), E, nI_1]
    by_cases c : mS L D i = D 8 (40 * s + i)
    · rw [if_pos c, if_pos c.symm]
      exact ih (i + 1) f n C2 D2 (by omega) (by omega) I2 ((hc.k q2).k w3) (hd.j w5) (by rw [w5.r1]; exact e) (by rw [w5.1 7 (by decide)]; exact e')
    · rw [if_neg c, if_neg (fun q => c q.symm)]
      refine ⟨nI i, C2, D2, rfl, ?_, I2⟩
      unfold fm_judge_J77
      rw [w5.r1, e, if_neg (fun q => by rw [nI_eq (by omega) (by omega)] at q; omega)]
theorem eq_judge (a : Int32) : op_ok Inv (fc_LB_judge a) (fm_judge a) := by
  intro n C D hn hI
  rcases (Classical.em (0 ≤ a ∧ a ≤ 3)).symm with h | h
  · exact go1 hI (sb (sh_c a C) (sp (if_neg h) rfl)) (sb (sh_m a D) (sp (if_neg h) rfl))
  obtain ⟨s, -, hs, rfl⟩ := rng 0 3 h
  have hs : s < 4 := by omega
  obtain ⟨e1, e2, l, hl, e3⟩ := shs_b hI hs
  obtain ⟨m, hm, e, e'⟩ := hI.many
  have c1 : (nI s).toNatClampNeg = s := nI_clamp (by omega)
  have hin := ni_f (k := s) (N := 4) hs (by omega)
  simp only [fc_LB_judge, fm_judge, sh_c, sh_m, if_pos h, bi_n, i10, if_false, hin, c1, fc_Sh_isMissing, e1]
  by_cases h0 : D 6 s = 0
  · simp only [if_pos h0, bi_n, i10, if_false]; exact er2 hI
  simp only [if_neg h0, bi_n, i00, if_true, e2, e3, e', min_n (show l < 2 ^ 31 by omega) (show m < 2 ^ 31 by omega)]
  obtain ⟨L, l1, l2, l3⟩ := laws_L hI.2.2.2.2.1
  obtain ⟨r, C1, D1, g1, g2, g3⟩ := judge_l l3 hs hm hl (min l m) 0 2000 n C D (by omega) (by omega) hI l1 l2 e e3
  rw [nI_0] at g1 g2
  exact go0e g3 g1 g2 rfl
-- what is only thought of
def TC (C C' : aw_M) : Prop := ∀ o, o ≠ 5 → (o < 34 ∨ (36 ≤ o ∧ o < 39) ∨ 51 ≤ o) → C' o = C o
theorem TC.rf (C : aw_M) : TC C C := fun _ _ _ => rfl
theorem TC.tr {A B C : aw_M} (h : TC A B) (h' : TC B C) : TC A C := fun o h5 ho => (h' o h5 ho).trans (h o h5 ho)
theorem KC.t {A B : aw_M} (h : KC A B) : TC A B := fun o _ ho => h o ho
theorem TC.u {C : aw_M} {j : Nat} {v : Int32} : TC C (aw_u C 5 j v) := fun o h5 _ => aw_u_row h5
theorem TC.sc {A B : aw_M} (h : TC A B) : SC A B := ⟨fun o ho => h o (by omega) (by omega), by rw [h 56 (by decide) (by omega)]⟩
theorem CL.t {L : Lw} {C C' : aw_M} (h : CL L C) (k : TC C C') : CL L C' := h.cg (by rw [k 26 (by omega) (by omega)]) (by rw [k 27 (by omega) (by omega)]) (k 30 (by omega) (by omega)) (k 31 (by omega) (by omega))
def mv (k : Nat) : Prop := k = 0 ∨ (7 ≤ k ∧ k ≤ 12) ∨ (13 ≤ k ∧ k < 43 ∧ 3 ≤ (k - 13) % 5)
def TD (D D' : aw_M) : Prop := (∀ o, o ≠ 0 → o ≠ 1 → o ≠ 3 → D' o = D o) ∧ (∀ j, ¬ jR j → D' 0 j = D 0 j) ∧ (∀ k, k < 213 → D' 3 k = D 1 k) ∧ ∀ k, k < 213 → ¬ mv k → D' 1 k = D 1 k
theorem TD.j {D A B : aw_M} (h : TD D A) (j : JD A B) : TD D B := ⟨fun o h0 h1 h3 => (j.1 o h0).trans (h.1 o h0 h1 h3), fun k hk => (j.2 k hk).trans (h.2.1 k hk), fun k hk => by rw [j.1 3 (by decide)]; exact h.2.2.1 k hk, fun k hk hm => by rw [j.r1]; exact h.2.2.2 k hk hm⟩
theorem TD.u {D A : aw_M} (h : TD D A) {b : Nat} (v : Int32) (hb : mv b) : TD D (aw_u A 1 b v) := ⟨fun o h0 h1 h3 => by rw [aw_u_row h1]; exact h.1 o h0 h1 h3, fun k hk => by rw [aw_u_o k (by decide)]; exact h.2.1 k hk, fun k hk => by rw [aw_u_o k (by decide)]; exact h.2.2.1 k hk, fun k hk hm => by rw [aw_u_j 1 (show k ≠ b from fun q => hm (by rw [q]; exact hb))]; exact h.2.2.2 k hk hm⟩
theorem TD.dl {L : Lw} {D A : aw_M} (hd : DL L D) (h : TD D A) : DL L A := hd.cg (fun k hk => h.2.2.2 k (by omega) (by unfold mv; omega))
/-- the row goes into tried -/
theorem keep_m (D : aw_M) : ∃ D', fm_moveAll 1 3 D = some D' ∧ TD D D' ∧ D' 1 = D 1 := by
  refine ⟨_, moveAll_m (by decide) D, ⟨fun o h0 h1 h3 => aw_un_o h3, fun k hk => by rw [aw_un_o (by decide)], fun k hk => by rw [aw_un_s, if_pos hk], fun k hk _ => by rw [aw_un_o (by decide)]⟩, aw_un_o (by decide)⟩
/-- .. and back -/
theorem back_m {D A : aw_M} (h : TD D A) : ∃ D', fm_moveAll 3 1 A = some D' ∧ SD D D' ∧ (∀ k, k < 213 → D' 1 k = D 1 k) ∧ TD D D' := by
  have e1 : ∀ k, k < 213 → (aw_un A 1 (fun k => if k < 213 then A 3 k else A 1 k)) 1 k = D 1 k := fun k hk => by rw [aw_un_s, if_pos hk]; exact h.2.2.1 k hk
  refine ⟨_, moveAll_m (by decide) A, ⟨e1, fun k hk => ?_, fun o ho => ?_, fun j hj => ?_⟩, e1, ⟨fun o h0 h1 h3 => ?_, fun j hj => ?_, fun k hk => ?_, fun k hk _ => e1 k hk⟩⟩
  · rw [aw_un_o (by decide), h.1 2 (by decide) (by decide) (by decide)]
  · rw [aw_un_o (by omega), h.1 o (by omega) (by omega) (by omega)]
  · rw [aw_un_o (by decide)]; exact h.2.1 j (by unfold jR; omega)
  · rw [aw_un_o h1, h.1 o h0 h1 h3]
  · rw [aw_un_o (by decide)]; exact h.2.1 j hj
  · rw [aw_un_o (by decide)]; exact h.2.2.1 k hk
theorem yard_t {L : Lw} {D A : aw_M} (hd : DL L D) (h : TD D A) {i k p : Nat} (hi : i < 6) (hk : k ≤ 6) (e : D 1 (13 + 5 * i + 0) = nI k) (hp : p ≤ 99) (ep : A 1 11 = nI p) : ∃ A', fm_yard (nI i) A = some (spo (mS L A i), A') ∧ TD D A' ∧ A' 1 11 = nI (min 99 (p + lyN k)) ∧ ∀ j, 7 ≤ j → j ≤ 12 → j ≠ 11 → A' 1 j = A 1 j := by
  obtain ⟨A1, j1, y⟩ := yard_m (h.dl hd) hi hk (by rw [h.2.2.2 _ (by omega) (by unfold mv; omega)]; exact e)
  have h1 := h.j j1
  have l2 := lyN_2 k
  refine ⟨_, y, ?_, ?_, fun q a b c => ?_⟩
  · unfold ydm
    exact (((h1.u _ (by unfold mv; omega)).u _ (by unfold mv; omega)).u _ (by unfold mv; omega)).u _ (by unfold mv; omega)
  · rw [ydm_l, j1.r1, ep, nI_add, hl_min (by rw [nI_toInt (by omega)]; omega) (by decide)]
    exact min_n (a := 99) (by omega) (by omega)
  · rw [ydm_k (by omega) (by omega) (by omega) (by omega), j1.r1]
/-- machine thought of = machine in the row, up to lint -/
def Th (C A : aw_M) : Prop := ∀ j, j < 6 → j ≠ 4 → C 5 j = A 1 (7 + j)
theorem both_t {L : Lw} {n : Nat} {C D C' A : aw_M} (hI : Inv n C D) (hc : CL L C) (hd : DL L D) (hL : LR L) (tc : TC C C') (td : TD D A) {i p : Nat} (hi : i < 6) (g : GV L C' i) (ht : Th C' A) (h0 : A 1 7 = 0 ∨ A 1 7 = 1) (hp : p ≤ 99) (e1 : C' 5 4 = nI p) (e2 : A 1 11 = nI p) : ∃ C2 A2, fc_Ga_shows i 2 C' = some (mS L A i, C2) ∧ fm_shows (nI i) A = some (mS L A i, A2) ∧ KC C' C2 ∧ GK L C' C2 ∧ JD A A2 := by
  obtain ⟨C2, h1, h2, h3⟩ := shows_c (hc.t tc) hL hi (mo := 2) (by omega) (by rw [show (3 + 2 : Nat) = 5 from rfl, ht 0 (by omega) (by omega)]; exact h0) hp e1 g
  obtain ⟨A2, h4, h5⟩ := shows_m (td.dl hd) hi
  have E : cS L C' i 2 = mS L A i := by
    unfold cS mS
    have E1 : ∀ j, j < 3 → C' (14 + i) j = A 1 (13 + 5 * i + j) := fun j hj => by
      rw [tc (14 + i) (by omega) (by omega), td.2.2.2 _ (by omega) (by unfold mv; omega)]
      exact hI.1 _ _ _ _ (lk_cl hi (by omega))
    rw [E1 0 (by omega), E1 1 (by omega), E1 2 (by omega), show (3 + 2 : Nat) = 5 from rfl, ht 0 (by omega) (by omega), ht 1 (by omega) (by omega), ht 2 (by omega) (by omega), ht 3 (by omega) (by omega), ht 5 (by omega) (by omega), e1, e2]
  rw [E] at h1
  exact ⟨C2, A2, h1, h4, h2, h3, h5⟩
/-- the machine is thought of -/
theorem Inv.think {n : Nat} {C D : aw_M} (hI : Inv n C D) : ∃ C', fc_Ma_copyFrom 2 0 C = some C' ∧ TC C C' ∧ (∀ o, o ≠ 5 → C' o = C o) ∧ ∀ j, j < 6 → C' 5 j = D 1 (7 + j) := by
  obtain ⟨C', e, x, y⟩ := ma_cp (i0 := 2) (i1 := 0) (by decide) C
  exact ⟨C', e, fun o h _ => x o h, x, fun j hj => (y j hj).trans (hI.1 _ _ _ _ (lk_mach hj))⟩
theorem GV.x {L : Lw} {C C' : aw_M} {q : Nat} (g : GV L C q) (h : ∀ o, o ≠ 5 → C' o = C o) : GV L C' q := g.cg (h _ (by omega)) (by rw [h _ (by omega)]) (by rw [h _ (by omega)]) (by rw [h _ (by omega)]) (h _ (by omega))
