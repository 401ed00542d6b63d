theorem bi_n {β : Type} (r : Int32) (M : aw_M) (k : Int32 → aw_M → Option β) : aw_bi (some (r, M)) k = k r M := (fun h => h) (aw_bi_s r M k)
theorem bv_n {β : Type} (M : aw_M) (k : aw_M → Option β) : aw_bv (some M) k = k M := (fun h => h) (aw_bv_s M k)
theorem br_n {β : Type} (r : Nat) (M : aw_M) (k : Nat → aw_M → Option β) : aw_br (some (r, M)) k = k r M := (fun h => h) (aw_br_s r M k)
-- as
theorem k7 {d : Nat} (h : d ≤ 6) : d = 0 ∨ d = 1 ∨ d = 2 ∨ d = 3 ∨ d = 4 ∨ d = 5 ∨ d = 6 := by omega
def isa (k p : Nat) : Bool := k = p || p = 0 || (k = 4 && p = 1) || (k = 5 && p = 2) || (k = 6 && p = 3)
theorem isof_f (f : Nat) {k p : Nat} (hk : k ≤ 6) (hp : p ≤ 6) (M : aw_M) : fc_Cl_isOf_L7 (f + 4) (nI p) (nI k) 0 M = some (if isa k p = true then 1 else 0, M) := by
  rcases k7 hk with rfl | rfl | rfl | rfl | rfl | rfl | rfl <;> rcases k7 hp with rfl | rfl | rfl | rfl | rfl | rfl | rfl <;> rfl
theorem isof_c {k p : Nat} (hk : k ≤ 6) (hp : p ≤ 6) (M : aw_M) : fc_Cl_isOf_L7 2000 (nI p) (nI k) 0 M = some (if isa k p = true then 1 else 0, M) := isof_f 1996 hk hp M
theorem as_f (f : Nat) {i k p : Nat} (hk : k ≤ 6) (hp : p ≤ 6) (M : aw_M) : fm_as_L32 (f + 4) (nI i) (nI p) (nI k) M = if isa k p = true then fm_its (nI i) 1 M else aw_bi (fm_errs (-1000000005) M) fun r M => some (r, M) := by
  rcases k7 hk with rfl | rfl | rfl | rfl | rfl | rfl | rfl <;> rcases k7 hp with rfl | rfl | rfl | rfl | rfl | rfl | rfl <;> rfl
theorem as_m {i k p : Nat} (hk : k ≤ 6) (hp : p ≤ 6) (M : aw_M) : fm_as_L32 2000 (nI i) (nI p) (nI k) M = if isa k p = true then fm_its (nI i) 1 M else aw_bi (fm_errs (-1000000005) M) fun r M => some (r, M) := as_f 1996 hk hp M
theorem bi_id (x : Option (Int32 × aw_M)) : (aw_bi x fun r M => some (r, M)) = x := by
  cases x with
  | none => rfl
  | some y => rfl
theorem Inv.kind {n : Nat} {C D : aw_M} (hI : Inv n C D) {i : Nat} (hi : i < 6) : ∃ k, k ≤ 6 ∧ D 1 (13 + 5 * i + 0) = nI k ∧ C (14 + i) 0 = nI k := by
  have R := cl_rg hI.row hi (j := 0) (by omega)
  obtain ⟨k, hk, e⟩ := nat_of (n := 6) (by omega) R.1 R.2
  exact ⟨k, hk, e, (hI.1 _ _ _ _ (lk_cl hi (by omega))).trans e⟩
theorem eq_as (a b : Int32) : op_ok Inv (fc_LB_as a b) (fm_as a b) := by
  intro n C D hn hI
  rcases (Classical.em (okC a D)).symm with h | h
  · exact go1 hI (sb (hc_c hI a) (sp (if_neg h) rfl)) (sb (ic_m a D) (sp (if_neg h) rfl))
  obtain ⟨i, hi, rfl, -⟩ := hI.ok h
  have c1 : (nI i).toNatClampNeg = i := nI_clamp (by omega)
  have hin := ni_f (k := i) (N := 6) hi (by omega)
  simp only [fc_LB_as, fm_as, hc_c hI, ic_m, if_pos h, aw_bi_s, i10, if_false]
  rcases (Classical.em (0 ≤ b ∧ b ≤ 6)).symm with hb | hb
  · rw [in_n hb, r_noL 6 hb]; exact er1 hI
  rw [in_y hb, r_yesL 6 hb]
  obtain ⟨p, -, hp, rfl⟩ := rng 0 6 hb
  obtain ⟨k, hk, e, e'⟩ := hI.kind hi
  simp only [aw_bi_s, i10, if_false, hin, c1, its_0 hi, fc_Cl_isOf, e, e', isof_c hk hp, as_m hk hp, its_1 hi]
  by_cases q : isa k p = true
  · simp only [if_pos q, i10, if_false]
    exact go0e hI rfl rfl (hI.1 _ _ _ _ (lk_cl hi (by omega)))
  · simp only [if_neg q, i00, if_true, bi_id]
    exact er5 hI
-- count
theorem yards_l {m : Nat} (hm : m ≤ 6) : ∀ (d i f : Nat) (s : Int32) (C D : aw_M), i + d = m → d < f → C 1 5 = nI m → D 1 2 = nI m → (∀ i, i < 6 → C (14 + i) 3 = D 1 (13 + 5 * i + 3)) → ∃ x, fc_St_allYards_L4 f s (nI i) C = some (x, C) ∧ fm_sumOf_L4 f 3 s (nI i) D = some (x, D) := by
  intro d
  induction d with
  | zero =>
    intro i f s C D h hf e e' E
    obtain ⟨f, rfl⟩ : ∃ g, f = g + 1 := ⟨f - 1, by omega⟩
    refine ⟨s, ?_, ?_⟩
    · rw [fc_St_allYards_L4_s, if_pos (by rw [e]; exact nI_le (by omega) (by omega))]
    · rw [fm_sumOf_L4_s, if_pos (by rw [e']; exact nI_le (by omega) (by omega))]
  | succ d ih =>
    intro i f s C D h hf e e' E
    obtain ⟨f, rfl⟩ : ∃ g, f = g + 1 := ⟨f - 1, by omega⟩
    obtain ⟨x, h1, h2⟩ := ih (i + 1) f (s + C (14 + i) 3) C D (by omega) (by omega) e e' E
    refine ⟨x, ?_, ?_⟩
    · rw [fc_St_allYards_L4_s, if_neg (by rw [e]; exact nI_ge (by omega) (by omega)), if_neg (nI_in (by omega) (by omega)), nI_clamp (by omega), nI_1]; exact h1
    · rw [fm_sumOf_L4_s, if_neg (by rw [e']; exact nI_ge (by omega) (by omega)), its_3 (by omega), aw_bi_s, nI_1, ← E i (by omega)]; exact h2
theorem spoilt_l {m : Nat} (hm : m ≤ 6) : ∀ (d i f : Nat) (s : Int32) (C D : aw_M), i + d = m → d < f → C 1 5 = nI m → D 1 2 = nI m → (∀ i, i < 6 → C (14 + i) 4 = D 1 (13 + 5 * i + 4)) → ∃ x, fc_St_allSpoilt_L4 f s (nI i) C = some (x, C) ∧ fm_sumOf_L4 f 4 s (nI i) D = some (x, D) := by
  intro d
  induction d with
  | zero =>
    intro i f s C D h hf e e' E
    obtain ⟨f, rfl⟩ : ∃ g, f = g + 1 := ⟨f - 1, by omega⟩
    refine ⟨s, ?_, ?_⟩
    · rw [fc_St_allSpoilt_L4_s, if_pos (by rw [e]; exact nI_le (by omega) (by omega))]
    · rw [fm_sumOf_L4_s, if_pos (by rw [e']; exact nI_le (by omega) (by omega))]
  | succ d ih =>
    intro i f s C D h hf e e' E
    obtain ⟨f, rfl⟩ : ∃ g, f = g + 1 := ⟨f - 1, by omega⟩
    obtain ⟨x, h1, h2⟩ := ih (i + 1) f (s + C (14 + i) 4) C D (by omega) (by omega) e e' E
    refine ⟨x, ?_, ?_⟩
    · rw [fc_St_allSpoilt_L4_s, if_neg (by rw [e]; exact nI_ge (by omega) (by omega)), if_neg (nI_in (by omega) (by omega)), nI_clamp (by omega), nI_1]; exact h1
    · rw [fm_sumOf_L4_s, if_neg (by rw [e']; exact nI_ge (by omega) (by omega)), its_4 (by omega), aw_bi_s, nI_1, ← E i (by omega)]; exact h2
theorem eq_count (a : Int32) : op_ok Inv (fc_LB_count a) (fm_count a) := by
  intro n C D hn hI
  obtain ⟨m, hm, e, e'⟩ := hI.many
  by_cases h0 : a = 0
  · subst h0; exact go0e hI rfl rfl (hI.1 _ _ _ _ lk_cnt)
  by_cases h1 : a = 1
  · subst h1; exact go0e hI rfl rfl (hI.1 _ _ _ _ lk_sec)
  by_cases h2 : a = 2
  · subst h2
    obtain ⟨x, g1, g2⟩ := yards_l hm m 0 2000 0 C D (by omega) (by omega) e' e (fun i hi => hI.1 _ _ _ _ (lk_cl hi (by omega)))
    rw [nI_0] at g1 g2
    refine go0e hI (r := x) (r' := x) ?_ ?_ rfl
    · unfold fc_LB_count fc_St_allYards; rw [if_neg (by decide), if_neg (by decide), if_pos rfl]; exact g1
    · unfold fm_count fm_sumOf; rw [if_neg (by decide), if_neg (by decide), if_pos rfl]; exact g2
  by_cases h3 : a = 3
  · subst h3
    obtain ⟨x, g1, g2⟩ := spoilt_l hm m 0 2000 0 C D (by omega) (by omega) e' e (fun i hi => hI.1 _ _ _ _ (lk_cl hi (by omega)))
    rw [nI_0] at g1 g2
    refine go0e hI (r := x) (r' := x) ?_ ?_ rfl
    · unfold fc_LB_count fc_St_allSpoilt; rw [if_neg (by decide), if_neg (by decide), if_neg (by decide), if_pos rfl]; exact g1
    · unfold fm_count fm_sumOf; rw [if_neg (by decide), if_neg (by decide), if_neg (by decide), if_pos rfl]; exact g2
  by_cases h4 : a = 4
  · subst h4; exact go0e hI rfl rfl (hI.1 _ _ _ _ lk_tl)
  by_cases h5 : a = 5
  · subst h5; exact go0e hI rfl rfl (hI.1 _ _ _ _ lk_wc)
  by_cases h6 : a = 6
  · subst h6; exact go0e hI rfl rfl (hI.1 _ _ _ _ lk_trl)
  by_cases h7 : a = 7
  · subst h7; exact go0e hI rfl rfl (hI.1 _ _ _ _ lk_z)
  simp only [fc_LB_count, fm_count, if_neg h0, if_neg h1, if_neg h2, if_neg h3, if_neg h4, if_neg h5, if_neg h6, if_neg h7]
  exact er1 hI
-- thicks
theorem min_n {a b : Nat} (ha : a < 2 ^ 31) (hb : b < 2 ^ 31) : aw_min (nI a) (nI b) = nI (min a b) := by
  unfold aw_min
  by_cases h : b < a
  · rw [if_pos (nI_lt h ha), Nat.min_eq_right (by omega)]
  · rw [if_neg (nI_nlt (by omega) hb), Nat.min_eq_left (by omega)]
theorem thicks_l {s m l : Nat} (hs : s < 4) (hm : m ≤ 6) (hl : l ≤ 40) : ∀ (d i f n : Nat) (C D : aw_M), i + d = min l m → d < f → Inv n C D → D 1 2 = nI m → D 7 s = nI l → ∃ r C1 D1, fc_LB_thicks_L51 f s (nI (min l m)) (nI i) C = some (r, C1) ∧ fm_thicks_L32 f (nI s) (nI i) D = some (r, D1) ∧ Inv n C1 D1 := by
  intro d
  induction d with
  | zero =>
    intro i f n C D h hf hI e e'
    obtain ⟨f, rfl⟩ : ∃ g, f = g + 1 := ⟨f - 1, by omega⟩
    refine ⟨nI (min l m), C, D, ?_, ?_, hI⟩
    · rw [fc_LB_thicks_L51_s, if_pos (nI_le (by omega) (by omega))]
    · rw [fm_thicks_L32_s, if_neg (nI_in hs (by omega)), nI_clamp (by omega), e']
      by_cases c : l ≤ m
      · rw [if_pos (nI_le (by omega) (by omega)), show i = min l m by omega]
      · rw [if_neg (nI_ge (by omega) (by omega)), ic_m, if_neg, aw_bi_s, if_pos rfl, show i = min l m by omega]
        rw [okC_i hm e]
        rintro ⟨j, hj, ej⟩
        rw [nI_eq (by omega) (by omega)] at ej
        omega
  | succ d ih =>
    intro i f n C D h hf hI e e'
    obtain ⟨f, rfl⟩ : ∃ g, f = g + 1 := ⟨f - 1, by omega⟩
    have hk : okC (nI i) D := (okC_i hm e).mpr ⟨i, by omega, rfl⟩
    have E : C (63 + s) i = D 8 (40 * s + i) := hI.1 _ _ _ _ (lk_num hs (by omega))
    rw [fc_LB_thicks_L51_s, fm_thicks_L32_s]
    have a1 := ni_f (k := s) (N := 4) hs (by omega)
    have a2 := ni_f (k := i) (N := 40) (by omega) (by omega)
    have a3 := ni_f (k := i) (N := 6) (by omega) (by omega)
    have a4 := ni_f (k := 40 * s + i) (N := 160) (by omega) (by omega)
    have c1 : (nI s).toNatClampNeg = s := nI_clamp (by omega)
    have c2 : (nI i).toNatClampNeg = i := nI_clamp (by omega)
    have c3 : (nI (40 * s + i)).toNatClampNeg = 40 * s + i := nI_clamp (by omega)
    simp only [if_neg (nI_ge (show i < min l m by omega) (by omega)), if_neg (nI_ge (show i < l by omega) (by omega)), a1, a2, a3, a4, if_false, c1, c2, c3, n40 hs (show i < 40 by omega), e', ic_m, if_pos hk, aw_bi_s, i10, dg_c, E, nI_1]
    by_cases hv : 0 ≤ D 8 (40 * s + i) ∧ D 8 (40 * s + i) ≤ 9
    · simp only [if_pos hv, in_y hv, aw_bi_s, i10, if_false, gets_2 (show i < 6 by omega), aw_bv_s]
      exact ih (i + 1) f n _ _ (by omega) (by omega) (hI.cl (j := 2) (by omega) (by omega) (Rb_le hv)) (by rw [aw_u_j 1 (by omega)]; exact e) (by rw [aw_u_o s (by decide)]; exact e')
    · simp only [if_neg hv, in_n hv, aw_bi_s, i00, if_true]
      exact ⟨_, _, _, rfl, rfl, hI⟩
theorem eq_thicks (a : Int32) : op_ok Inv (fc_LB_thicks a) (fm_thicks a) := by
  intro n C D hn hI
  rcases (Classical.em (0 ≤ a ∧ a ≤ 3)).symm with h | h
  · exact go1 hI (sb (sh_c a C) (sp (if_neg h) rfl)) (sb (sh_m a D) (sp (if_neg h) rfl))
  obtain ⟨s, -, hs, rfl⟩ := rng 0 3 h
  have hs : s < 4 := by omega
  obtain ⟨e1, e2, l, hl, e3⟩ := shs_b hI hs
  obtain ⟨m, hm, e, e'⟩ := hI.many
  have c1 : (nI s).toNatClampNeg = s := nI_clamp (by omega)
  have hin := ni_f (k := s) (N := 4) hs (by omega)
  simp only [fc_LB_thicks, fm_thicks, sh_c, sh_m, if_pos h, bi_n, i10, if_false, hin, c1, fc_Sh_isMissing, e1]
  by_cases h0 : D 6 s = 0
  · simp only [if_pos h0, bi_n, i10, if_false]; exact er2 hI
  simp only [if_neg h0, bi_n, i00, if_true, e2, e3, e', min_n (show l < 2 ^ 31 by omega) (show m < 2 ^ 31 by omega)]
  obtain ⟨r, C1, D1, g1, g2, g3⟩ := thicks_l hs hm hl (min l m) 0 2000 n C D (by omega) (by omega) hI e e3
  rw [nI_0] at g1 g2
  exact go0e g3 g1 g2 rfl
-- rows moved
theorem moveAll_l {a b : Nat} (hab : a ≠ b) : ∀ (d i f : Nat) (M : aw_M), i + d = 213 → d < f → fm_moveAll_L2 f a b (nI i) M = some (aw_un M b (fun k => if i ≤ k ∧ k < 213 then M a k else M b k)) := by
  intro d
  induction d with
  | zero =>
    intro i f M h hf
    obtain ⟨f, rfl⟩ : ∃ g, f = g + 1 := ⟨f - 1, by omega⟩
    rw [fm_moveAll_L2_s, if_pos (show (213 : Int32) ≤ nI i from nI_le (a := 213) (by omega) (by omega))]
    congr 1
    rw [show (fun k => if i ≤ k ∧ k < 213 then M a k else M b k) = M b from funext fun k => if_neg (by omega)]
    exact (aw_un_e M b).symm
  | succ d ih =>
    intro i f M h hf
    obtain ⟨f, rfl⟩ : ∃ g, f = g + 1 := ⟨f - 1, by omega⟩
    have a2 := ni_f (k := i) (N := 213) (by omega) (by omega)
    rw [fm_moveAll_L2_s]
    simp only [if_neg (show ¬ (213 : Int32) ≤ nI i from nI_ge (b := 213) (by omega) (by omega)), a2, if_false, nI_1, nI_clamp (show i < 2 ^ 31 by omega)]
    rw [ih (i + 1) f _ (by omega) (by omega)]
    congr 1
    show aw_un (aw_un M b _) b _ = _
    rw [aw_un_un]
    congr 1
    funext k
    rw [aw_u_o (a := a) k hab, aw_u_if]
    by_cases c : k = i
    · subst c; rw [if_neg (by omega), if_pos ⟨rfl, rfl⟩, if_pos (by omega)]
    · rw [if_neg (show ¬ (b = b ∧ k = i) from fun q => c q.2)]
      by_cases c2 : i + 1 ≤ k ∧ k < 213
      · rw [if_pos c2, if_pos (by omega)]
      · rw [if_neg c2, if_neg (by omega)]
theorem moveAll_m {a b : Nat} (hab : a ≠ b) (M : aw_M) : fm_moveAll a b M = some (aw_un M b (fun k => if k < 213 then M a k else M b k)) := by
  have := moveAll_l hab 213 0 2000 M (by omega) (by omega)
  rw [nI_0] at this
  simp only [Nat.zero_le, true_and] at this
  exact this
