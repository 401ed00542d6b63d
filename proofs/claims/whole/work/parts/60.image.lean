-- copies
def cf (o o' j : Nat) (M : aw_M) : aw_M := aw_u M o j (M o' j)
theorem cf_o {o o' j x : Nat} {M : aw_M} (h : x ≠ o) : cf o o' j M x = M x := aw_u_row h
theorem cf_s {o o' j : Nat} {M : aw_M} : cf o o' j M o j = M o' j := aw_u_s _ _ _ _
theorem cf_k {o o' j k : Nat} {M : aw_M} (h : k ≠ j) : cf o o' j M o k = M o k := aw_u_j o h
theorem ma_cp {i0 i1 : Nat} (h : i0 ≠ i1) (M : aw_M) : ∃ M', fc_Ma_copyFrom i0 i1 M = some M' ∧ (∀ x, x ≠ 3 + i0 → M' x = M x) ∧ ∀ j, j < 6 → M' (3 + i0) j = M (3 + i1) j := by
  have h' : 3 + i1 ≠ 3 + i0 := by omega
  refine ⟨cf (3 + i0) (3 + i1) 5 (cf (3 + i0) (3 + i1) 4 (cf (3 + i0) (3 + i1) 3 (cf (3 + i0) (3 + i1) 2 (cf (3 + i0) (3 + i1) 1 (cf (3 + i0) (3 + i1) 0 M))))), rfl, fun x hx => ?_, fun j hj => ?_⟩
  · rw [cf_o hx, cf_o hx, cf_o hx, cf_o hx, cf_o hx, cf_o hx]
  · rcases (show j = 0 ∨ j = 1 ∨ j = 2 ∨ j = 3 ∨ j = 4 ∨ j = 5 by omega) with rfl | rfl | rfl | rfl | rfl | rfl
    · rw [cf_k (show 0 ≠ 5 by decide), cf_k (show 0 ≠ 4 by decide), cf_k (show 0 ≠ 3 by decide), cf_k (show 0 ≠ 2 by decide), cf_k (show 0 ≠ 1 by decide), cf_s]
    · rw [cf_k (show 1 ≠ 5 by decide), cf_k (show 1 ≠ 4 by decide), cf_k (show 1 ≠ 3 by decide), cf_k (show 1 ≠ 2 by decide), cf_s, cf_o h']
    · rw [cf_k (show 2 ≠ 5 by decide), cf_k (show 2 ≠ 4 by decide), cf_k (show 2 ≠ 3 by decide), cf_s, cf_o h', cf_o h']
    · rw [cf_k (show 3 ≠ 5 by decide), cf_k (show 3 ≠ 4 by decide), cf_s, cf_o h', cf_o h', cf_o h']
    · rw [cf_k (show 4 ≠ 5 by decide), cf_s, cf_o h', cf_o h', cf_o h', cf_o h']
    · rw [cf_s, cf_o h', cf_o h', cf_o h', cf_o h', cf_o h']
theorem cl_cp {i0 i1 : Nat} (h : i0 ≠ i1) (M : aw_M) : ∃ M', fc_Cl_copyFrom i0 i1 M = some M' ∧ (∀ x, x ≠ 14 + i0 → M' x = M x) ∧ ∀ j, j < 5 → M' (14 + i0) j = M (14 + i1) j := by
  have h' : 14 + i1 ≠ 14 + i0 := by omega
  refine ⟨cf (14 + i0) (14 + i1) 4 (cf (14 + i0) (14 + i1) 3 (cf (14 + i0) (14 + i1) 2 (cf (14 + i0) (14 + i1) 1 (cf (14 + i0) (14 + i1) 0 M)))), rfl, fun x hx => ?_, fun j hj => ?_⟩
  · rw [cf_o hx, cf_o hx, cf_o hx, cf_o hx, cf_o hx]
  · rcases (show j = 0 ∨ j = 1 ∨ j = 2 ∨ j = 3 ∨ j = 4 by omega) with rfl | rfl | rfl | rfl | rfl
    · rw [cf_k (show 0 ≠ 4 by decide), cf_k (show 0 ≠ 3 by decide), cf_k (show 0 ≠ 2 by decide), cf_k (show 0 ≠ 1 by decide), cf_s]
    · rw [cf_k (show 1 ≠ 4 by decide), cf_k (show 1 ≠ 3 by decide), cf_k (show 1 ≠ 2 by decide), cf_s, cf_o h']
    · rw [cf_k (show 2 ≠ 4 by decide), cf_k (show 2 ≠ 3 by decide), cf_s, cf_o h', cf_o h']
    · rw [cf_k (show 3 ≠ 4 by decide), cf_s, cf_o h', cf_o h', cf_o h']
    · rw [cf_s, cf_o h', cf_o h', cf_o h', cf_o h']
theorem hl50 : ∀ l, l ≤ 50 → hl (nI l) 0 (aw_min 50 50) = nI l := by decide +kernel
theorem take_c {i0 o1 l : Nat} (h1 : o1 ≠ 26 + i0) (hl : l ≤ 50) (hi : i0 < 4) (M : aw_M) : ∃ M', fc_La_take i0 o1 (nI l) M = some M' ∧ (∀ x, x ≠ 26 + i0 → x ≠ 30 + i0 → M' x = M x) ∧ M' (26 + i0) 2 = nI l ∧ ∀ k, k < l → M' (30 + i0) k = M o1 k := by
  have e : fc_La_take i0 o1 (nI l) M = some (aw_un (aw_u M (26 + i0) 2 (nI l)) (30 + i0) (va_cpy ((aw_u M (26 + i0) 2 (nI l)) o1) ((aw_u M (26 + i0) 2 (nI l)) (30 + i0)) (0 : Int32).toNatClampNeg (0 : Int32).toNatClampNeg l)) := by
    unfold fc_La_take
    rw [hl_c, hl50 l hl, aw_bi_s, aw_u_s, nI_clamp (by omega)]
    exact if_neg (fun q => q ⟨by decide, by decide, nI_pos (by omega), by rw [show (0 : Int32).toNatClampNeg = 0 by decide]; omega, by rw [show (0 : Int32).toNatClampNeg = 0 by decide]; omega⟩)
  refine ⟨_, e, fun x a b => ?_, ?_, fun k hk => ?_⟩
  · rw [aw_un_o b, aw_u_row a]
  · rw [aw_un_o (by omega), aw_u_s]
  · rw [aw_un_s, show (0 : Int32).toNatClampNeg = 0 by decide]
    unfold va_cpy
    rw [if_pos (by omega), aw_u_row h1, Nat.zero_add, Nat.sub_zero]
theorem LawR.st {u : Nat} {len sz : Int32} {st st' tx : Nat → Int32} (h : LawR u len st sz tx) (e : ∀ k : Nat, (k : Int) < len.toInt → st' k = st k) : LawR u len st' sz tx := by
  rcases h with h | ⟨h1, h2, f, h3, h4⟩
  · exact Or.inl h
  · exact Or.inr ⟨h1, h2, f, fun M i hi g1 g2 => h3 M i hi g1 (fun k hk => (g2 k hk).trans (e k hk)), h4⟩
theorem LawR.len {u : Nat} {len sz : Int32} {st tx : Nat → Int32} (h : LawR u len st sz tx) : ∃ l, l ≤ 50 ∧ len = nI l := by
  rcases h with h | ⟨h1, h2, f, h3, h4⟩
  · exact ⟨0, by omega, h.1⟩
  · exact nat_of (n := 50) (by omega) (by have := h1.1; omega) h1.2
theorem Lk_12 {o j b : Nat} (h : Lk o j 1 b) : (o = 3 ∧ j < 6 ∧ LkK 4 j b) ∨ (o = 1 ∧ 5 ≤ j ∧ j ≤ 9 ∧ LkK 2 j b) ∨ (∃ i, i < 6 ∧ o = 14 + i ∧ j < 5 ∧ LkK (20 + i) j b) ∨ (o = 12 ∧ j < 20 ∧ LkK 13 j b) := by
  unfold Lk at h
  rcases h with h | h | h | h | h | h | h | h | h | h | h | h | h | h | h | h | h | h | h | h | h | h | h
  · refine Or.inl ⟨h.1, h.2.2.1, ?_⟩; unfold LkK; omega
  · refine Or.inr (Or.inl ⟨h.1, by omega, by omega, ?_⟩); unfold LkK; omega
  · refine Or.inr (Or.inl ⟨h.1, by omega, by omega, ?_⟩); unfold LkK; omega
  · refine Or.inr (Or.inl ⟨h.1, by omega, by omega, ?_⟩); unfold LkK; omega
  · refine Or.inr (Or.inl ⟨h.1, by omega, by omega, ?_⟩); unfold LkK; omega
  · refine Or.inr (Or.inl ⟨h.1, by omega, by omega, ?_⟩); unfold LkK; omega
  · refine Or.inr (Or.inr (Or.inl ⟨o - 14, by omega, by omega, by omega, ?_⟩)); unfold LkK; omega
  · refine Or.inr (Or.inr (Or.inr ⟨h.1, h.2.2.1, ?_⟩)); unfold LkK; omega
  all_goals omega
theorem Lk_21 {o j b : Nat} (h : LkK o j b) : b < 213 ∧ ((o = 4 ∧ j < 6 ∧ Lk 3 j 1 b) ∨ (o = 2 ∧ 5 ≤ j ∧ j ≤ 9 ∧ Lk 1 j 1 b) ∨ (∃ i, i < 6 ∧ o = 20 + i ∧ j < 5 ∧ Lk (14 + i) j 1 b) ∨ (o = 13 ∧ j < 20 ∧ Lk 12 j 1 b)) := by
  unfold LkK at h
  refine ⟨by omega, ?_⟩
  rcases h with ⟨rfl, h1, rfl⟩ | ⟨rfl, rfl, rfl⟩ | ⟨rfl, rfl, rfl⟩ | ⟨rfl, rfl, rfl⟩ | ⟨rfl, rfl, rfl⟩ | ⟨rfl, rfl, rfl⟩ | ⟨h1, h2, h3, rfl⟩ | ⟨rfl, h1, rfl⟩
  · exact Or.inl ⟨rfl, h1, lk_mach h1⟩
  · exact Or.inr (Or.inl ⟨rfl, by omega, by omega, lk_cnt⟩)
  · exact Or.inr (Or.inl ⟨rfl, by omega, by omega, lk_tl⟩)
  · exact Or.inr (Or.inl ⟨rfl, by omega, by omega, lk_wc⟩)
  · exact Or.inr (Or.inl ⟨rfl, by omega, by omega, lk_sec⟩)
  · exact Or.inr (Or.inl ⟨rfl, by omega, by omega, lk_z⟩)
  · exact Or.inr (Or.inr (Or.inl ⟨o - 20, by omega, by omega, h3, lk_cl (by omega) h3⟩))
  · exact Or.inr (Or.inr (Or.inr ⟨rfl, h1, lk_wt h1⟩))
theorem Lk_o {o j a b : Nat} (h : Lk o j a b) : (a = 1 → o = 1 ∨ o = 3 ∨ o = 12 ∨ (14 ≤ o ∧ o < 20)) ∧ (a ≠ 1 → o ≠ 1 ∧ o ≠ 3 ∧ o ≠ 12 ∧ ¬ (14 ≤ o ∧ o < 20)) ∧ (a ≠ 2 → o ≠ 2 ∧ o ≠ 4 ∧ o ≠ 13 ∧ ¬ (20 ≤ o ∧ o < 26)) ∧ ¬ (26 ≤ o ∧ o < 34) ∧ o ≠ 10 ∧ o ≠ 11 ∧ ((a = 1 ∨ a = 2) → b < 213) ∧ (a = 0 → b = 5 ∧ o = 0 ∨ b = 23) := by
  unfold Lk at h
  rcases h with h | h | h | h | h | h | h | h | h | h | h | h | h | h | h | h | h | h | h | h | h | h | h <;> omega

theorem cp_12_l : ∀ (d i f : Nat) (M : aw_M), i + d = 6 → d < f → ∃ (g : Nat) (M' : aw_M), fc_St_copyFrom_12_L13 f (nI i) M = fc_St_copyFrom_12_L13 (g + 1) 6 M' ∧ (∀ x, ¬ (14 + i ≤ x ∧ x < 14 + 6) → M' x = M x) ∧ ∀ k j, i ≤ k → k < 6 → j < 5 → M' (14 + k) j = M (20 + k) j := by
  intro d
  induction d with
  | zero =>
    intro i f M h hf
    obtain ⟨f, rfl⟩ : ∃ g, f = g + 1 := ⟨f - 1, by omega⟩
    obtain rfl : i = 6 := by omega
    exact ⟨f, M, rfl, fun _ _ => rfl, fun k j a b => by omega⟩
  | succ d ih =>
    intro i f M h hf
    obtain ⟨f, rfl⟩ : ∃ g, f = g + 1 := ⟨f - 1, by omega⟩
    obtain ⟨M1, e1, x1, y1⟩ := cl_cp (i0 := i) (i1 := 6 + i) (by omega) M
    obtain ⟨g, M', e2, x2, y2⟩ := ih (i + 1) f M1 (by omega) (by omega)
    refine ⟨g, M', ?_, fun x hx => ?_, fun k j a b c => ?_⟩
    · rw [fc_St_copyFrom_12_L13_s]
      simp only [if_neg (show ¬ (6 : Int32) ≤ nI i from nI_ge (b := 6) (by omega) (by omega)), ni_f (show i < 6 by omega) (by omega), if_false, nI_clamp (show i < 2 ^ 31 by omega), e1, bv_n, nI_1, e2]
    · rw [x2 x (by omega), x1 x (by omega)]
    · by_cases q : k = i
      · subst q
        rw [x2 _ (by omega), y1 j c, ← Nat.add_assoc]
      · rw [y2 k j (by omega) b c, x1 _ (by omega)]
def tA_12 (M : aw_M) : aw_M := aw_un M 10 (va_cpy (M 11) (M 10) (0 : Int32).toNatClampNeg (0 : Int32).toNatClampNeg (50 : Int32).toNatClampNeg)
def tB_12 (M : aw_M) : aw_M := aw_un M 12 (va_cpy (M 13) (M 12) (0 : Int32).toNatClampNeg (0 : Int32).toNatClampNeg (20 : Int32).toNatClampNeg)
theorem cp_12 (C : aw_M) {l0 l1 : Nat} (h0 : C 28 2 = nI l0) (h1 : C 29 2 = nI l1) (b0 : l0 ≤ 50) (b1 : l1 ≤ 50) (hf : ∀ k, k < 50 → fits .byte (.int (C 11 k)) = true) : ∃ C', fc_St_copyFrom_12 C = some C' ∧
    (∀ j, j < 6 → C' 3 j = C 4 j) ∧ (∀ i j, i < 6 → j < 5 → C' (14 + i) j = C (20 + i) j) ∧ C' 26 2 = C 28 2 ∧ C' 27 2 = C 29 2 ∧ (∀ k, k < l0 → C' 30 k = C 32 k) ∧ (∀ k, k < l1 → C' 31 k = C 33 k) ∧
    (∀ k, k < 50 → C' 10 k = C 11 k) ∧ (∀ k, k < 20 → C' 12 k = C 13 k) ∧ (∀ j, 5 ≤ j → j ≤ 9 → C' 1 j = C 2 j) ∧
    ∀ o, o ≠ 1 → o ≠ 3 → o ≠ 10 → o ≠ 12 → o ≠ 26 → o ≠ 27 → o ≠ 30 → o ≠ 31 → ¬ (14 ≤ o ∧ o < 14 + 6) → C' o = C o := by
  obtain ⟨M1, e1, x1, y1⟩ := ma_cp (i0 := 0) (i1 := 1) (by decide) C
  obtain ⟨g, M2, e2, x2, y2⟩ := cp_12_l 6 0 2000 M1 (by omega) (by omega)
  have L0 : M2 28 2 = nI l0 := by rw [x2 _ (by omega), x1 _ (by decide)]; exact h0
  obtain ⟨M5, e5, x5, z5, y5⟩ := take_c (i0 := 0) (o1 := 32) (l := l0) (by decide) b0 (by decide) M2
  have L1 : M5 29 2 = nI l1 := by rw [x5 _ (by decide) (by decide), x2 _ (by omega), x1 _ (by decide)]; exact h1
  obtain ⟨M7, e7, x7, z7, y7⟩ := take_c (i0 := 1) (o1 := 33) (l := l1) (by decide) b1 (by decide) M5
  have T7 : ∀ k, M7 11 k = C 11 k := fun k => by rw [x7 _ (by decide) (by decide), x5 _ (by decide) (by decide), x2 _ (by omega), x1 _ (by decide)]
  have R : ∀ o, o ≠ 1 → o ≠ 10 → o ≠ 12 → (cf 1 2 9 (cf 1 2 8 (cf 1 2 7 (cf 1 2 6 (cf 1 2 5 (tB_12 (tA_12 M7))))))) o = M7 o := fun o a b c => by
    rw [cf_o a, cf_o a, cf_o a, cf_o a, cf_o a]
    unfold tB_12 tA_12
    rw [aw_un_o c, aw_un_o b]
  refine ⟨cf 1 2 9 (cf 1 2 8 (cf 1 2 7 (cf 1 2 6 (cf 1 2 5 (tB_12 (tA_12 M7)))))), ?_, fun j hj => ?_, fun i j hi hj => ?_, ?_, ?_, fun k hk => ?_, fun k hk => ?_, fun k hk => ?_, fun k hk => ?_, fun j a b => ?_, fun o o1 o2 o3 o4 o5 o6 o7 o8 o9 => ?_⟩
  · unfold fc_St_copyFrom_12
    rw [e1, aw_bv_s]
    rw [nI_0] at e2
    have F : ∀ j, j < (50 : Int32).toNatClampNeg → fits .byte (.int (M7 11 ((0 : Int32).toNatClampNeg + j))) = true := fun j hj => by
      rw [show (0 : Int32).toNatClampNeg + j = j by rw [show (0 : Int32).toNatClampNeg = 0 by decide]; omega, T7]
      exact hf j hj
    rw [e2, fc_St_copyFrom_12_L13_s, if_pos (by decide), L0, e5, aw_bv_s, L1, e7, aw_bv_s, if_neg (by decide), if_neg (fun q => q F), if_neg (by decide)]
    rfl
  · rw [R _ (by decide) (by decide) (by decide), x7 _ (by decide) (by decide), x5 _ (by decide) (by decide), x2 _ (by omega)]; exact y1 j hj
  · rw [R _ (by omega) (by omega) (by omega), x7 _ (by omega) (by omega), x5 _ (by omega) (by omega), y2 i j (by omega) hi hj, x1 _ (by omega)]
  · rw [R _ (by decide) (by decide) (by decide), x7 _ (by decide) (by decide), h0]; exact z5
  · rw [R _ (by decide) (by decide) (by decide), h1]; exact z7
  · rw [R _ (by decide) (by decide) (by decide), x7 _ (by decide) (by decide)]
    refine (y5 k hk).trans ?_
    rw [x2 _ (by omega), x1 _ (by decide)]
  · rw [R _ (by decide) (by decide) (by decide)]
    refine (y7 k hk).trans ?_
    rw [x5 _ (by decide) (by decide), x2 _ (by omega), x1 _ (by decide)]
  · rw [cf_o (by decide), cf_o (by decide), cf_o (by decide), cf_o (by decide), cf_o (by decide)]
    unfold tB_12 tA_12
    rw [aw_un_o (by decide), aw_un_s]
    unfold va_cpy
    rw [show (0 : Int32).toNatClampNeg = 0 by decide, show (50 : Int32).toNatClampNeg = 50 by decide, if_pos (by omega), Nat.zero_add, Nat.sub_zero, T7]
  · rw [cf_o (by decide), cf_o (by decide), cf_o (by decide), cf_o (by decide), cf_o (by decide)]
    unfold tB_12
    rw [aw_un_s]
    unfold va_cpy tA_12
    rw [show (0 : Int32).toNatClampNeg = 0 by decide, show (20 : Int32).toNatClampNeg = 20 by decide, if_pos (by omega), Nat.zero_add, Nat.sub_zero, aw_un_o (by decide), x7 _ (by decide) (by decide), x5 _ (by decide) (by decide), x2 _ (by omega), x1 _ (by decide)]
  · have S : ∀ j, (tB_12 (tA_12 M7)) 2 j = C 2 j := fun j => by
      unfold tB_12 tA_12
      rw [aw_un_o (by decide), aw_un_o (by decide), x7 _ (by decide) (by decide), x5 _ (by decide) (by decide), x2 _ (by omega), x1 _ (by decide)]
    rcases (show j = 5 ∨ j = 6 ∨ j = 7 ∨ j = 8 ∨ j = 9 by omega) with rfl | rfl | rfl | rfl | rfl
    · rw [cf_k (show 5 ≠ 9 by decide), cf_k (show 5 ≠ 8 by decide), cf_k (show 5 ≠ 7 by decide), cf_k (show 5 ≠ 6 by decide), cf_s, S]
    · rw [cf_k (show 6 ≠ 9 by decide), cf_k (show 6 ≠ 8 by decide), cf_k (show 6 ≠ 7 by decide), cf_s, cf_o (by decide), S]
    · rw [cf_k (show 7 ≠ 9 by decide), cf_k (show 7 ≠ 8 by decide), cf_s, cf_o (by decide), cf_o (by decide), S]
    · rw [cf_k (show 8 ≠ 9 by decide), cf_s, cf_o (by decide), cf_o (by decide), cf_o (by decide), S]
    · rw [cf_s, cf_o (by decide), cf_o (by decide), cf_o (by decide), cf_o (by decide), S]
  · rw [R o o1 o3 o4, x7 o o6 o8, x5 o o5 o7, x2 o (by omega), x1 o o2]
theorem cp_21_l : ∀ (d i f : Nat) (M : aw_M), i + d = 6 → d < f → ∃ (g : Nat) (M' : aw_M), fc_St_copyFrom_21_L13 f (nI i) M = fc_St_copyFrom_21_L13 (g + 1) 6 M' ∧ (∀ x, ¬ (20 + i ≤ x ∧ x < 20 + 6) → M' x = M x) ∧ ∀ k j, i ≤ k → k < 6 → j < 5 → M' (20 + k) j = M (14 + k) j := by
  intro d
  induction d with
  | zero =>
    intro i f M h hf
    obtain ⟨f, rfl⟩ : ∃ g, f = g + 1 := ⟨f - 1, by omega⟩
    obtain rfl : i = 6 := by omega
    exact ⟨f, M, rfl, fun _ _ => rfl, fun k j a b => by omega⟩
  | succ d ih =>
    intro i f M h hf
    obtain ⟨f, rfl⟩ : ∃ g, f = g + 1 := ⟨f - 1, by omega⟩
    obtain ⟨M1, e1, x1, y1⟩ := cl_cp (i0 := 6 + i) (i1 := i) (by omega) M
    obtain ⟨g, M', e2, x2, y2⟩ := ih (i + 1) f M1 (by omega) (by omega)
    refine ⟨g, M', ?_, fun x hx => ?_, fun k j a b c => ?_⟩
    · rw [fc_St_copyFrom_21_L13_s]
      simp only [if_neg (show ¬ (6 : Int32) ≤ nI i from nI_ge (b := 6) (by omega) (by omega)), ni_f (show i < 6 by omega) (by omega), if_false, nI_clamp (show i < 2 ^ 31 by omega), e1, bv_n, nI_1, e2]
    · rw [x2 x (by omega), x1 x (by omega)]
    · by_cases q : k = i
      · subst q
        rw [x2 _ (by omega)]
        have := y1 j c; rw [← Nat.add_assoc] at this; exact this
      · rw [y2 k j (by omega) b c, x1 _ (by omega)]
def tA_21 (M : aw_M) : aw_M := aw_un M 11 (va_cpy (M 10) (M 11) (0 : Int32).toNatClampNeg (0 : Int32).toNatClampNeg (50 : Int32).toNatClampNeg)
def tB_21 (M : aw_M) : aw_M := aw_un M 13 (va_cpy (M 12) (M 13) (0 : Int32).toNatClampNeg (0 : Int32).toNatClampNeg (20 : Int32).toNatClampNeg)
theorem cp_21 (C : aw_M) {l0 l1 : Nat} (h0 : C 26 2 = nI l0) (h1 : C 27 2 = nI l1) (b0 : l0 ≤ 50) (b1 : l1 ≤ 50) (hf : ∀ k, k < 50 → fits .byte (.int (C 10 k)) = true) : ∃ C', fc_St_copyFrom_21 C = some C' ∧
    (∀ j, j < 6 → C' 4 j = C 3 j) ∧ (∀ i j, i < 6 → j < 5 → C' (20 + i) j = C (14 + i) j) ∧ C' 28 2 = C 26 2 ∧ C' 29 2 = C 27 2 ∧ (∀ k, k < l0 → C' 32 k = C 30 k) ∧ (∀ k, k < l1 → C' 33 k = C 31 k) ∧
    (∀ k, k < 50 → C' 11 k = C 10 k) ∧ (∀ k, k < 20 → C' 13 k = C 12 k) ∧ (∀ j, 5 ≤ j → j ≤ 9 → C' 2 j = C 1 j) ∧
    ∀ o, o ≠ 2 → o ≠ 4 → o ≠ 11 → o ≠ 13 → o ≠ 28 → o ≠ 29 → o ≠ 32 → o ≠ 33 → ¬ (20 ≤ o ∧ o < 20 + 6) → C' o = C o := by
  obtain ⟨M1, e1, x1, y1⟩ := ma_cp (i0 := 1) (i1 := 0) (by decide) C
  obtain ⟨g, M2, e2, x2, y2⟩ := cp_21_l 6 0 2000 M1 (by omega) (by omega)
  have L0 : M2 26 2 = nI l0 := by rw [x2 _ (by omega), x1 _ (by decide)]; exact h0
  obtain ⟨M5, e5, x5, z5, y5⟩ := take_c (i0 := 2) (o1 := 30) (l := l0) (by decide) b0 (by decide) M2
  have L1 : M5 27 2 = nI l1 := by rw [x5 _ (by decide) (by decide), x2 _ (by omega), x1 _ (by decide)]; exact h1
  obtain ⟨M7, e7, x7, z7, y7⟩ := take_c (i0 := 3) (o1 := 31) (l := l1) (by decide) b1 (by decide) M5
  have T7 : ∀ k, M7 10 k = C 10 k := fun k => by rw [x7 _ (by decide) (by decide), x5 _ (by decide) (by decide), x2 _ (by omega), x1 _ (by decide)]
  have R : ∀ o, o ≠ 2 → o ≠ 11 → o ≠ 13 → (cf 2 1 9 (cf 2 1 8 (cf 2 1 7 (cf 2 1 6 (cf 2 1 5 (tB_21 (tA_21 M7))))))) o = M7 o := fun o a b c => by
    rw [cf_o a, cf_o a, cf_o a, cf_o a, cf_o a]
    unfold tB_21 tA_21
    rw [aw_un_o c, aw_un_o b]
  refine ⟨cf 2 1 9 (cf 2 1 8 (cf 2 1 7 (cf 2 1 6 (cf 2 1 5 (tB_21 (tA_21 M7)))))), ?_, fun j hj => ?_, fun i j hi hj => ?_, ?_, ?_, fun k hk => ?_, fun k hk => ?_, fun k hk => ?_, fun k hk => ?_, fun j a b => ?_, fun o o1 o2 o3 o4 o5 o6 o7 o8 o9 => ?_⟩
  · unfold fc_St_copyFrom_21
    rw [e1, aw_bv_s]
    rw [nI_0] at e2
    have F : ∀ j, j < (50 : Int32).toNatClampNeg → fits .byte (.int (M7 10 ((0 : Int32).toNatClampNeg + j))) = true := fun j hj => by
      rw [show (0 : Int32).toNatClampNeg + j = j by rw [show (0 : Int32).toNatClampNeg = 0 by decide]; omega, T7]
      exact hf j hj
    rw [e2, fc_St_copyFrom_21_L13_s, if_pos (by decide), L0, e5, aw_bv_s, L1, e7, aw_bv_s, if_neg (by decide), if_neg (fun q => q F), if_neg (by decide)]
    rfl
  · rw [R _ (by decide) (by decide) (by decide), x7 _ (by decide) (by decide), x5 _ (by decide) (by decide), x2 _ (by omega)]; exact y1 j hj
  · rw [R _ (by omega) (by omega) (by omega), x7 _ (by omega) (by omega), x5 _ (by omega) (by omega), y2 i j (by omega) hi hj, x1 _ (by omega)]
  · rw [R _ (by decide) (by decide) (by decide), x7 _ (by decide) (by decide), h0]; exact z5
  · rw [R _ (by decide) (by decide) (by decide), h1]; exact z7
  · rw [R _ (by decide) (by decide) (by decide), x7 _ (by decide) (by decide)]
    refine (y5 k hk).trans ?_
    rw [x2 _ (by omega), x1 _ (by decide)]
  · rw [R _ (by decide) (by decide) (by decide)]
    refine (y7 k hk).trans ?_
    rw [x5 _ (by decide) (by decide), x2 _ (by omega), x1 _ (by decide)]
  · rw [cf_o (by decide), cf_o (by decide), cf_o (by decide), cf_o (by decide), cf_o (by decide)]
    unfold tB_21 tA_21
    rw [aw_un_o (by decide), aw_un_s]
    unfold va_cpy
    rw [show (0 : Int32).toNatClampNeg = 0 by decide, show (50 : Int32).toNatClampNeg = 50 by decide, if_pos (by omega), Nat.zero_add, Nat.sub_zero, T7]
  · rw [cf_o (by decide), cf_o (by decide), cf_o (by decide), cf_o (by decide), cf_o (by decide)]
    unfold tB_21
    rw [aw_un_s]
    unfold va_cpy tA_21
    rw [show (0 : Int32).toNatClampNeg = 0 by decide, show (20 : Int32).toNatClampNeg = 20 by decide, if_pos (by omega), Nat.zero_add, Nat.sub_zero, aw_un_o (by decide), x7 _ (by decide) (by decide), x5 _ (by decide) (by decide), x2 _ (by omega), x1 _ (by decide)]
  · have S : ∀ j, (tB_21 (tA_21 M7)) 1 j = C 1 j := fun j => by
      unfold tB_21 tA_21
      rw [aw_un_o (by decide), aw_un_o (by decide), x7 _ (by decide) (by decide), x5 _ (by decide) (by decide), x2 _ (by omega), x1 _ (by decide)]
    rcases (show j = 5 ∨ j = 6 ∨ j = 7 ∨ j = 8 ∨ j = 9 by omega) with rfl | rfl | rfl | rfl | rfl
    · rw [cf_k (show 5 ≠ 9 by decide), cf_k (show 5 ≠ 8 by decide), cf_k (show 5 ≠ 7 by decide), cf_k (show 5 ≠ 6 by decide), cf_s, S]
    · rw [cf_k (show 6 ≠ 9 by decide), cf_k (show 6 ≠ 8 by decide), cf_k (show 6 ≠ 7 by decide), cf_s, cf_o (by decide), S]
    · rw [cf_k (show 7 ≠ 9 by decide), cf_k (show 7 ≠ 8 by decide), cf_s, cf_o (by decide), cf_o (by decide), S]
    · rw [cf_k (show 8 ≠ 9 by decide), cf_s, cf_o (by decide), cf_o (by decide), cf_o (by decide), S]
    · rw [cf_s, cf_o (by decide), cf_o (by decide), cf_o (by decide), cf_o (by decide), S]
  · rw [R o o1 o3 o4, x7 o o6 o8, x5 o o5 o7, x2 o (by omega), x1 o o2]
theorem eq_restore : op_ok Inv fc_LB_restore fm_restore := by
  intro n C D hn hI
  have E0 : C 0 2 = D 0 5 := hI.1 _ _ _ _ lk_img
  obtain ⟨h1, ⟨h2, h2'⟩, ⟨h3, h3'⟩, ⟨h4, h4'⟩, h5, ⟨h6, h7, h7'⟩, h8⟩ := id hI
  by_cases c : D 0 4 = 0
  · refine go2 hI ?_ ?_
    · unfold fc_LB_restore; rw [E0, if_pos (h7'.mp c)]
    · unfold fm_restore; rw [if_pos c]
  have c1 : D 0 4 = 1 := h7.resolve_left c
  obtain ⟨K, KE⟩ := h8 c1
  obtain ⟨l0, b0, e0⟩ := K.1.len
  obtain ⟨l1, b1, e1⟩ := K.2.len
  obtain ⟨C', e, k1, k2, k3, k4, k5, k6, k7, k8, k9, k10⟩ := cp_12 C e0 e1 b0 b1 (fun k hk => (h2' k hk).2)
  have r1 : ∀ k, k < 213 → aw_un D 1 (fun k => if k < 213 then D 2 k else D 1 k) 1 k = D 2 k := fun k hk => by rw [aw_un_s, if_pos hk]
  have r2 : ∀ a, a ≠ 1 → aw_un D 1 (fun k => if k < 213 then D 2 k else D 1 k) a = D a := fun a ha => aw_un_o ha
  refine go0e (C1 := C') (D1 := aw_un D 1 (fun k => if k < 213 then D 2 k else D 1 k)) (r := C' 1 8) (r' := D 2 0) (n := n) ⟨fun o j a b hL => ?_, ⟨fun k hk => ?_, ?_⟩, ⟨fun b b1 b2 b3 b4 => ?_, ?_⟩, ⟨?_, ?_⟩, ⟨?_, ?_⟩, ?_, ?_⟩ ?_ ?_ ?_
  · have Q := Lk_o hL
    by_cases ca : a = 1
    · subst ca
      rw [r1 b (Q.2.2.2.2.2.2.1 (Or.inl rfl))]
      rcases Lk_12 hL with ⟨rfl, hj, q⟩ | ⟨rfl, j5, j9, q⟩ | ⟨i, hi, rfl, hj, q⟩ | ⟨rfl, hj, q⟩
      · rw [k1 j hj]; exact KE _ _ _ q
      · rw [k9 j j5 j9]; exact KE _ _ _ q
      · rw [k2 i j hi hj]; exact KE _ _ _ q
      · rw [k8 j hj]; exact KE _ _ _ q
    · rw [r2 a ca]
      have P := Q.2.1 ca
      have P' := Q.2.2.2.1
      rw [k10 o P.1 P.2.1 Q.2.2.2.2.1 P.2.2.1 (by omega) (by omega) (by omega) (by omega) (by omega)]
      exact h1 _ _ _ _ hL
  · rw [r1 (43 + k) (by omega), k7 k hk]; exact h2' k hk
  · rw [r2 2 (by decide), k10 11 (by decide) (by decide) (by decide) (by decide) (by decide) (by decide) (by decide) (by decide) (by omega)]; exact h2'
  · rw [r1 b (by omega)]; exact h3' b b1 b2 b3 b4
  · rw [r2 2 (by decide)]; exact h3'
  · intro s hs; rw [r2 6 (by decide), r2 7 (by decide)]; exact h4 s hs
  · rw [r2 0 (by decide)]; exact h4'
  · rw [k3, r1 5 (by omega)]
    exact (K.1.st (fun k hk => k5 k (by rw [e0, nI_toInt (by omega)] at hk; omega))).cg (fun k hk => r1 (113 + k) (by omega))
  · rw [k4, r1 6 (by omega)]
    exact (K.2.st (fun k hk => k6 k (by rw [e1, nI_toInt (by omega)] at hk; omega))).cg (fun k hk => r1 (163 + k) (by omega))
  · rw [r2 0 (by decide)]; exact ⟨h6, h7, h7'⟩
  · intro _
    refine ⟨?_, KE.cg (fun o ho => k10 o (by omega) (by omega) (by omega) (by omega) (by omega) (by omega) (by omega) (by omega) (by omega)) (fun k _ => by rw [r2 2 (by decide)])⟩
    unfold LawsK
    rw [r2 2 (by decide), k10 28 (by decide) (by decide) (by decide) (by decide) (by decide) (by decide) (by decide) (by decide) (by omega), k10 29 (by decide) (by decide) (by decide) (by decide) (by decide) (by decide) (by decide) (by decide) (by omega), k10 32 (by decide) (by decide) (by decide) (by decide) (by decide) (by decide) (by decide) (by decide) (by omega), k10 33 (by decide) (by decide) (by decide) (by decide) (by decide) (by decide) (by decide) (by decide) (by omega)]
    exact K
  · unfold fc_LB_restore
    rw [E0, if_neg (fun q => c (h7'.mpr q)), e, aw_bv_s]
  · unfold fm_restore
    rw [if_neg c, moveAll_m (by decide), aw_bv_s, r1 0 (by omega)]
  · rw [k9 8 (by omega) (by omega)]
    exact KE 2 8 0 (by unfold LkK; omega)
theorem eq_image : op_ok Inv fc_LB_image fm_image := by
  intro n C D hn hI
  have E0 : C 0 2 = D 0 5 := hI.1 _ _ _ _ lk_img
  obtain ⟨h1, ⟨h2, h2'⟩, ⟨h3, h3'⟩, ⟨h4, h4'⟩, h5, ⟨h6, h7, h7'⟩, h8⟩ := id hI
  obtain ⟨l0, b0, e0⟩ := h5.1.len
  obtain ⟨l1, b1, e1⟩ := h5.2.len
  obtain ⟨C', e, k1, k2, k3, k4, k5, k6, k7, k8, k9, k10⟩ := cp_21 C e0 e1 b0 b1 (fun k hk => (h2 k hk).2)
  have k0 : C' 0 2 = D 0 5 := by rw [k10 0 (by decide) (by decide) (by decide) (by decide) (by decide) (by decide) (by decide) (by decide) (by omega)]; exact E0
  have K : ∀ o, o ≠ 0 → aw_u C' 0 2 (D 0 5 + 1) o = C' o := fun o ho => aw_u_row ho
  have r1 : ∀ k, k < 213 → aw_u (aw_u (aw_un D 2 (fun k => if k < 213 then D 1 k else D 2 k)) 0 4 1) 0 5 (D 0 5 + 1) 2 k = D 1 k := fun k hk => by rw [aw_u_row (by decide), aw_u_row (by decide), aw_un_s, if_pos hk]
  have r2 : ∀ a, a ≠ 2 → a ≠ 0 → aw_u (aw_u (aw_un D 2 (fun k => if k < 213 then D 1 k else D 2 k)) 0 4 1) 0 5 (D 0 5 + 1) a = D a := fun a ha h0 => by rw [aw_u_row h0, aw_u_row h0, aw_un_o ha]
  have r4 : aw_u (aw_u (aw_un D 2 (fun k => if k < 213 then D 1 k else D 2 k)) 0 4 1) 0 5 (D 0 5 + 1) 0 4 = 1 := by rw [aw_u_j 0 (by decide), aw_u_s]
  have r5 : aw_u (aw_u (aw_un D 2 (fun k => if k < 213 then D 1 k else D 2 k)) 0 4 1) 0 5 (D 0 5 + 1) 0 5 = D 0 5 + 1 := aw_u_s _ _ _ _
  have r23 : aw_u (aw_u (aw_un D 2 (fun k => if k < 213 then D 1 k else D 2 k)) 0 4 1) 0 5 (D 0 5 + 1) 0 23 = D 0 23 := by rw [aw_u_j 0 (by decide), aw_u_j 0 (by decide), aw_un_o (by decide)]
  have I5 : (D 0 5 + 1).toInt = (D 0 5).toInt + 1 := by
    have := h6.1
    have := h6.2
    rw [add_i (by rw [show (1 : Int32).toInt = 1 by decide]; omega) (by rw [show (1 : Int32).toInt = 1 by decide]; omega)]; rfl
  refine ⟨D 0 5 + 1, aw_u C' 0 2 (D 0 5 + 1), aw_u (aw_u (aw_un D 2 (fun k => if k < 213 then D 1 k else D 2 k)) 0 4 1) 0 5 (D 0 5 + 1), ?_, ?_, ⟨fun o j a b hL => ?_, ⟨?_, fun k hk => ?_⟩, ⟨?_, fun b b1 b2 b3 b4 => ?_⟩, ⟨?_, ?_⟩, ⟨?_, ?_⟩, ⟨?_, ?_, ?_⟩, ?_⟩⟩
  · unfold fc_LB_image
    rw [e, aw_bv_s, k0, aw_u_s]
  · unfold fm_image
    rw [moveAll_m (by decide), aw_bv_s, aw_u_j 0 (show 5 ≠ 4 by decide), aw_un_o (show 0 ≠ 2 by decide), aw_u_s]
  · have Q := Lk_o hL
    by_cases c0 : o = 0
    · subst c0
      obtain ⟨rfl, rfl, rfl⟩ : a = 0 ∧ j = 2 ∧ b = 5 := by
        unfold Lk at hL
        rcases hL with h | h | h | h | h | h | h | h | h | h | h | h | h | h | h | h | h | h | h | h | h | h | h <;> omega
      rw [aw_u_s, r5]
    rw [K o c0]
    by_cases ca : a = 2
    · subst ca
      exfalso
      unfold Lk at hL
      rcases hL with h | h | h | h | h | h | h | h | h | h | h | h | h | h | h | h | h | h | h | h | h | h | h <;> omega
    · have P := Q.2.2.1 ca
      have P' := Q.2.2.2.1
      rw [k10 o P.1 P.2.1 Q.2.2.2.2.2.1 P.2.2.1 (by omega) (by omega) (by omega) (by omega) (by omega)]
      by_cases cz : a = 0
      · subst cz
        rcases Q.2.2.2.2.2.2.2 rfl with ⟨-, q⟩ | rfl
        · exact absurd q c0
        · rw [r23]; exact h1 _ _ _ _ hL
      · rw [r2 a ca cz]; exact h1 _ _ _ _ hL
  · rw [r2 1 (by decide) (by decide), K 10 (by decide), k10 10 (by decide) (by decide) (by decide) (by decide) (by decide) (by decide) (by decide) (by decide) (by omega)]; exact h2
  · rw [r1 (43 + k) (by omega), K 11 (by decide), k7 k hk]; exact h2 k hk
  · rw [r2 1 (by decide) (by decide)]; exact h3
  · rw [r1 b (by omega)]; exact h3 b b1 b2 b3 b4
  · intro s hs; rw [r2 6 (by decide) (by decide), r2 7 (by decide) (by decide)]; exact h4 s hs
  · rw [r23]; exact h4'
  · rw [K 26 (by decide), K 30 (by decide), r2 1 (by decide) (by decide), k10 26 (by decide) (by decide) (by decide) (by decide) (by decide) (by decide) (by decide) (by decide) (by omega), k10 30 (by decide) (by decide) (by decide) (by decide) (by decide) (by decide) (by decide) (by decide) (by omega)]; exact h5.1
  · rw [K 27 (by decide), K 31 (by decide), r2 1 (by decide) (by decide), k10 27 (by decide) (by decide) (by decide) (by decide) (by decide) (by decide) (by decide) (by decide) (by omega), k10 31 (by decide) (by decide) (by decide) (by decide) (by decide) (by decide) (by decide) (by decide) (by omega)]; exact h5.2
  · rw [r5]; unfold Rb at h6 ⊢; rw [I5]; omega
  · rw [r4]; exact Or.inr rfl
  · rw [r4, r5]
    constructor
    · intro q; exact absurd q (by decide)
    · intro q
      have := h6.1
      rw [← Int32.toInt_inj, I5, show (0 : Int32).toInt = 0 by decide] at q
      omega
  · intro _
    refine ⟨⟨?_, ?_⟩, fun o j b hL => ?_⟩
    · rw [K 28 (by decide), K 32 (by decide), k3, r1 5 (by omega)]
      exact (h5.1.st (fun k hk => k5 k (by rw [e0, nI_toInt (by omega)] at hk; omega))).cg (fun k hk => r1 (113 + k) (by omega))
    · rw [K 29 (by decide), K 33 (by decide), k4, r1 6 (by omega)]
      exact (h5.2.st (fun k hk => k6 k (by rw [e1, nI_toInt (by omega)] at hk; omega))).cg (fun k hk => r1 (163 + k) (by omega))
    · obtain ⟨hb, q⟩ := Lk_21 hL
      have o0 : o ≠ 0 := by unfold LkK at hL; omega
      rw [K o o0, r1 b hb]
      rcases q with ⟨rfl, hj, q⟩ | ⟨rfl, j5, j9, q⟩ | ⟨i, hi, rfl, hj, q⟩ | ⟨rfl, hj, q⟩
      · rw [k1 j hj]; exact h1 _ _ _ _ q
      · rw [k9 j j5 j9]; exact h1 _ _ _ _ q
      · rw [k2 i j hi hj]; exact h1 _ _ _ _ q
      · rw [k8 j hj]; exact h1 _ _ _ _ q
