theorem lk_mach {j : Nat} (h : j < 6) : Lk 3 j 1 (7 + j) := Or.inl ⟨rfl, rfl, h, rfl⟩
theorem lk_cnt : Lk 1 5 1 2 := Or.inr (Or.inl ⟨rfl, rfl, rfl, rfl⟩)
theorem lk_tl : Lk 1 6 1 3 := Or.inr (Or.inr (Or.inl ⟨rfl, rfl, rfl, rfl⟩))
theorem lk_wc : Lk 1 7 1 4 := Or.inr (Or.inr (Or.inr (Or.inl ⟨rfl, rfl, rfl, rfl⟩)))
theorem lk_sec : Lk 1 8 1 0 := Or.inr (Or.inr (Or.inr (Or.inr (Or.inl ⟨rfl, rfl, rfl, rfl⟩))))
theorem lk_z : Lk 1 9 1 1 := Or.inr (Or.inr (Or.inr (Or.inr (Or.inr (Or.inl ⟨rfl, rfl, rfl, rfl⟩)))))
theorem lk_cl {i j : Nat} (hi : i < 6) (hj : j < 5) : Lk (14 + i) j 1 (13 + 5 * i + j) := Or.inr (Or.inr (Or.inr (Or.inr (Or.inr (Or.inr (Or.inl ⟨by omega, by omega, rfl, hj, by omega⟩))))))
theorem lk_wt {j : Nat} (h : j < 20) : Lk 12 j 1 (93 + j) := Or.inr (Or.inr (Or.inr (Or.inr (Or.inr (Or.inr (Or.inr (Or.inl ⟨rfl, rfl, h, rfl⟩)))))))
theorem lk_bits {s : Nat} (h : s < 4) : Lk (59 + s) 1 6 s := Or.inr (Or.inr (Or.inr (Or.inr (Or.inr (Or.inr (Or.inr (Or.inr (Or.inr (Or.inr (Or.inr (Or.inr (Or.inr (Or.inr (Or.inr (Or.inr (Or.inl ⟨by omega, by omega, rfl, rfl, by omega⟩))))))))))))))))
theorem lk_len {s : Nat} (h : s < 4) : Lk (59 + s) 2 7 s := Or.inr (Or.inr (Or.inr (Or.inr (Or.inr (Or.inr (Or.inr (Or.inr (Or.inr (Or.inr (Or.inr (Or.inr (Or.inr (Or.inr (Or.inr (Or.inr (Or.inr (Or.inl ⟨by omega, by omega, rfl, rfl, by omega⟩)))))))))))))))))
theorem lk_num {s j : Nat} (h : s < 4) (hj : j < 40) : Lk (63 + s) j 8 (40 * s + j) := Or.inr (Or.inr (Or.inr (Or.inr (Or.inr (Or.inr (Or.inr (Or.inr (Or.inr (Or.inr (Or.inr (Or.inr (Or.inr (Or.inr (Or.inr (Or.inr (Or.inr (Or.inr (Or.inl ⟨by omega, by omega, rfl, hj, by omega⟩))))))))))))))))))
theorem lk_err {k : Nat} (h1 : 1 ≤ k) (h5 : k ≤ 5) : Lk 67 k 5 k := Or.inr (Or.inr (Or.inr (Or.inr (Or.inr (Or.inr (Or.inr (Or.inr (Or.inr (Or.inr (Or.inr (Or.inr (Or.inr (Or.inr (Or.inr (Or.inr (Or.inr (Or.inr (Or.inr (Or.inl ⟨rfl, rfl, h1, h5, rfl⟩)))))))))))))))))))
theorem lk_trl : Lk 56 1 0 23 := Or.inr (Or.inr (Or.inr (Or.inr (Or.inr (Or.inr (Or.inr (Or.inr (Or.inr (Or.inr (Or.inr (Or.inr (Or.inr (Or.inr (Or.inr (Or.inr (Or.inr (Or.inr (Or.inr (Or.inr (Or.inl ⟨rfl, rfl, rfl, rfl⟩))))))))))))))))))))
theorem lk_tr {j : Nat} (h : j < 40) : Lk 57 j 11 j := Or.inr (Or.inr (Or.inr (Or.inr (Or.inr (Or.inr (Or.inr (Or.inr (Or.inr (Or.inr (Or.inr (Or.inr (Or.inr (Or.inr (Or.inr (Or.inr (Or.inr (Or.inr (Or.inr (Or.inr (Or.inr (Or.inl ⟨rfl, rfl, h, rfl⟩)))))))))))))))))))))
theorem lk_img : Lk 0 2 0 5 := Or.inr (Or.inr (Or.inr (Or.inr (Or.inr (Or.inr (Or.inr (Or.inr (Or.inr (Or.inr (Or.inr (Or.inr (Or.inr (Or.inr (Or.inr (Or.inr (Or.inr (Or.inr (Or.inr (Or.inr (Or.inr (Or.inr (⟨rfl, rfl, rfl, rfl⟩))))))))))))))))))))))
-- errors
theorem er_c (k : Nat) (h1 : 1 ≤ k) (h5 : k ≤ 5) (C : aw_M) : fc_LB_error (nI k) C = some ((-1000000000) - nI k, aw_u C 67 k (C 67 k + 1)) := by
  rcases (show k = 1 ∨ k = 2 ∨ k = 3 ∨ k = 4 ∨ k = 5 by omega) with rfl | rfl | rfl | rfl | rfl <;> (unfold fc_LB_error; rw [if_neg (by decide), if_neg (by decide), if_neg (by decide), if_neg (by decide)]; rfl)
theorem er_m (k : Nat) (h1 : 1 ≤ k) (h5 : k ≤ 5) (D : aw_M) : fm_errs ((-1000000000) - nI k) D = some ((-1000000000) - nI k, aw_u D 5 k (D 5 k + 1)) := by
  rcases (show k = 1 ∨ k = 2 ∨ k = 3 ∨ k = 4 ∨ k = 5 by omega) with rfl | rfl | rfl | rfl | rfl <;> (unfold fm_errs; rw [if_neg (by decide), if_neg (by decide)]; rfl)
/-- both sides tell error k -/
theorem er {n k : Nat} {C D : aw_M} (hI : Inv n C D) (h1 : 1 ≤ k) (h5 : k ≤ 5) : ∃ (r : Int32) (C1 D1 : aw_M), fc_LB_error (nI k) C = some (r, C1) ∧ fm_errs ((-1000000000) - nI k) D = some (r, D1) ∧ Inv (n + 1) C1 D1 := by
  have hl : Lk 67 k 5 k := lk_err (by omega) (by omega)
  refine ⟨_, _, _, er_c k h1 h5 C, er_m k h1 h5 D, ?_⟩
  rw [hI.1 67 k 5 k hl]
  exact (hI.upd2 hl (by omega) _ (by omega) (by omega)).up
theorem er1 {n : Nat} {C D : aw_M} (hI : Inv n C D) : ∃ (r : Int32) (C1 D1 : aw_M), fc_LB_error 1 C = some (r, C1) ∧ fm_errs (-1000000001) D = some (r, D1) ∧ Inv (n + 1) C1 D1 := er (k := 1) hI (by omega) (by omega)
theorem er2 {n : Nat} {C D : aw_M} (hI : Inv n C D) : ∃ (r : Int32) (C1 D1 : aw_M), fc_LB_error 2 C = some (r, C1) ∧ fm_errs (-1000000002) D = some (r, D1) ∧ Inv (n + 1) C1 D1 := er (k := 2) hI (by omega) (by omega)
theorem er3 {n : Nat} {C D : aw_M} (hI : Inv n C D) : ∃ (r : Int32) (C1 D1 : aw_M), fc_LB_error 3 C = some (r, C1) ∧ fm_errs (-1000000003) D = some (r, D1) ∧ Inv (n + 1) C1 D1 := er (k := 3) hI (by omega) (by omega)
theorem er4 {n : Nat} {C D : aw_M} (hI : Inv n C D) : ∃ (r : Int32) (C1 D1 : aw_M), fc_LB_error 4 C = some (r, C1) ∧ fm_errs (-1000000004) D = some (r, D1) ∧ Inv (n + 1) C1 D1 := er (k := 4) hI (by omega) (by omega)
theorem er5 {n : Nat} {C D : aw_M} (hI : Inv n C D) : ∃ (r : Int32) (C1 D1 : aw_M), fc_LB_error 5 C = some (r, C1) ∧ fm_errs (-1000000005) D = some (r, D1) ∧ Inv (n + 1) C1 D1 := er (k := 5) hI (by omega) (by omega)
-- numbers
theorem lt_i {x y : Int32} : x < y ↔ x.toInt < y.toInt := Int32.lt_iff_toInt_lt
theorem le_i {x y : Int32} : x ≤ y ↔ x.toInt ≤ y.toInt := Int32.le_iff_toInt_le
theorem in_m {a lo hi : Int32} {M : aw_M} : fm_in a lo hi M = some (if lo ≤ a ∧ a ≤ hi then 1 else 0, M) := by
  unfold fm_in
  by_cases h1 : a < lo
  · rw [if_pos h1, if_neg]; rintro ⟨h, -⟩; rw [lt_i] at h1; rw [le_i] at h; omega
  · rw [if_neg h1]
    by_cases h2 : hi < a
    · rw [if_pos h2, if_neg]; rintro ⟨-, h⟩; rw [lt_i] at h2; rw [le_i] at h; omega
    · rw [if_neg h2, if_pos]; rw [lt_i] at h1 h2; rw [le_i, le_i]; omega
theorem in_y {a lo hi : Int32} {M : aw_M} (h : lo ≤ a ∧ a ≤ hi) : fm_in a lo hi M = some (1, M) := by rw [in_m, if_pos h]
theorem in_n {a lo hi : Int32} {M : aw_M} (h : ¬ (lo ≤ a ∧ a ≤ hi)) : fm_in a lo hi M = some (0, M) := by rw [in_m, if_neg h]
/-- a number between literals is one of the naturals -/
theorem nat_of {a : Int32} {n : Nat} (hn : n < 2147483648) (h0 : 0 ≤ a.toInt) (h1 : a.toInt ≤ n) : ∃ k : Nat, k ≤ n ∧ a = nI k := by
  refine ⟨a.toInt.toNat, by omega, ?_⟩
  apply Int32.toInt_inj.mp
  rw [nI_toInt (by omega)]
  omega
theorem rng {a lo hi : Int32} (l h : Nat) (hr : lo ≤ a ∧ a ≤ hi) (hl : lo.toInt = l := by decide) (hh : hi.toInt = h := by decide) (hb : h < 2147483648 := by decide) : ∃ k : Nat, l ≤ k ∧ k ≤ h ∧ a = nI k := by
  have g1 := le_i.mp hr.1
  have g2 := le_i.mp hr.2
  rw [hl] at g1
  rw [hh] at g2
  obtain ⟨k, hk, rfl⟩ := nat_of (n := h) hb (by omega) g2
  rw [nI_toInt (by omega)] at g1
  exact ⟨k, by omega, hk, rfl⟩
-- seed
theorem eq_seed (a : Int32) : op_ok Inv (fc_LB_seed a) (fm_seed a) := by
  intro n C D hn hI
  have hl : Lk 1 9 1 1 := lk_z
  refine ⟨C 1 9, aw_u C 1 9 a, aw_u D 1 1 a, rfl, ?_, (hI.upd1 hl a (by omega)).up⟩
  rw [hI.1 1 9 1 1 hl]
  rfl
-- machine
theorem eq_machine (a : Int32) : op_ok Inv (fc_LB_machine a) (fm_machine a) := by
  intro n C D hn hI
  by_cases h : 0 ≤ a ∧ a ≤ 5
  · obtain ⟨k, hk, rfl⟩ := nat_of (n := 5) (by omega) (by have := le_i.mp h.1; simpa using this) (by have := le_i.mp h.2; simpa using this)
    have hl : Lk 3 k 1 (7 + k) := lk_mach (by omega)
    refine ⟨C 3 k, C, D, ?_, ?_, hI.up⟩
    · rcases (show k = 0 ∨ k = 1 ∨ k = 2 ∨ k = 3 ∨ k = 4 ∨ k = 5 by omega) with rfl | rfl | rfl | rfl | rfl | rfl <;> rfl
    · rw [hI.1 3 k 1 (7 + k) hl]
      rcases (show k = 0 ∨ k = 1 ∨ k = 2 ∨ k = 3 ∨ k = 4 ∨ k = 5 by omega) with rfl | rfl | rfl | rfl | rfl | rfl <;> rfl
  · obtain ⟨r, C1, D1, e1, e2, e3⟩ := er1 hI
    refine ⟨r, C1, D1, ?_, ?_, e3⟩
    · unfold fc_LB_machine
      by_cases h1 : a < 0
      · rw [if_pos h1]; exact e1
      · rw [if_neg h1, if_neg]
        · exact e1
        · intro h2
          exact h ⟨Int32.not_lt.mp h1, h2⟩
    · unfold fm_machine
      rw [in_n h, aw_bi_s, if_pos rfl]
      exact e2
-- told
theorem eq_told (a : Int32) : op_ok Inv (fc_LB_told a) (fm_told a) := by
  intro n C D hn hI
  by_cases h : 1 ≤ a ∧ a ≤ 5
  · obtain ⟨k, hk1, hk, rfl⟩ := rng 1 5 h
    have hl : Lk 67 k 5 k := lk_err (by omega) (by omega)
    refine ⟨C 67 k, C, D, ?_, ?_, hI.up⟩
    · rcases (show k = 1 ∨ k = 2 ∨ k = 3 ∨ k = 4 ∨ k = 5 by omega) with rfl | rfl | rfl | rfl | rfl <;> rfl
    · rw [hI.1 67 k 5 k hl]
      rcases (show k = 1 ∨ k = 2 ∨ k = 3 ∨ k = 4 ∨ k = 5 by omega) with rfl | rfl | rfl | rfl | rfl <;> rfl
  · obtain ⟨r, C1, D1, e1, e2, e3⟩ := er1 hI
    refine ⟨r, C1, D1, ?_, ?_, e3⟩
    · unfold fc_LB_told
      by_cases h1 : a < 1
      · rw [if_pos h1]; exact e1
      · rw [if_neg h1, if_neg]
        · exact e1
        · intro h2
          exact h ⟨Int32.not_lt.mp h1, h2⟩
    · unfold fm_told
      rw [in_n h, aw_bi_s, if_pos rfl]
      exact e2
