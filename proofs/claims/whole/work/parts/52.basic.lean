-- numbers, checks
theorem go1 {n : Nat} {C D : aw_M} {f g : Option (Int32 × aw_M)} (hI : Inv n C D) (hf : f = fc_LB_error 1 C) (hg : g = fm_errs (-1000000001) D) : ∃ (r : Int32) (C1 D1 : aw_M), f = some (r, C1) ∧ g = some (r, D1) ∧ Inv (n + 1) C1 D1 := by rw [hf, hg]; exact er1 hI
theorem go2 {n : Nat} {C D : aw_M} {f g : Option (Int32 × aw_M)} (hI : Inv n C D) (hf : f = fc_LB_error 2 C) (hg : g = fm_errs (-1000000002) D) : ∃ (r : Int32) (C1 D1 : aw_M), f = some (r, C1) ∧ g = some (r, D1) ∧ Inv (n + 1) C1 D1 := by rw [hf, hg]; exact er2 hI
theorem go3 {n : Nat} {C D : aw_M} {f g : Option (Int32 × aw_M)} (hI : Inv n C D) (hf : f = fc_LB_error 3 C) (hg : g = fm_errs (-1000000003) D) : ∃ (r : Int32) (C1 D1 : aw_M), f = some (r, C1) ∧ g = some (r, D1) ∧ Inv (n + 1) C1 D1 := by rw [hf, hg]; exact er3 hI
theorem go4 {n : Nat} {C D : aw_M} {f g : Option (Int32 × aw_M)} (hI : Inv n C D) (hf : f = fc_LB_error 4 C) (hg : g = fm_errs (-1000000004) D) : ∃ (r : Int32) (C1 D1 : aw_M), f = some (r, C1) ∧ g = some (r, D1) ∧ Inv (n + 1) C1 D1 := by rw [hf, hg]; exact er4 hI
theorem go5 {n : Nat} {C D : aw_M} {f g : Option (Int32 × aw_M)} (hI : Inv n C D) (hf : f = fc_LB_error 5 C) (hg : g = fm_errs (-1000000005) D) : ∃ (r : Int32) (C1 D1 : aw_M), f = some (r, C1) ∧ g = some (r, D1) ∧ Inv (n + 1) C1 D1 := by rw [hf, hg]; exact er5 hI
theorem go0 {n : Nat} {C D C1 D1 : aw_M} {f g : Option (Int32 × aw_M)} {r : Int32} (hI : Inv n C1 D1) (hf : f = some (r, C1)) (hg : g = some (r, D1)) : ∃ (r : Int32) (C1 D1 : aw_M), f = some (r, C1) ∧ g = some (r, D1) ∧ Inv (n + 1) C1 D1 := ⟨r, C1, D1, hf, hg, hI.up⟩
theorem ck_lt {a b b' : Int32} {M : aw_M} (h : b'.toInt = b.toInt - 1 := by decide) : (if a < 0 then some ((0 : Int32), M) else if b ≤ a then some (0, M) else some (1, M)) = some (if 0 ≤ a ∧ a ≤ b' then 1 else 0, M) := by
  by_cases h1 : a < 0
  · rw [if_pos h1, if_neg]; rintro ⟨g, -⟩; rw [lt_i] at h1; rw [le_i] at g; omega
  · rw [if_neg h1]
    by_cases h2 : b ≤ a
    · rw [if_pos h2, if_neg]; rintro ⟨-, g⟩; rw [le_i] at h2 g; omega
    · rw [if_neg h2, if_pos]; rw [lt_i] at h1; rw [le_i] at h2; rw [le_i, le_i]; omega
theorem ck_le {a b : Int32} {M : aw_M} : (if a < 0 then some ((0 : Int32), M) else if b < a then some (0, M) else some (1, M)) = some (if 0 ≤ a ∧ a ≤ b then 1 else 0, M) := by
  by_cases h1 : a < 0
  · rw [if_pos h1, if_neg]; rintro ⟨g, -⟩; rw [lt_i] at h1; rw [le_i] at g; omega
  · rw [if_neg h1]
    by_cases h2 : b < a
    · rw [if_pos h2, if_neg]; rintro ⟨-, g⟩; rw [lt_i] at h2; rw [le_i] at g; omega
    · rw [if_neg h2, if_pos]; rw [lt_i] at h1 h2; rw [le_i, le_i]; omega
theorem sh_c (a : Int32) (M : aw_M) : fc_LB_isSheet a M = some (if 0 ≤ a ∧ a ≤ 3 then 1 else 0, M) := ck_lt
theorem sh_m (a : Int32) (M : aw_M) : fm_isSheet a M = some (if 0 ≤ a ∧ a ≤ 3 then 1 else 0, M) := by
  unfold fm_isSheet
  rw [in_m]
  by_cases h : 0 ≤ a ∧ a ≤ 3
  · rw [if_pos h]; rfl
  · rw [if_neg h]; rfl
theorem km_c (a : Int32) (M : aw_M) : fc_LB_isKindAndM a M = some (if 0 ≤ a ∧ a ≤ 69 then 1 else 0, M) := ck_lt
theorem dg_c (a : Int32) (M : aw_M) : fc_LB_isDigit a M = some (if 0 ≤ a ∧ a ≤ 9 then 1 else 0, M) := ck_le
theorem i01 {a : Int32} : (0 ≤ a ∧ a ≤ 1) ↔ (a = 0 ∨ a = 1) := by
  constructor
  · intro h
    obtain ⟨k, -, hk, rfl⟩ := rng 0 1 h
    rcases (show k = 0 ∨ k = 1 by omega) with rfl | rfl
    · exact Or.inl rfl
    · exact Or.inr rfl
  · rintro (rfl | rfl) <;> decide
theorem us_c (a : Int32) (M : aw_M) : fc_LB_isUse a M = some (if 0 ≤ a ∧ a ≤ 1 then 1 else 0, M) := by
  unfold fc_LB_isUse
  by_cases h0 : a = 0
  · subst h0; rfl
  · rw [if_neg h0]
    by_cases h1 : a = 1
    · subst h1; rfl
    · rw [if_neg h1, if_neg]; rw [i01]; exact fun h => h.elim h0 h1
theorem pt_c (a : Int32) (M : aw_M) : fc_LB_isPart a M = some (if 0 ≤ a ∧ a ≤ 1 then 1 else 0, M) := us_c a M
abbrev okC (c : Int32) (M : aw_M) : Prop := 0 ≤ c ∧ c ≤ M 1 2 - 1
theorem Inv.row {n : Nat} {C D : aw_M} (hI : Inv n C D) : Rg (D 1) := hI.2.2.1.1
theorem Rg.at {r : Nat → Int32} (h : Rg r) (b : Nat) (m : Nat) (hb : b < 43 := by decide) (h1 : b ≠ 1 := by decide) (h5 : b ≠ 5 := by decide) (h6 : b ≠ 6 := by decide) (hm : hiB b = m := by decide) (hM : m < 2147483648 := by decide) : ∃ k : Nat, k ≤ m ∧ r b = nI k := by
  have := h b hb h1 h5 h6
  rw [hm] at this
  exact nat_of hM this.1 this.2
theorem Inv.many {n : Nat} {C D : aw_M} (hI : Inv n C D) : ∃ m : Nat, m ≤ 6 ∧ D 1 2 = nI m ∧ C 1 5 = nI m := by
  obtain ⟨m, hm, e⟩ := hI.row.at 2 6
  exact ⟨m, hm, e, (hI.1 _ _ _ _ lk_cnt).trans e⟩
theorem okC_i {c : Int32} {M : aw_M} {m : Nat} (hm : m ≤ 6) (e : M 1 2 = nI m) : okC c M ↔ ∃ i, i < m ∧ c = nI i := by
  unfold okC
  rw [e]
  cases m with
  | zero =>
    constructor
    · intro h; have h1 := le_i.mp h.1; have h2 := le_i.mp h.2
      rw [show (nI 0 - 1).toInt = -1 by decide] at h2
      rw [show (0 : Int32).toInt = 0 by decide] at h1
      omega
    · rintro ⟨i, hi, -⟩; omega
  | succ m =>
    constructor
    · intro h
      rw [nI_pred] at h
      obtain ⟨k, hk, rfl⟩ := nI_of (x := c) (fun q => by have h1 := le_i.mp h.1; rw [lt_i] at q; omega)
      have := h.2
      rw [nI_leI hk (by omega)] at this
      exact ⟨k, by omega, rfl⟩
    · rintro ⟨i, hi, rfl⟩
      rw [nI_pred]
      exact ⟨nI_pos' (by omega), nI_le (by omega) (by omega)⟩
theorem Inv.ok {n : Nat} {C D : aw_M} (hI : Inv n C D) {c : Int32} (h : okC c D) : ∃ i, i < 6 ∧ c = nI i ∧ (∃ m, i < m ∧ m ≤ 6 ∧ D 1 2 = nI m) := by
  obtain ⟨m, hm, e, -⟩ := hI.many
  obtain ⟨i, hi, rfl⟩ := (okC_i hm e).mp h
  exact ⟨i, by omega, rfl, m, hi, hm, e⟩
theorem ic_m (c : Int32) (M : aw_M) : fm_isCloth c M = some (if okC c M then 1 else 0, M) := by
  unfold fm_isCloth
  rw [in_m]
  by_cases h : okC c M
  · rw [if_pos h]; rfl
  · rw [if_neg h]; rfl
theorem hc_any {c : Int32} {M : aw_M} {m : Nat} (hm : m ≤ 6) (e : M 1 5 = nI m) : fc_LB_hasCloth c M = some (if (∃ i, i < m ∧ c = nI i) then 1 else 0, M) := by
  unfold fc_LB_hasCloth
  by_cases h : ∃ i, i < m ∧ c = nI i
  · rw [if_pos h]
    obtain ⟨i, hi, rfl⟩ := h
    rw [if_neg (nI_pos (by omega)), e, if_neg (nI_ge hi (by omega)), if_neg (show ¬ (6 : Int32) ≤ nI i from nI_ge (b := 6) (by omega) (by omega))]
  · rw [if_neg h]
    by_cases h1 : c < 0
    · rw [if_pos h1]
    · rw [if_neg h1]
      by_cases h2 : M 1 5 ≤ c
      · rw [if_pos h2]
      · exfalso
        obtain ⟨j, hj, rfl⟩ := nI_of h1
        rw [e] at h2
        exact h ⟨j, by rw [nI_leI (by omega) hj] at h2; omega, rfl⟩
theorem hc_c {n : Nat} {C D : aw_M} (hI : Inv n C D) (c : Int32) : fc_LB_hasCloth c C = some (if okC c D then 1 else 0, C) := by
  obtain ⟨m, hm, e, e'⟩ := hI.many
  rw [hc_any hm e']
  by_cases h : okC c D
  · rw [if_pos h, if_pos ((okC_i hm e).mp h)]
  · rw [if_neg h, if_neg (fun q => h ((okC_i hm e).mpr q))]
-- checks within a call
theorem r_no {α : Type} {b hi : Int32} (h : ¬ (0 ≤ b ∧ b ≤ hi)) (E K : α) : (if b < 0 then E else if hi < b then E else K) = E := by
  by_cases h1 : b < 0
  · rw [if_pos h1]
  · rw [if_neg h1, if_pos]
    by_cases h2 : hi < b
    · exact h2
    · exfalso; apply h; rw [lt_i] at h1 h2; rw [le_i, le_i]; omega
theorem r_yes {α : Type} {b hi : Int32} (h : 0 ≤ b ∧ b ≤ hi) (E K : α) : (if b < 0 then E else if hi < b then E else K) = K := by
  rw [if_neg, if_neg]
  · intro g; have := h.2; rw [lt_i] at g; rw [le_i] at this; omega
  · intro g; have := h.1; rw [lt_i] at g; rw [le_i] at this; omega
theorem r_no' {α : Type} {b hi : Int32} (h : ¬ (0 ≤ b ∧ b ≤ hi)) (E K : α) : (if b < 0 then E else if b ≤ hi then K else E) = E := by
  by_cases h1 : b < 0
  · rw [if_pos h1]
  · rw [if_neg h1, if_neg]
    intro h2; apply h; rw [lt_i] at h1; rw [le_i] at h2; rw [le_i, le_i]; omega
theorem r_yes' {α : Type} {b hi : Int32} (h : 0 ≤ b ∧ b ≤ hi) (E K : α) : (if b < 0 then E else if b ≤ hi then K else E) = K := by
  rw [if_neg, if_pos h.2]
  intro g; have := h.1; rw [lt_i] at g; rw [le_i] at this; omega
theorem r_noL {α : Type} {b hi : Int32} (hi' : Int32) (h : ¬ (0 ≤ b ∧ b ≤ hi')) (E K : α) (e : hi'.toInt = hi.toInt - 1 := by decide) : (if b < 0 then E else if b < hi then K else E) = E := by
  by_cases h1 : b < 0
  · rw [if_pos h1]
  · rw [if_neg h1, if_neg]
    intro h2; apply h; rw [lt_i] at h1 h2; rw [le_i, le_i]; omega
theorem r_yesL {α : Type} {b hi : Int32} (hi' : Int32) (h : 0 ≤ b ∧ b ≤ hi') (E K : α) (e : hi'.toInt = hi.toInt - 1 := by decide) : (if b < 0 then E else if b < hi then K else E) = K := by
  rw [if_neg, if_pos]
  · have := h.2; rw [lt_i]; rw [le_i] at this; omega
  · intro g; have := h.1; rw [lt_i] at g; rw [le_i] at this; omega
theorem Rb_le {v hi : Int32} {m : Int} (h : 0 ≤ v ∧ v ≤ hi) (e : hi.toInt = m := by decide) : Rb v 0 m := by
  refine ⟨?_, ?_⟩
  · have := le_i.mp h.1; simpa using this
  · have := le_i.mp h.2; omega
