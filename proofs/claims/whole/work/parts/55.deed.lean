theorem km_rg : ∀ k, k < 70 → ((0 : Int) ≤ (nI k / 10).toInt ∧ (nI k / 10).toInt ≤ 6) ∧ ((0 : Int) ≤ (aw_rem (nI k) 10).toInt ∧ (aw_rem (nI k) 10).toInt ≤ 9) := by decide +kernel
theorem eq_become (a b : Int32) : op_ok Inv (fc_LB_become a b) (fm_become a b) := by
  intro n C D hn hI
  rcases (Classical.em (okC a D)).symm with h | h
  · exact go1 hI (sb (hc_c hI a) (sp (if_neg h) rfl)) (sb (ic_m a D) (sp (if_neg h) rfl))
  obtain ⟨i, hi, rfl, -⟩ := hI.ok h
  have c1 : (nI i).toNatClampNeg = i := nI_clamp (by omega)
  have hin := ni_f (k := i) (N := 6) hi (by omega)
  simp only [fc_LB_become, fm_become, hc_c hI, ic_m, if_pos h, aw_bi_s, i10, if_false]
  rcases (Classical.em (0 ≤ b ∧ b ≤ 69)).symm with hb | hb
  · rw [in_n hb, km_c, if_neg hb]; exact er1 hI
  have ix : (13 + 5 * nI i : Int32) = nI (13 + 5 * i + 0) := (show (13 + 5 * nI i : Int32) = 13 + 5 * nI i + nI 0 by rw [nI_0, Int32.add_zero]).trans (n5 hi)
  simp only [in_y hb, km_c, if_pos hb, aw_bi_s, aw_bv_s, i10, if_false, hin, fc_Cl_makeOf, gets_1 hi, c1, ix, bec_m (show 13 + 5 * i + 0 < 213 by omega)]
  obtain ⟨k, -, hk, rfl⟩ := rng 0 69 hb
  have R := km_rg k (by omega)
  rw [aw_u_comm C (14 + i) _ _ (show 0 ≠ 1 by decide)]
  exact go0e ((hI.cl (j := 1) hi (by omega) R.2).cl (j := 0) hi (by omega) R.1) rfl rfl ((hI.1 (14 + i) 0 1 (13 + 5 * i + 0) (lk_cl hi (by omega))).trans (aw_u_j 1 (by omega)).symm)
theorem eq_cloth (a b : Int32) : op_ok Inv (fc_LB_cloth a b) (fm_cloth a b) := by
  intro n C D hn hI
  rcases (Classical.em (0 ≤ a ∧ a ≤ 69)).symm with h | h
  · exact go1 hI (sb (km_c a C) (sp (if_neg h) rfl)) (sb (in_n h) rfl)
  rcases (Classical.em (0 ≤ b ∧ b ≤ 9)).symm with h2 | h2
  · simp only [fc_LB_cloth, fm_cloth, km_c, dg_c, if_pos h, if_neg h2, in_y h, in_n h2, aw_bi_s, i10, i00, if_true, if_false]; exact er1 hI
  obtain ⟨m, hm, e, e'⟩ := hI.many
  simp only [fc_LB_cloth, fm_cloth, km_c, dg_c, if_pos h, if_pos h2, in_y h, in_y h2, aw_bi_s, i10, if_false, e, e']
  by_cases h6 : m = 6
  · subst h6; exact go4 hI (sn (by decide) rfl) (sp (by decide) rfl)
  have hi : m < 6 := by omega
  have c1 : (nI m).toNatClampNeg = m := nI_clamp (by omega)
  have hin := ni_f (k := m) (N := 6) hi (by omega)
  have p1 : nI m < 6 := nI_lt (b := 6) (by omega) (by omega)
  have p2 : ¬ nI m = 6 := fun q => h6 ((nI_eq (b := 6) (by omega) (by omega)).mp q)
  obtain ⟨k, -, hk, rfl⟩ := rng 0 69 h
  have R := km_rg k (by omega)
  simp only [if_pos p1, if_neg p2, hin, if_false, aw_bv_s, fc_Cl_begin, fc_Cl_makeOf, c1, gets_0 hi, gets_1 hi, gets_2 hi, gets_3 hi, gets_4 hi]
  have i5 := ((((hI.cl (j := 0) hi (by omega) R.1).cl (j := 1) hi (by omega) R.2).cl (j := 2) hi (by omega) (Rb_le h2)).cl (j := 3) hi (by omega) (v := 0) ⟨by decide, by decide⟩).cl (j := 4) hi (by omega) (v := 0) ⟨by decide, by decide⟩
  have i6 := i5.upd1 lk_cnt (nI m + 1) (fun _ _ => by rw [nI_1]; unfold Rb; rw [nI_toInt (by omega)]; show (0 : Int) ≤ _ ∧ _ ≤ (6 : Int); omega)
  refine go0e i6 rfl ?_ rfl
  congr 3
  rw [aw_u_j 1 (by omega), aw_u_j 1 (by omega), aw_u_j 1 (by omega), aw_u_j 1 (by omega), aw_u_j 1 (by omega), e]
-- deeds
def fj (d : Nat) : Nat := if d = 0 then 0 else if d = 1 then 3 else if d = 2 then 4 else if d ≤ 4 then 1 else 2
def fv (d : Nat) (k s : Int32) : Int32 := if d ≤ 2 then 0 else if d = 3 then k + 1 else if d = 4 then k - 1 else if d = 5 then s + 1 else s - 1
def la (d : Nat) : Int32 := if d = 0 then 11 else if d = 1 then 20 else if d = 2 then 9 else if d ≤ 4 then 2 else 5
def room (d : Nat) (k s : Int32) : Bool := if d = 3 then !(decide ((9 : Int32) ≤ k)) else if d = 4 then !(decide (k ≤ 0)) else if d = 5 then !(decide ((9 : Int32) ≤ s)) else if d = 6 then !(decide (s ≤ 0)) else true
theorem d7 {d : Nat} (h : d < 7) : d = 0 ∨ d = 1 ∨ d = 2 ∨ d = 3 ∨ d = 4 ∨ d = 5 ∨ d = 6 := by omega
theorem fol_c {d : Nat} (h : d < 7) (i : Nat) (M : aw_M) : fc_Ma_follow i (nI d) M = some (aw_u M (3 + i) (fj d) (fv d (M (3 + i) 1) (M (3 + i) 2))) := by
  rcases d7 h with rfl | rfl | rfl | rfl | rfl | rfl | rfl <;> rfl
theorem fols_c {d : Nat} (h : d < 7) (M : aw_M) : fc_St_follow (nI d) M = some (aw_u (aw_u M 3 (fj d) (fv d (M 3 1) (M 3 2))) 1 8 (M 1 8 + la d)) := by
  unfold fc_St_follow
  rw [fol_c h, aw_bv_s, if_neg (nI_in h (by omega)), nI_clamp (by omega), aw_u_o (o := 3 + 0) 8 (by decide)]
  rcases d7 h with rfl | rfl | rfl | rfl | rfl | rfl | rfl <;> rfl
theorem las_m {d : Nat} (h : d < 7) (M : aw_M) : fm_lasts (nI d) M = some (la d, M) := by
  rcases d7 h with rfl | rfl | rfl | rfl | rfl | rfl | rfl <;> rfl
theorem las_c {d : Nat} (h : d < 7) : aw_t0.getD d 0 = la d := by
  rcases d7 h with rfl | rfl | rfl | rfl | rfl | rfl | rfl <;> rfl
theorem does_m {d : Nat} (h : d < 7) (M : aw_M) : fm_does (nI d) M = some (aw_u (aw_u M 1 (7 + fj d) (fv d (M 1 8) (M 1 9))) 1 0 (M 1 0 + la d)) := by
  have e : ∀ v, (aw_u M 1 (7 + fj d) v) 1 0 = M 1 0 := fun v => aw_u_j 1 (by omega)
  rw [← e (fv d (M 1 8) (M 1 9))]
  rcases d7 h with rfl | rfl | rfl | rfl | rfl | rfl | rfl <;> rfl
theorem room_c {d : Nat} (h : d < 7) (i : Nat) (M : aw_M) : fc_Ma_hasRoomFor i (nI d) M = some (if room d (M (3 + i) 1) (M (3 + i) 2) = true then 1 else 0, M) := by
  rcases d7 h with rfl | rfl | rfl | rfl | rfl | rfl | rfl
  · rfl
  · rfl
  · rfl
  · show (if (9 : Int32) ≤ M (3 + i) 1 then some ((0 : Int32), M) else some (1, M)) = some (if (!decide ((9 : Int32) ≤ M (3 + i) 1)) = true then 1 else 0, M)
    by_cases c : (9 : Int32) ≤ M (3 + i) 1 <;> simp [c]
  · show (if M (3 + i) 1 ≤ 0 then some ((0 : Int32), M) else some (1, M)) = some (if (!decide (M (3 + i) 1 ≤ 0)) = true then 1 else 0, M)
    by_cases c : M (3 + i) 1 ≤ 0 <;> simp [c]
  · show (if (9 : Int32) ≤ M (3 + i) 2 then some ((0 : Int32), M) else some (1, M)) = some (if (!decide ((9 : Int32) ≤ M (3 + i) 2)) = true then 1 else 0, M)
    by_cases c : (9 : Int32) ≤ M (3 + i) 2 <;> simp [c]
  · show (if M (3 + i) 2 ≤ 0 then some ((0 : Int32), M) else some (1, M)) = some (if (!decide (M (3 + i) 2 ≤ 0)) = true then 1 else 0, M)
    by_cases c : M (3 + i) 2 ≤ 0 <;> simp [c]
theorem can_m {d : Nat} (h : d < 7) (M : aw_M) : fm_canDo (nI d) M = some (if room d (M 1 8) (M 1 9) = true then 1 else 0, M) := by
  rcases d7 h with rfl | rfl | rfl | rfl | rfl | rfl | rfl
  · rfl
  · rfl
  · rfl
  · show (if (9 : Int32) ≤ M 1 8 then some ((0 : Int32), M) else some (1, M)) = some (if (!decide ((9 : Int32) ≤ M 1 8)) = true then 1 else 0, M)
    by_cases c : (9 : Int32) ≤ M 1 8 <;> simp [c]
  · show (if M 1 8 ≤ 0 then some ((0 : Int32), M) else some (1, M)) = some (if (!decide (M 1 8 ≤ 0)) = true then 1 else 0, M)
    by_cases c : M 1 8 ≤ 0 <;> simp [c]
  · show (if (9 : Int32) ≤ M 1 9 then some ((0 : Int32), M) else some (1, M)) = some (if (!decide ((9 : Int32) ≤ M 1 9)) = true then 1 else 0, M)
    by_cases c : (9 : Int32) ≤ M 1 9 <;> simp [c]
  · show (if M 1 9 ≤ 0 then some ((0 : Int32), M) else some (1, M)) = some (if (!decide (M 1 9 ≤ 0)) = true then 1 else 0, M)
    by_cases c : M 1 9 ≤ 0 <;> simp [c]
theorem fv_rg : ∀ d, d < 7 → ∀ a, a < 10 → ∀ b, b < 10 → room d (nI a) (nI b) = true → 0 ≤ (fv d (nI a) (nI b)).toInt ∧ (fv d (nI a) (nI b)).toInt ≤ hiB (7 + fj d) := by decide +kernel
theorem la_rg : ∀ d, d < 7 → 0 ≤ (la d).toInt ∧ (la d).toInt ≤ 20 := by decide +kernel
theorem fj_lt {d : Nat} (h : d < 7) : fj d < 6 := by
  rcases d7 h with rfl | rfl | rfl | rfl | rfl | rfl | rfl <;> decide
theorem add_i {x y : Int32} (h1 : -2147483648 ≤ x.toInt + y.toInt) (h2 : x.toInt + y.toInt < 2147483648) : (x + y).toInt = x.toInt + y.toInt := by
  rw [Int32.toInt_add, Int.bmod_def]
  omega
/-- a deed that has room, at both -/
theorem Inv.deed {n : Nat} {C D : aw_M} (hI : Inv n C D) {d : Nat} (h : d < 7) (hr : room d (D 1 8) (D 1 9) = true) (hs : (D 1 0).toInt + (la d).toInt ≤ 99999) : Inv n (aw_u (aw_u C 3 (fj d) (fv d (C 3 1) (C 3 2))) 1 8 (C 1 8 + la d)) (aw_u (aw_u D 1 (7 + fj d) (fv d (D 1 8) (D 1 9))) 1 0 (D 1 0 + la d)) := by
  rw [hI.1 3 1 1 8 (lk_mach (j := 1) (by omega)), hI.1 3 2 1 9 (lk_mach (j := 2) (by omega)), hI.1 _ _ _ _ lk_sec]
  obtain ⟨k, hk, ek⟩ := hI.row.at 8 9
  obtain ⟨s, hs', es⟩ := hI.row.at 9 9
  have R := la_rg d h
  have Z : Rb (D 1 0) 0 99999 := hI.row 0 (by omega) (by omega) (by omega) (by omega)
  refine (hI.upd1 (lk_mach (fj_lt h)) _ (fun _ _ => ?_)).upd1 lk_sec _ (fun _ _ => ?_)
  · rw [ek, es] at hr ⊢
    exact fv_rg d h k (by omega) s (by omega) hr
  · unfold Rb at Z ⊢
    rw [add_i (by omega) (by omega)]
    show (0 : Int) ≤ _ ∧ _ ≤ (99999 : Int)
    omega
theorem le_add {x y : Int32} (hx : Rb x 0 99999) (hy : 0 ≤ y.toInt ∧ y.toInt ≤ 2000000) : (x + y ≤ 99999) ↔ x.toInt + y.toInt ≤ 99999 := by
  unfold Rb at hx
  rw [le_i, add_i (by omega) (by omega), show (99999 : Int32).toInt = 99999 by decide]
theorem eq_deed (a : Int32) : op_ok Inv (fc_LB_deed a) (fm_deed a) := by
  intro n C D hn hI
  rcases (Classical.em (0 ≤ a ∧ a ≤ 6)).symm with h | h
  · exact go1 hI (r_noL 6 h _ _) (sb (in_n h) rfl)
  unfold fc_LB_deed
  rw [r_yesL 6 h]
  obtain ⟨d, -, hd, rfl⟩ := rng 0 6 h
  have hd : d < 7 := by omega
  have Z : Rb (D 1 0) 0 99999 := hI.row 0 (by omega) (by omega) (by omega) (by omega)
  have R := la_rg d hd
  have hin := ni_f (k := d) (N := 7) hd (by omega)
  have c1 : (nI d).toNatClampNeg = d := nI_clamp (by omega)
  have E1 := hI.1 3 1 1 8 (lk_mach (j := 1) (by omega))
  have E2 := hI.1 3 2 1 9 (lk_mach (j := 2) (by omega))
  have E3 := hI.1 _ _ _ _ lk_sec
  simp only [fm_deed, in_y h, room_c hd, can_m hd, aw_bi_s, i10, if_false, Nat.add_zero, E1, E2]
  by_cases hr : room d (D 1 8) (D 1 9) = true
  · simp only [if_pos hr, i10, if_false, hin, c1, las_m hd, las_c hd, aw_bi_s, E3]
    by_cases hs : (D 1 0).toInt + (la d).toInt ≤ 99999
    · have hs' := (le_add Z ⟨R.1, by omega⟩).mpr hs
      simp only [if_pos hs', fols_c hd, does_m hd, aw_bv_s, aw_u_s]
      exact go0e (hI.deed hd hr hs) rfl rfl (by rw [E3])
    · have hs' := fun q => hs ((le_add Z ⟨R.1, by omega⟩).mp q)
      simp only [if_neg hs']
      exact er3 hI
  · simp only [if_neg hr, i00, if_true]
    exact er3 hI

