theorem go0e {n : Nat} {C1 D1 : aw_M} {f g : Option (Int32 × aw_M)} {r r' : Int32} (hI : Inv n C1 D1) (hf : f = some (r, C1)) (hg : g = some (r', D1)) (e : r = r') : ∃ (r : Int32) (C1 D1 : aw_M), f = some (r, C1) ∧ g = some (r, D1) ∧ Inv (n + 1) C1 D1 := ⟨r, C1, D1, hf, by rw [hg, e], hI.up⟩
theorem sp {c : Prop} [Decidable c] {α : Type} {a b : α} (h : c) {x : α} (e : a = x) : (if c then a else b) = x := by rw [if_pos h]; exact e
theorem sn {c : Prop} [Decidable c] {α : Type} {a b : α} (h : ¬ c) {x : α} (e : b = x) : (if c then a else b) = x := by rw [if_neg h]; exact e
theorem sb {β : Type} {f : Option (Int32 × aw_M)} {r : Int32} {M : aw_M} {k : Int32 → aw_M → Option β} {x : Option β} (h : f = some (r, M)) (e : k r M = x) : aw_bi f k = x := by rw [h]; exact e
theorem sbv {β : Type} {f : Option aw_M} {M : aw_M} {k : aw_M → Option β} {x : Option β} (h : f = some M) (e : k M = x) : aw_bv f k = x := by rw [h]; exact e
theorem sbr {β : Type} {f : Option (Nat × aw_M)} {r : Nat} {M : aw_M} {k : Nat → aw_M → Option β} {x : Option β} (h : f = some (r, M)) (e : k r M = x) : aw_br f k = x := by rw [h]; exact e
theorem le_m1 {m : Nat} {x : Int32} (hm : m < 2 ^ 31) : (0 ≤ x ∧ x ≤ nI m - 1) ↔ ∃ i, i < m ∧ x = nI i := by
  cases m with
  | zero =>
    constructor
    · intro h; have h1 := le_i.mp h.1; have h2 := le_i.mp h.2
      rw [show (nI 0 - 1).toInt = -1 by decide] at h2
      rw [show (0 : Int32).toInt = 0 by decide] at h1
      omega
    · rintro ⟨i, hi, -⟩; omega
  | succ m =>
    constructor
    · intro h
      rw [nI_pred] at h
      obtain ⟨k, hk, rfl⟩ := nI_of (x := x) (fun q => by have h1 := le_i.mp h.1; rw [lt_i] at q; omega)
      have := h.2
      rw [nI_leI hk (by omega)] at this
      exact ⟨k, by omega, rfl⟩
    · rintro ⟨i, hi, rfl⟩
      rw [nI_pred]
      exact ⟨nI_pos' (by omega), nI_le (by omega) (by omega)⟩
-- set
theorem most_no {a : Int32} (h : ¬ (0 ≤ a ∧ a ≤ 5)) (M : aw_M) : fc_Ma_mostOf a M = some (-1, M) := by
  unfold fc_Ma_mostOf
  have g : ∀ k : Int32, 0 ≤ k ∧ k ≤ 5 → ¬ a = k := fun k hk e => h (e ▸ hk)
  rw [if_neg (g 0 (by decide)), if_neg (g 1 (by decide)), if_neg (g 2 (by decide)), if_neg (g 3 (by decide)), if_neg (g 4 (by decide)), if_neg (g 5 (by decide))]
theorem eq_set (a v : Int32) : op_ok Inv (fc_LB_set a v) (fm_set a v) := by
  intro n C D hn hI
  by_cases h : 0 ≤ a ∧ a ≤ 5
  · obtain ⟨k, -, hk, rfl⟩ := rng 0 5 h
    rcases (show k = 0 ∨ k = 1 ∨ k = 2 ∨ k = 3 ∨ k = 4 ∨ k = 5 by omega) with rfl | rfl | rfl | rfl | rfl | rfl
    · by_cases hv : 0 ≤ v ∧ v ≤ 1
      · exact go0e (hI.upd1 (lk_mach (j := 0) (by omega)) v (fun _ _ => Rb_le hv)) (r_yes' hv _ _) (sb (in_y h) (sn (by decide) (sp rfl (sb (in_y hv) rfl)))) (hI.1 3 0 1 7 (lk_mach (j := 0) (by omega)))
      · exact go1 hI (r_no' hv _ _) (sb (in_y h) (sn (by decide) (sp rfl (sb (in_n hv) rfl))))
    · by_cases hv : 0 ≤ v ∧ v ≤ 9
      · exact go0e (hI.upd1 (lk_mach (j := 1) (by omega)) v (fun _ _ => Rb_le hv)) (r_yes' hv _ _) (sb (in_y h) (sn (by decide) (sn (by decide) (sn (by decide) (sn (by decide) (sb (in_y hv) rfl)))))) (hI.1 3 1 1 8 (lk_mach (j := 1) (by omega)))
      · exact go1 hI (r_no' hv _ _) (sb (in_y h) (sn (by decide) (sn (by decide) (sn (by decide) (sn (by decide) (sb (in_n hv) rfl))))))
    · by_cases hv : 0 ≤ v ∧ v ≤ 9
      · exact go0e (hI.upd1 (lk_mach (j := 2) (by omega)) v (fun _ _ => Rb_le hv)) (r_yes' hv _ _) (sb (in_y h) (sn (by decide) (sn (by decide) (sn (by decide) (sn (by decide) (sb (in_y hv) rfl)))))) (hI.1 3 2 1 9 (lk_mach (j := 2) (by omega)))
      · exact go1 hI (r_no' hv _ _) (sb (in_y h) (sn (by decide) (sn (by decide) (sn (by decide) (sn (by decide) (sb (in_n hv) rfl))))))
    · by_cases hv : 0 ≤ v ∧ v ≤ 2
      · exact go0e (hI.upd1 (lk_mach (j := 3) (by omega)) v (fun _ _ => Rb_le hv)) (r_yes' hv _ _) (sb (in_y h) (sn (by decide) (sn (by decide) (sp rfl (sb (in_y hv) rfl))))) (hI.1 3 3 1 10 (lk_mach (j := 3) (by omega)))
      · exact go1 hI (r_no' hv _ _) (sb (in_y h) (sn (by decide) (sn (by decide) (sp rfl (sb (in_n hv) rfl)))))
    · by_cases hv : 0 ≤ v ∧ v ≤ 99
      · exact go0e (hI.upd1 (lk_mach (j := 4) (by omega)) v (fun _ _ => Rb_le hv)) (r_yes' hv _ _) (sb (in_y h) (sn (by decide) (sn (by decide) (sn (by decide) (sp rfl (sb (in_y hv) rfl)))))) (hI.1 3 4 1 11 (lk_mach (j := 4) (by omega)))
      · exact go1 hI (r_no' hv _ _) (sb (in_y h) (sn (by decide) (sn (by decide) (sn (by decide) (sp rfl (sb (in_n hv) rfl))))))
    · by_cases hv : 0 ≤ v ∧ v ≤ 9
      · exact go0e (hI.upd1 (lk_mach (j := 5) (by omega)) v (fun _ _ => Rb_le hv)) (r_yes' hv _ _) (sb (in_y h) (sn (by decide) (sn (by decide) (sn (by decide) (sn (by decide) (sb (in_y hv) rfl)))))) (hI.1 3 5 1 12 (lk_mach (j := 5) (by omega)))
      · exact go1 hI (r_no' hv _ _) (sb (in_y h) (sn (by decide) (sn (by decide) (sn (by decide) (sn (by decide) (sb (in_n hv) rfl))))))
  · refine go1 hI ?_ (sb (in_n h) rfl)
    unfold fc_LB_set
    by_cases h1 : v < 0
    · rw [if_pos h1]
    · rw [if_neg h1]
      refine sb (most_no h C) (sn ?_ rfl)
      intro h2
      rw [lt_i] at h1
      rw [le_i] at h2
      rw [show (0 : Int32).toInt = 0 by decide] at h1
      rw [show (-1 : Int32).toInt = -1 by decide] at h2
      omega
-- tell
theorem eq_tell (v : Int32) : op_ok Inv (fc_LB_tell v) (fm_tell v) := by
  intro n C D hn hI
  obtain ⟨m, hm, e⟩ := hI.row.at 4 20
  have e' : C 1 7 = nI m := (hI.1 _ _ _ _ lk_wc).trans e
  unfold fc_LB_tell fm_tell
  rw [e, e']
  by_cases h : m = 20
  · subst h
    exact go4 hI (sn (by decide) rfl) (sp (by decide) rfl)
  · have c1 : (nI m).toNatClampNeg = m := nI_clamp (by omega)
    have c2 : (93 + nI m).toNatClampNeg = 93 + m := by rw [show (93 : Int32) + nI m = nI (93 + m) from nI_add 93 m]; exact nI_clamp (by omega)
    rw [if_pos (show nI m < 20 from nI_lt (b := 20) (by omega) (by omega)), if_neg (nI_in (N := 20) (by omega) (by omega)), if_neg (show ¬ nI m = 20 from fun q => h ((nI_eq (b := 20) (by omega) (by omega)).mp q)), if_neg (show ¬ aw_in (93 + nI m) 213 from by rw [show (93 : Int32) + nI m = nI (93 + m) from nI_add 93 m]; exact nI_in (by omega) (by omega)), c1, c2]
    have i1 := hI.upd1 (lk_wt (j := m) (by omega)) v (by omega)
    have z1 : aw_u C 12 m v 1 7 = nI m := (aw_u_o 7 (by decide)).trans e'
    have z2 : aw_u D 1 (93 + m) v 1 4 = nI m := (aw_u_j 1 (by omega)).trans e
    rw [z1, z2, aw_u_s, aw_u_s]
    exact go0e (i1.upd1 lk_wc (nI m + 1) (fun _ _ => by rw [nI_1]; unfold Rb; rw [nI_toInt (by omega)]; show (0 : Int) ≤ _ ∧ _ ≤ (20 : Int); omega)) rfl rfl rfl
-- trace
theorem eq_trace (a : Int32) : op_ok Inv (fc_LB_trace a) (fm_trace a) := by
  intro n C D hn hI
  obtain ⟨m, hm, e⟩ := nat_of (n := 40) (by omega) hI.2.2.2.1.2.1 hI.2.2.2.1.2.2
  have e' : C 56 1 = nI m := (hI.1 _ _ _ _ lk_trl).trans e
  have key : ∀ x : Int32, (0 ≤ x ∧ x ≤ nI m - 1) ↔ ∃ i, i < m ∧ x = nI i := fun x => le_m1 (by omega)
  unfold fc_LB_trace fm_trace
  rw [e, e']
  by_cases h : 0 ≤ a ∧ a ≤ nI m - 1
  · rw [in_y h]
    obtain ⟨i, hi, rfl⟩ := (key a).mp h
    have c1 : (nI i).toNatClampNeg = i := nI_clamp (by omega)
    have hl : Lk 57 i 11 i := lk_tr (by omega)
    refine go0e (r := C 57 i) (r' := D 11 i) hI (sn (nI_pos (by omega)) (sp (nI_lt hi (by omega)) (sn (nI_in (by omega) (by omega)) (by rw [c1])))) (sn (c := aw_in (nI i) 40) (nI_in (by omega) (by omega)) (congrArg (fun x => some (D 11 x, D)) c1)) (hI.1 _ _ _ _ hl)
  · rw [in_n h]
    refine go2 hI ?_ rfl
    by_cases h1 : a < 0
    · rw [if_pos h1]
    · rw [if_neg h1, if_neg]
      intro h2
      obtain ⟨j, hj, rfl⟩ := nI_of h1
      rw [nI_ltI hj (by omega)] at h2
      exact h ((key _).mpr ⟨j, h2, rfl⟩)
-- sheets
theorem i10 : ((1 : Int32) = 0) = False := eq_false (by decide)
theorem i00 : ((0 : Int32) = 0) = True := eq_true rfl
theorem ni_f {k N : Nat} (h : k < N) (hN : N < 2 ^ 31) : (aw_in (nI k) N) = False := eq_false (nI_in h hN)
theorem shs_b {n : Nat} {C D : aw_M} (hI : Inv n C D) {s : Nat} (h : s < 4) : C (59 + s) 1 = D 6 s ∧ C (59 + s) 2 = D 7 s ∧ (∃ m, m ≤ 40 ∧ D 7 s = nI m) := by
  refine ⟨hI.1 _ _ _ _ (lk_bits h), hI.1 _ _ _ _ (lk_len h), nat_of (n := 40) (by omega) (hI.2.2.2.1.1 s h).2.1 (hI.2.2.2.1.1 s h).2.2⟩
theorem n40 {s i : Nat} (h : s < 4) (hi : i < 40) : (40 * nI s + nI i : Int32) = nI (40 * s + i) := by
  rw [← nI_add]; rcases (show s = 0 ∨ s = 1 ∨ s = 2 ∨ s = 3 by omega) with rfl | rfl | rfl | rfl <;> rfl
theorem eq_put (a b v : Int32) : op_ok Inv (fc_LB_put a b v) (fm_put a b v) := by
  intro n C D hn hI
  rcases (Classical.em (0 ≤ a ∧ a ≤ 3)).symm with h | h
  · exact go1 hI (sb (sh_c a C) (sp (if_neg h) rfl)) (sb (sh_m a D) (sp (if_neg h) rfl))
  obtain ⟨s, -, hs, rfl⟩ := rng 0 3 h
  have hs : s < 4 := by omega
  obtain ⟨e1, e2, m, hm, e3⟩ := shs_b hI hs
  have c1 : (nI s).toNatClampNeg = s := nI_clamp (by omega)
  have hin := ni_f (k := s) (N := 4) hs (by omega)
  simp only [fc_LB_put, fm_put, sh_c, sh_m, if_pos h, aw_bi_s, i10, if_false, hin, c1, fc_Sh_isMissing, e1]
  by_cases h0 : D 6 s = 0
  · rw [if_pos h0, if_pos h0]; exact go2 hI rfl rfl
  simp only [if_neg h0, aw_bi_s, i00, if_true, e2, e3]
  rcases (Classical.em (0 ≤ b ∧ b ≤ nI m - 1)).symm with hb | hb
  · rw [in_n hb]
    refine go1 hI ?_ rfl
    by_cases h1 : b < 0
    · rw [if_pos h1]
    · rw [if_neg h1, if_neg]
      intro h2
      obtain ⟨j, hj, rfl⟩ := nI_of h1
      rw [nI_ltI hj (by omega)] at h2
      exact hb ((le_m1 (by omega)).mpr ⟨j, h2, rfl⟩)
  rw [in_y hb]
  obtain ⟨i, hi, rfl⟩ := (le_m1 (by omega)).mp hb
  have c2 : (nI i).toNatClampNeg = i := nI_clamp (by omega)
  have p1 := nI_pos (n := i) (by omega)
  have p2 := nI_lt hi (show m < 2 ^ 31 by omega)
  have in40 := ni_f (k := i) (N := 40) (by omega) (by omega)
  have in160 := ni_f (k := 40 * s + i) (N := 160) (by omega) (by omega)
  have c3 := nI_clamp (show 40 * s + i < 2 ^ 31 by omega)
  have e4 := n40 (i := i) hs (by omega)
  simp only [if_neg p1, if_pos p2, aw_bi_s, i10, if_false, fc_Sh_write, fm_narrow, e1, e4, c3, c2, in40, in160]
  have key : ∀ w : Int32, ∃ (r : Int32) (C1 D1 : aw_M), some ((1 : Int32), aw_u C (63 + s) i w) = some (r, C1) ∧ some ((1 : Int32), aw_u D 8 (40 * s + i) w) = some (r, D1) ∧ Inv (n + 1) C1 D1 := fun w => ⟨_, _, _, rfl, rfl, (hI.upd2 (lk_num hs (by omega)) (by omega) w (by omega) (by omega)).up⟩
  by_cases g8 : D 6 s = 8
  · simp only [if_pos g8, aw_bv_s, aw_bi_s, in160, if_false]; exact key _
  by_cases g16 : D 6 s = 16
  · simp only [if_neg g8, if_pos g16, aw_bv_s, aw_bi_s, in160, if_false]; exact key _
  simp only [if_neg g8, if_neg g16, aw_bv_s, aw_bi_s, in160, if_false]; exact key _

