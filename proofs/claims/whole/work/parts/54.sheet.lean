theorem aw_un_e (M : aw_M) (o : Nat) : aw_un M o (M o) = M := by
  funext a; by_cases h : a = o
  · subst h; exact aw_un_s M a _
  · exact aw_un_o h
theorem aw_un_un (M : aw_M) (o : Nat) (f g : Nat → Int32) : aw_un (aw_un M o f) o g = aw_un M o g := by
  funext a; by_cases h : a = o
  · subst h; rw [aw_un_s, aw_un_s]
  · rw [aw_un_o h, aw_un_o h, aw_un_o h]
theorem aw_u_comm (M : aw_M) (o : Nat) {j j' : Nat} (v v' : Int32) (h : j ≠ j') : aw_u (aw_u M o j v) o j' v' = aw_u (aw_u M o j' v') o j v := by
  funext a b
  rw [aw_u_if, aw_u_if, aw_u_if, aw_u_if]
  by_cases h1 : a = o ∧ b = j
  · rw [if_pos h1, if_pos h1, if_neg (fun q => h (h1.2.symm.trans q.2))]
  · rw [if_neg h1, if_neg h1]
/-- rows filled -/
theorem fill_l {o n0 : Nat} {v : Int32} (hn : n0 < 2000) : ∀ (d i f : Nat) (M : aw_M), i + d = n0 → d < f → fc_Ar_fill_L5 f o n0 v (nI i) (nI n0) M = some (aw_un M o (fun k => if i ≤ k ∧ k < n0 then v else M o k)) := by
  intro d
  induction d with
  | zero =>
    intro i f M h hf
    obtain ⟨f, rfl⟩ : ∃ g, f = g + 1 := ⟨f - 1, by omega⟩
    rw [fc_Ar_fill_L5_s, if_pos (nI_le (by omega) (by omega))]
    congr 1
    rw [show (fun k => if i ≤ k ∧ k < n0 then v else M o k) = M o from funext fun k => if_neg (by omega)]
    exact (aw_un_e M o).symm
  | succ d ih =>
    intro i f M h hf
    obtain ⟨f, rfl⟩ : ∃ g, f = g + 1 := ⟨f - 1, by omega⟩
    rw [fc_Ar_fill_L5_s, if_neg (nI_ge (show i < n0 by omega) (by omega)), if_neg (nI_in (show i < n0 by omega) (by omega)), nI_1, nI_clamp (by omega), ih (i + 1) f _ (by omega) (by omega)]
    congr 1
    show aw_un (aw_un M o _) o _ = _
    rw [aw_un_un]
    congr 1
    funext k
    rw [aw_u_if]
    by_cases c : k = i
    · subst c; rw [if_neg (by omega), if_pos ⟨rfl, rfl⟩, if_pos (by omega)]
    · rw [if_neg (show ¬ (o = o ∧ k = i) from fun q => c q.2)]
      by_cases c2 : i + 1 ≤ k ∧ k < n0
      · rw [if_pos c2, if_pos (by omega)]
      · rw [if_neg c2, if_neg (by omega)]
theorem fill_c {o n0 : Nat} {v : Int32} {M : aw_M} (hn : n0 < 2000) : fc_Ar_fill o n0 v M = some (aw_un M o (fun k => if k < n0 then v else M o k)) := by
  have := fill_l (o := o) (v := v) hn n0 0 2000 M (by omega) hn
  simp only [Nat.zero_le, true_and] at this
  exact this
theorem fill_m {s : Nat} (hs : s < 4) : ∀ (d i f : Nat) (M : aw_M), i + d = 40 → d < f → fm_sheet_L93 f (nI s) (nI i) M = some (1, aw_un M 8 (fun k => if 40 * s + i ≤ k ∧ k < 40 * s + 40 then 0 else M 8 k)) := by
  intro d
  induction d with
  | zero =>
    intro i f M h hf
    obtain ⟨f, rfl⟩ : ∃ g, f = g + 1 := ⟨f - 1, by omega⟩
    rw [fm_sheet_L93_s, if_pos (show (40 : Int32) ≤ nI i from nI_le (a := 40) (by omega) (by omega))]
    congr 2
    rw [show (fun k => if 40 * s + i ≤ k ∧ k < 40 * s + 40 then 0 else M 8 k) = M 8 from funext fun k => if_neg (by omega)]
    exact (aw_un_e M 8).symm
  | succ d ih =>
    intro i f M h hf
    obtain ⟨f, rfl⟩ : ∃ g, f = g + 1 := ⟨f - 1, by omega⟩
    rw [fm_sheet_L93_s, if_neg (show ¬ (40 : Int32) ≤ nI i from nI_ge (b := 40) (by omega) (by omega)), n40 hs (by omega), if_neg (nI_in (show 40 * s + i < 160 by omega) (by omega)), nI_1, nI_clamp (by omega), ih (i + 1) f _ (by omega) (by omega)]
    congr 2
    show aw_un (aw_un M 8 _) 8 _ = _
    rw [aw_un_un]
    congr 1
    funext k
    rw [aw_u_if]
    by_cases c : k = 40 * s + i
    · subst c; rw [if_neg (by omega), if_pos ⟨rfl, rfl⟩, if_pos (by omega)]
    · rw [if_neg (show ¬ (8 = 8 ∧ k = 40 * s + i) from fun q => c q.2)]
      by_cases c2 : 40 * s + (i + 1) ≤ k ∧ k < 40 * s + 40
      · rw [if_pos c2, if_pos (by omega)]
      · rw [if_neg c2, if_neg (by omega)]
theorem Lk_5 {o j a b : Nat} (h : Lk o j a b) : (o < 56 ∧ ((1 ≤ a ∧ a < 5) ∨ (a = 0 ∧ b = 5))) ∨ (56 ≤ o ∧ (5 ≤ a ∨ (a = 0 ∧ b = 23))) := by
  unfold Lk at h
  rcases h with h | h | h | h | h | h | h | h | h | h | h | h | h | h | h | h | h | h | h | h | h | h | h <;> omega
/-- changes beside the rows -/
theorem Inv.beside {n : Nat} {C D C' D' : aw_M} (h : Inv n C D) (hC : ∀ o, o < 56 → C' o = C o) (hD : ∀ a, 1 ≤ a → a < 5 → D' a = D a) (h4 : D' 0 4 = D 0 4) (h5 : D' 0 5 = D 0 5) (hR : Rb (D' 0 23) 0 40) (hE : ∀ o j a b, Lk o j a b → 56 ≤ o → C' o j = D' a b) (hS : Shs D') : Inv n C' D' := by
  obtain ⟨h1, ⟨h2, h2'⟩, ⟨h3, h3'⟩, -, h5', ⟨h6, h7, h7'⟩, h8⟩ := h
  refine ⟨fun o j a b hl => ?_, ⟨?_, ?_⟩, ⟨?_, ?_⟩, ⟨hS, hR⟩, ⟨?_, ?_⟩, ⟨by rw [h5]; exact h6, by rw [h4]; exact h7, by rw [h4, h5]; exact h7'⟩, fun hk => ?_⟩
  · rcases Lk_5 hl with ⟨g, g1 | ⟨rfl, rfl⟩⟩ | ⟨g, -⟩
    · rw [hC o g, hD a g1.1 g1.2]; exact h1 o j a b hl
    · rw [hC o g, h5]; exact h1 o j 0 5 hl
    · exact hE o j a b hl g
  · rw [hC 10 (by omega), hD 1 (by omega) (by omega)]; exact h2
  · rw [hC 11 (by omega), hD 2 (by omega) (by omega)]; exact h2'
  · rw [hD 1 (by omega) (by omega)]; exact h3
  · rw [hD 2 (by omega) (by omega)]; exact h3'
  · rw [hC 26 (by omega), hC 30 (by omega), hD 1 (by omega) (by omega)]; exact h5'.1
  · rw [hC 27 (by omega), hC 31 (by omega), hD 1 (by omega) (by omega)]; exact h5'.2
  · have h9 := h8 (by rw [← h4]; exact hk)
    refine ⟨?_, h9.2.cg (fun o ho => hC o (by omega)) (fun k _ => by rw [hD 2 (by omega) (by omega)])⟩
    unfold LawsK
    rw [hC 28 (by omega), hC 29 (by omega), hC 32 (by omega), hC 33 (by omega), hD 2 (by omega) (by omega)]; exact h9.1
theorem Lk_s {o j a b : Nat} (h : Lk o j a b) (ho : 56 ≤ o) : (∃ s, s < 4 ∧ o = 59 + s ∧ ((j = 1 ∧ a = 6 ∧ b = s) ∨ (j = 2 ∧ a = 7 ∧ b = s))) ∨ (∃ s, s < 4 ∧ o = 63 + s ∧ a = 8 ∧ j < 40 ∧ b = 40 * s + j) ∨ (o = 67 ∧ a = 5 ∧ 1 ≤ j ∧ j ≤ 5 ∧ b = j) ∨ (o = 56 ∧ a = 0 ∧ j = 1 ∧ b = 23) ∨ (o = 57 ∧ a = 11 ∧ j < 40 ∧ b = j) := by
  unfold Lk at h
  rcases h with h | h | h | h | h | h | h | h | h | h | h | h | h | h | h | h | h | h | h | h | h | h | h
  · omega
  · omega
  · omega
  · omega
  · omega
  · omega
  · omega
  · omega
  · omega
  · omega
  · omega
  · omega
  · omega
  · omega
  · omega
  · omega
  · exact Or.inl ⟨o - 59, by omega, by omega, Or.inl ⟨h.2.2.1, h.2.2.2.1, h.2.2.2.2⟩⟩
  · exact Or.inl ⟨o - 59, by omega, by omega, Or.inr ⟨h.2.2.1, h.2.2.2.1, h.2.2.2.2⟩⟩
  · exact Or.inr (Or.inl ⟨o - 63, by omega, by omega, h.2.2.1, h.2.2.2.1, h.2.2.2.2⟩)
  · exact Or.inr (Or.inr (Or.inl h))
  · exact Or.inr (Or.inr (Or.inr (Or.inl h)))
  · exact Or.inr (Or.inr (Or.inr (Or.inr h)))
  · omega
theorem Inv.lay {n : Nat} {C D : aw_M} (hI : Inv n C D) {s : Nat} (hs : s < 4) {b l : Int32} (hb : b = 0 ∨ b = 8 ∨ b = 16 ∨ b = 32) (hl : Rb l 0 40) : Inv n (aw_un (aw_u (aw_u C (59 + s) 1 b) (59 + s) 2 l) (63 + s) (fun k => if k < 40 then 0 else (aw_u (aw_u C (59 + s) 1 b) (59 + s) 2 l) (63 + s) k)) (aw_un (aw_u (aw_u D 6 s b) 7 s l) 8 (fun k => if 40 * s + 0 ≤ k ∧ k < 40 * s + 40 then 0 else (aw_u (aw_u D 6 s b) 7 s l) 8 k)) := by
  have i2 := (hI.upd2 (lk_bits hs) (by omega) b (fun _ => hb) (by omega)).upd2 (lk_len hs) (by omega) l (by omega) (fun _ => hl)
  generalize aw_u (aw_u C (59 + s) 1 b) (59 + s) 2 l = C1 at i2 ⊢
  generalize aw_u (aw_u D 6 s b) 7 s l = D1 at i2 ⊢
  refine i2.beside (fun o ho => aw_un_o (by omega)) (fun a h1 h5 => aw_un_o (by omega)) (by rw [aw_un_o (by decide)]) (by rw [aw_un_o (by decide)]) (by rw [aw_un_o (by decide)]; exact i2.2.2.2.1.2) (fun o j a b' hL ho => ?_) (fun t ht => by rw [aw_un_o (by decide), aw_un_o (by decide)]; exact i2.2.2.2.1.1 t ht)
  by_cases c1 : o = 63 + s
  · subst c1
    rcases Lk_s hL ho with ⟨t, ht, e, -⟩ | ⟨t, ht, e, rfl, hj, rfl⟩ | ⟨e, -⟩ | ⟨e, -⟩ | ⟨e, -⟩
    · omega
    · obtain rfl : t = s := by omega
      rw [aw_un_s, aw_un_s, if_pos hj, if_pos (by omega)]
    · omega
    · omega
    · omega
  · rw [aw_un_o c1]
    by_cases c2 : a = 8
    · subst c2
      rw [aw_un_s]
      rcases Lk_s hL ho with ⟨t, ht, e, e'⟩ | ⟨t, ht, e, -, hj, rfl⟩ | ⟨e, e', -⟩ | ⟨e, e', -⟩ | ⟨e, e', -⟩
      · omega
      · rw [if_neg (by omega)]; exact i2.1 _ _ _ _ hL
      · omega
      · omega
      · omega
    · rw [aw_un_o c2]; exact i2.1 _ _ _ _ hL
theorem eq_sheet (a b l : Int32) : op_ok Inv (fc_LB_sheet a b l) (fm_sheet a b l) := by
  intro n C D hn hI
  rcases (Classical.em (0 ≤ a ∧ a ≤ 3)).symm with h | h
  · exact go1 hI (sb (sh_c a C) (sp (if_neg h) rfl)) (sb (sh_m a D) (sp (if_neg h) rfl))
  obtain ⟨s, -, hs, rfl⟩ := rng 0 3 h
  have hs : s < 4 := by omega
  have c1 : (nI s).toNatClampNeg = s := nI_clamp (by omega)
  have hin := ni_f (k := s) (N := 4) hs (by omega)
  have F : ∀ M, fm_sheet_L93 2000 (nI s) 0 M = some (1, aw_un M 8 (fun k => if 40 * s + 0 ≤ k ∧ k < 40 * s + 40 then 0 else M 8 k)) := fun M => fill_m hs 40 0 2000 M (by omega) (by omega)
  simp only [fc_LB_sheet, fm_sheet, sh_c, sh_m, if_pos h, aw_bi_s, i10, if_false, hin, c1, fc_Sh_lay, fm_sheet_J36, fm_sheet_J51, F, fill_c (show 40 < 2000 by omega), aw_bv_s]
  by_cases b0 : b = 0
  · subst b0
    exact go0e (hI.lay hs (Or.inl rfl) (l := 0) ⟨by decide, by decide⟩) rfl rfl rfl
  have rest : (b = 8 ∨ b = 16 ∨ b = 32) → ∃ (r : Int32) (C1 D1 : aw_M), (if 0 ≤ l then if l ≤ 40 then some ((1 : Int32), aw_un (aw_u (aw_u C (59 + s) 1 b) (59 + s) 2 l) (63 + s) (fun k => if k < 40 then 0 else (aw_u (aw_u C (59 + s) 1 b) (59 + s) 2 l) (63 + s) k)) else fc_LB_error 1 C else fc_LB_error 3 C) = some (r, C1) ∧ (if 0 ≤ l then if l ≤ 40 then some ((1 : Int32), aw_un (aw_u (aw_u D 6 s b) 7 s l) 8 (fun k => if 40 * s + 0 ≤ k ∧ k < 40 * s + 40 then 0 else (aw_u (aw_u D 6 s b) 7 s l) 8 k)) else fm_errs (-1000000001) D else fm_errs (-1000000003) D) = some (r, D1) ∧ Inv (n + 1) C1 D1 := by
    intro hb
    by_cases l0 : 0 ≤ l
    · rw [if_pos l0, if_pos l0]
      by_cases l4 : l ≤ 40
      · rw [if_pos l4, if_pos l4]
        exact go0e (hI.lay hs (Or.inr hb) (Rb_le ⟨l0, l4⟩)) rfl rfl rfl
      · rw [if_neg l4, if_neg l4]; exact er1 hI
    · rw [if_neg l0, if_neg l0]; exact er3 hI
  by_cases b8 : b = 8
  · subst b8; exact rest (Or.inl rfl)
  by_cases b16 : b = 16
  · subst b16; exact rest (Or.inr (Or.inl rfl))
  by_cases b32 : b = 32
  · subst b32; exact rest (Or.inr (Or.inr rfl))
  simp only [fc_LB_isWidth, if_neg b0, if_neg b8, if_neg b16, if_neg b32, aw_bi_s, i00, if_true]
  exact er1 hI
-- cloths
theorem n5 {i j : Nat} (h : i < 6) : (13 + 5 * nI i + nI j : Int32) = nI (13 + 5 * i + j) := by
  rw [← nI_add]; rcases (show i = 0 ∨ i = 1 ∨ i = 2 ∨ i = 3 ∨ i = 4 ∨ i = 5 by omega) with rfl | rfl | rfl | rfl | rfl | rfl <;> rfl
theorem its_m {i j : Nat} (hi : i < 6) (hj : j < 5) (M : aw_M) : fm_its (nI i) (nI j) M = some (M 1 (13 + 5 * i + j), M) := by
  unfold fm_its
  rw [n5 hi, if_neg (nI_in (by omega) (by omega)), nI_clamp (by omega)]
theorem gets_m {i j : Nat} (hi : i < 6) (hj : j < 5) (v : Int32) (M : aw_M) : fm_gets (nI i) (nI j) v M = some (aw_u M 1 (13 + 5 * i + j) v) := by
  unfold fm_gets
  rw [n5 hi, if_neg (nI_in (by omega) (by omega)), nI_clamp (by omega)]

theorem its_0 {i : Nat} (hi : i < 6) (M : aw_M) : fm_its (nI i) 0 M = some (M 1 (13 + 5 * i + 0), M) := its_m hi (j := 0) (by omega) M
theorem gets_0 {i : Nat} (hi : i < 6) (v : Int32) (M : aw_M) : fm_gets (nI i) 0 v M = some (aw_u M 1 (13 + 5 * i + 0) v) := gets_m hi (j := 0) (by omega) v M
theorem its_1 {i : Nat} (hi : i < 6) (M : aw_M) : fm_its (nI i) 1 M = some (M 1 (13 + 5 * i + 1), M) := its_m hi (j := 1) (by omega) M
theorem gets_1 {i : Nat} (hi : i < 6) (v : Int32) (M : aw_M) : fm_gets (nI i) 1 v M = some (aw_u M 1 (13 + 5 * i + 1) v) := gets_m hi (j := 1) (by omega) v M
theorem its_2 {i : Nat} (hi : i < 6) (M : aw_M) : fm_its (nI i) 2 M = some (M 1 (13 + 5 * i + 2), M) := its_m hi (j := 2) (by omega) M
theorem gets_2 {i : Nat} (hi : i < 6) (v : Int32) (M : aw_M) : fm_gets (nI i) 2 v M = some (aw_u M 1 (13 + 5 * i + 2) v) := gets_m hi (j := 2) (by omega) v M
theorem its_3 {i : Nat} (hi : i < 6) (M : aw_M) : fm_its (nI i) 3 M = some (M 1 (13 + 5 * i + 3), M) := its_m hi (j := 3) (by omega) M
theorem gets_3 {i : Nat} (hi : i < 6) (v : Int32) (M : aw_M) : fm_gets (nI i) 3 v M = some (aw_u M 1 (13 + 5 * i + 3) v) := gets_m hi (j := 3) (by omega) v M
theorem its_4 {i : Nat} (hi : i < 6) (M : aw_M) : fm_its (nI i) 4 M = some (M 1 (13 + 5 * i + 4), M) := its_m hi (j := 4) (by omega) M
theorem gets_4 {i : Nat} (hi : i < 6) (v : Int32) (M : aw_M) : fm_gets (nI i) 4 v M = some (aw_u M 1 (13 + 5 * i + 4) v) := gets_m hi (j := 4) (by omega) v M
theorem cl_rg {r : Nat → Int32} (h : Rg r) {i j : Nat} (hi : i < 6) (hj : j < 5) : Rb (r (13 + 5 * i + j)) 0 (if j = 0 then 6 else if j ≤ 2 then 9 else 9999) := by
  have := h (13 + 5 * i + j) (by omega) (by omega) (by omega) (by omega)
  unfold hiB at this
  rw [if_neg (by omega), if_neg (by omega), if_neg (by omega), if_neg (by omega), if_neg (by omega), if_neg (by omega), if_neg (by omega), if_neg (by omega), show (13 + 5 * i + j - 13) % 5 = j by omega] at this
  exact this
theorem cl_hi {i j : Nat} (hi : i < 6) (hj : j < 5) : hiB (13 + 5 * i + j) = if j = 0 then 6 else if j ≤ 2 then 9 else 9999 := by
  unfold hiB
  rw [if_neg (by omega), if_neg (by omega), if_neg (by omega), if_neg (by omega), if_neg (by omega), if_neg (by omega), if_neg (by omega), if_neg (by omega), show (13 + 5 * i + j - 13) % 5 = j by omega]
theorem Inv.cl {n : Nat} {C D : aw_M} (h : Inv n C D) {i j : Nat} (hi : i < 6) (hj : j < 5) {v : Int32} (hv : Rb v 0 (if j = 0 then 6 else if j ≤ 2 then 9 else 9999)) : Inv n (aw_u C (14 + i) j v) (aw_u D 1 (13 + 5 * i + j) v) := h.upd1 (lk_cl hi hj) v (fun _ _ => by rw [cl_hi hi hj]; exact hv)
theorem bec_m {k : Nat} (h : k < 213) (v : Int32) (M : aw_M) : fm_becomes (nI k) v M = some (M 1 k, aw_u M 1 k v) := by
  unfold fm_becomes
  rw [if_neg (nI_in h (by omega)), if_neg (nI_in h (by omega)), nI_clamp (by omega)]
theorem eq_change (a b v : Int32) : op_ok Inv (fc_LB_change a b v) (fm_change a b v) := by
  intro n C D hn hI
  rcases (Classical.em (okC a D)).symm with h | h
  · exact go1 hI (sb (hc_c hI a) (sp (if_neg h) rfl)) (sb (ic_m a D) (sp (if_neg h) rfl))
  obtain ⟨i, hi, rfl, -⟩ := hI.ok h
  have c1 : (nI i).toNatClampNeg = i := nI_clamp (by omega)
  have hin := ni_f (k := i) (N := 6) hi (by omega)
  simp only [fc_LB_change, fm_change, hc_c hI, ic_m, if_pos h, aw_bi_s, i10, if_false]
  rcases (Classical.em (0 ≤ b ∧ b ≤ 2)).symm with hb | hb
  · rw [in_n hb, r_no hb]; exact er1 hI
  rw [in_y hb, r_yes hb]
  obtain ⟨j, -, hj, rfl⟩ := rng 0 2 hb
  have ix : ∀ j, j ≤ 2 → (13 + 5 * nI i + 2 + nI j : Int32) = nI (13 + 5 * i + (2 + j)) := by
    intro j hj
    rw [show (13 + 5 * nI i + 2 : Int32) = nI (13 + 5 * i + 2) from n5 (j := 2) hi, nI_add, Nat.add_assoc]
  simp only [fc_LB_change_J34, aw_bi_s, i10, if_false, hin, c1, ix j hj, bec_m (show 13 + 5 * i + (2 + j) < 213 by omega)]
  have E := hI.1 (14 + i) (2 + j) 1 (13 + 5 * i + (2 + j)) (lk_cl hi (by omega))
  rcases (show j = 0 ∨ j = 1 ∨ j = 2 by omega) with rfl | rfl | rfl
  · simp only [show (nI 0 = 0) = True from eq_true rfl, show (nI 0 = 1) = False from eq_false (by decide), if_true, if_false]
    by_cases hv : 0 ≤ v ∧ v ≤ 9
    · simp only [in_y hv, r_yes' hv, aw_bi_s, i10, if_false]; exact go0e (hI.cl (j := 2) hi (by omega) (Rb_le hv)) rfl rfl E
    · simp only [in_n hv, r_no' hv, aw_bi_s, i00, if_true]; exact er1 hI
  · simp only [show (nI 1 = 0) = False from eq_false (by decide), show (nI 1 = 1) = True from eq_true rfl, if_true, if_false]
    by_cases hv : 0 ≤ v ∧ v ≤ 9999
    · simp only [in_y hv, r_yes' hv, aw_bi_s, i10, if_false]; exact go0e (hI.cl (j := 3) hi (by omega) (Rb_le hv)) rfl rfl E
    · simp only [in_n hv, r_no' hv, aw_bi_s, i00, if_true]; exact er1 hI
  · simp only [show (nI 2 = 0) = False from eq_false (by decide), show (nI 2 = 1) = False from eq_false (by decide), if_true, if_false]
    by_cases hv : 0 ≤ v ∧ v ≤ 9999
    · simp only [in_y hv, r_yes' hv, aw_bi_s, i10, if_false]; exact go0e (hI.cl (j := 4) hi (by omega) (Rb_le hv)) rfl rfl E
    · simp only [in_n hv, r_no' hv, aw_bi_s, i00, if_true]; exact er1 hI

