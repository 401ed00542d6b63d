-- laws
def hl (x lo hi : Int32) : Int32 := aw_max lo (aw_min hi x)
theorem hl_c (x lo hi : Int32) (M : aw_M) : fc_LB_held x lo hi M = some (hl x lo hi, M) := rfl
theorem hl_m {lo hi : Int32} (h : lo ≤ hi) (x : Int32) (M : aw_M) : fm_held x lo hi M = some (hl x lo hi, M) := by
  unfold fm_held hl aw_max aw_min
  rw [le_i] at h
  by_cases h1 : lo ≤ x
  · rw [if_pos h1]
    by_cases h2 : x ≤ hi
    · rw [if_pos h2]
      by_cases h3 : x < hi
      · rw [if_pos h3]
        by_cases h4 : lo < x
        · rw [if_pos h4]
        · rw [if_neg h4]; congr 2; apply Int32.toInt_inj.mp; rw [lt_i] at h4; rw [le_i] at h1; omega
      · have e : x = hi := by apply Int32.toInt_inj.mp; rw [lt_i] at h3; rw [le_i] at h2; omega
        rw [if_neg h3, e]
        by_cases h4 : lo < hi
        · rw [if_pos h4]
        · rw [if_neg h4]; congr 2; apply Int32.toInt_inj.mp; rw [lt_i] at h4; omega
    · rw [if_neg h2, if_neg (show ¬ x < hi from fun q => h2 (by rw [lt_i] at q; rw [le_i]; omega))]
      by_cases h4 : lo < hi
      · rw [if_pos h4]
      · rw [if_neg h4]; congr 2; apply Int32.toInt_inj.mp; rw [lt_i] at h4; omega
  · rw [if_neg h1]
    rw [le_i] at h1
    rw [if_pos (show x < hi by rw [lt_i]; omega), if_neg (show ¬ lo < x by rw [lt_i]; omega)]
theorem hl_rg {lo hi : Int32} {a b : Int} (x : Int32) (ha : lo.toInt = a) (hb : hi.toInt = b) (h : a ≤ b) : Rb (hl x lo hi) a b := by
  unfold Rb hl aw_max aw_min
  by_cases h3 : x < hi
  · rw [if_pos h3]; rw [lt_i] at h3
    by_cases h4 : lo < x
    · rw [if_pos h4]; rw [lt_i] at h4; omega
    · rw [if_neg h4]; omega
  · rw [if_neg h3]
    by_cases h4 : lo < hi
    · rw [if_pos h4]; rw [lt_i] at h4; omega
    · rw [if_neg h4]; omega
/-- both sides' laws give L, wherever laws and texts stand so -/
def CL (L : Nat → Int32 → Int32 → Int32 → Int32) (C : aw_M) : Prop := ∀ M : aw_M, M 26 2 = C 26 2 → M 27 2 = C 27 2 → M 30 = C 30 → M 31 = C 31 → ∀ u, u < 2 → ∀ a b c, ∃ C', fc_St_gives (nI u) a b c M = some (L u a b c, C') ∧ ∀ o, o ≠ 34 → o ≠ 35 → C' o = M o
def DL (L : Nat → Int32 → Int32 → Int32 → Int32) (D : aw_M) : Prop := ∀ M : aw_M, (∀ k, k = 5 ∨ k = 6 ∨ (113 ≤ k ∧ k < 213) → M 1 k = D 1 k) → ∀ u, u < 2 → ∀ a b c, ∃ z, fm_lawOf (nI u) a b c M = some (L u a b c, aw_un M 0 z) ∧ ∀ j, ¬ jR j → z j = M 0 j
theorem CL.cg {L : Nat → Int32 → Int32 → Int32 → Int32} {C C' : aw_M} (h : CL L C) (h26 : C' 26 2 = C 26 2) (h27 : C' 27 2 = C 27 2) (h30 : C' 30 = C 30) (h31 : C' 31 = C 31) : CL L C' := fun M a b c d => h M (a.trans h26) (b.trans h27) (c.trans h30) (d.trans h31)
theorem DL.cg {L : Nat → Int32 → Int32 → Int32 → Int32} {D D' : aw_M} (h : DL L D) (e : ∀ k, k = 5 ∨ k = 6 ∨ (113 ≤ k ∧ k < 213) → D' 1 k = D 1 k) : DL L D' := fun M q => h M (fun k hk => (q k hk).trans (e k hk))
def LR (L : Nat → Int32 → Int32 → Int32 → Int32) : Prop := (∀ a b c, Rb (L 0 a b c) (-9) 19) ∧ ∀ a b c, Rb (L 1 a b c) 0 9
theorem jR_same {M : aw_M} : ∃ z, M = aw_un M 0 z ∧ ∀ j, ¬ jR j → z j = M 0 j := ⟨M 0, (aw_un_e M 0).symm, fun _ _ => rfl⟩
theorem law_one {u : Nat} (hu : u < 2) {len sz : Int32} {st tx : Nat → Int32} (h : LawR u len st sz tx) : ∃ g : Int32 → Int32 → Int32 → Int32, (∀ a b c, Rb (g a b c) (if u = 0 then -9 else 0) (if u = 0 then 19 else 9)) ∧
    (∀ M : aw_M, M (26 + u) 2 = len → M (30 + u) = st → ∀ a b c, ∃ C', fc_St_gives (nI u) a b c M = some (g a b c, C') ∧ ∀ o, o ≠ 34 → o ≠ 35 → C' o = M o) ∧
    (∀ M : aw_M, M 1 (5 + u) = sz → (∀ k, k < 50 → M 1 (113 + 50 * u + k) = tx k) → ∀ a b c, ∃ z, fm_lawOf (nI u) a b c M = some (g a b c, aw_un M 0 z) ∧ ∀ j, ¬ jR j → z j = M 0 j) := by
  rcases h with ⟨h1, h2⟩ | ⟨h1, h2, f, h3, h4⟩
  · rcases (show u = 0 ∨ u = 1 by omega) with rfl | rfl
    · refine ⟨fun a _ _ => hl (2 + a / 2) (-9) 19, fun a b c => hl_rg _ (by decide) (by decide) (by decide), fun M g1 g2 a b c => ⟨M, ?_, fun _ _ _ => rfl⟩, fun M g1 g2 a b c => ?_⟩
      · unfold fc_St_gives
        rw [if_pos nI_0, if_pos (g1.trans h1)]; rfl
      · obtain ⟨z, e, hz⟩ := jR_same (M := M)
        refine ⟨z, ?_, hz⟩
        unfold fm_lawOf fm_lawOf_J23
        rw [← e, if_pos nI_0, if_pos nI_0, if_neg (by decide), show (5 + nI 0 : Int32).toNatClampNeg = 5 + 0 by decide, g1, h2, if_pos (by decide), if_pos nI_0, hl_m (by decide)]; rfl
    · refine ⟨fun _ _ _ => 4, fun a b c => (show Rb (4 : Int32) 0 9 from ⟨by decide, by decide⟩), fun M g1 g2 a b c => ⟨M, ?_, fun _ _ _ => rfl⟩, fun M g1 g2 a b c => ?_⟩
      · unfold fc_St_gives
        rw [if_neg (by decide), if_pos (g1.trans h1)]; rfl
      · obtain ⟨z, e, hz⟩ := jR_same (M := M)
        refine ⟨z, ?_, hz⟩
        unfold fm_lawOf fm_lawOf_J23
        rw [← e, if_neg (by decide), if_neg (by decide), if_neg (by decide), show (5 + nI 1 : Int32).toNatClampNeg = 5 + 1 by decide, g1, h2, if_pos (by decide), if_neg (by decide)]
  · have z1 : ¬ len = 0 := fun q => by rw [q] at h1; exact absurd h1.1 (by decide)
    have z2 : ¬ sz < 0 := fun q => by have := h2.1; rw [lt_i, show (0 : Int32).toInt = 0 by decide] at q; omega
    rcases (show u = 0 ∨ u = 1 by omega) with rfl | rfl
    · refine ⟨fun a b c => hl (f a b c) (-9) 19, fun a b c => hl_rg _ (by decide) (by decide) (by decide), fun M g1 g2 a b c => ?_, fun M g1 g2 a b c => ?_⟩
      · obtain ⟨z, e⟩ := h3 M 0 (by omega) g1 (fun k _ => by rw [g2]) a b c
        refine ⟨_, ?_, fun o h34 h35 => aw_un_o (f := z) h34⟩
        unfold fc_St_gives
        rw [if_pos nI_0, if_neg (by rw [show M 26 2 = len from g1]; exact z1), e]; rfl
      · obtain ⟨z, e, hz⟩ := h4 M g1 g2 a b c
        refine ⟨z, ?_, hz⟩
        unfold fm_lawOf fm_lawOf_J23
        rw [if_pos nI_0, if_pos nI_0, if_neg (by decide), show (5 + nI 0 : Int32).toNatClampNeg = 5 + 0 by decide, g1, if_neg z2, e, aw_bi_s, hl_m (by decide)]
    · refine ⟨fun a b c => hl (f a b c) 0 9, fun a b c => hl_rg _ (by decide) (by decide) (by decide), fun M g1 g2 a b c => ?_, fun M g1 g2 a b c => ?_⟩
      · obtain ⟨z, e⟩ := h3 M 1 (by omega) g1 (fun k _ => by rw [g2]) a b c
        refine ⟨_, ?_, fun o h34 h35 => aw_un_o (f := z) h35⟩
        unfold fc_St_gives
        rw [if_neg (by decide), if_neg (by rw [show M 27 2 = len from g1]; exact z1), e]; rfl
      · obtain ⟨z, e, hz⟩ := h4 M g1 g2 a b c
        refine ⟨z, ?_, hz⟩
        unfold fm_lawOf fm_lawOf_J23
        rw [if_neg (by decide), if_neg (by decide), if_neg (by decide), show (5 + nI 1 : Int32).toNatClampNeg = 5 + 1 by decide, g1, if_neg z2, e, aw_bi_s, hl_m (by decide)]
theorem laws_L {C D : aw_M} (h : Laws C D) : ∃ L, CL L C ∧ DL L D ∧ LR L := by
  obtain ⟨g0, r0, c0, d0⟩ := law_one (u := 0) (by omega) h.1
  obtain ⟨g1, r1, c1, d1⟩ := law_one (u := 1) (by omega) h.2
  refine ⟨fun u => if u = 0 then g0 else g1, ?_, ?_, ⟨fun a b c => r0 a b c, fun a b c => r1 a b c⟩⟩
  · intro M h26 h27 h30 h31 u hu a b c
    rcases (show u = 0 ∨ u = 1 by omega) with rfl | rfl
    · exact c0 M h26 h30 a b c
    · exact c1 M h27 h31 a b c
  · intro M q u hu a b c
    rcases (show u = 0 ∨ u = 1 by omega) with rfl | rfl
    · exact d0 M (q 5 (by omega)) (fun k hk => q (113 + k) (by omega)) a b c
    · exact d1 M (q 6 (by omega)) (fun k hk => q (163 + k) (by omega)) a b c
theorem SD_z {M : aw_M} {z : Nat → Int32} (hz : ∀ j, ¬ jR j → z j = M 0 j) : SD M (aw_un M 0 z) := by
  refine ⟨fun k _ => by rw [aw_un_o (by decide)], fun k _ => by rw [aw_un_o (by decide)], fun o ho => aw_un_o (by omega), fun j hj => ?_⟩
  rw [aw_un_s]
  exact hz j (by unfold jR; omega)
theorem SC_o {M C' : aw_M} (h : ∀ o, o ≠ 34 → o ≠ 35 → C' o = M o) : SC M C' := ⟨fun o ho => h o (by omega) (by omega), by rw [h 56 (by decide) (by decide)]⟩
theorem eq_law (u a b c : Int32) : op_ok Inv (fc_LB_law u a b c) (fm_law u a b c) := by
  intro n C D hn hI
  rcases (Classical.em (0 ≤ u ∧ u ≤ 1)).symm with h | h
  · exact go1 hI (sb (us_c u C) (sp (if_neg h) rfl)) (sb (in_n h) rfl)
  simp only [fc_LB_law, fm_law, us_c, if_pos h, in_y h, bi_n, i10, if_false, bi_id]
  obtain ⟨k, -, hk, rfl⟩ := rng 0 1 h
  obtain ⟨L, l1, l2, -⟩ := laws_L hI.2.2.2.2.1
  obtain ⟨C', e1, x1⟩ := l1 C rfl rfl rfl rfl k (by omega) a b c
  obtain ⟨z, e2, x2⟩ := l2 D (fun _ _ => rfl) k (by omega) a b c
  exact go0e (hI.same (SC_o x1) (SD_z x2)) e1 e2 rfl
-- feed
theorem fits8 (b : Int8) : fits .byte (.int b.toInt32) = true := by
  have e : b.toInt32.toInt = b.toInt := Int8.toInt_toInt32 b
  have h1 := Int8.le_toInt b
  have h2 := Int8.toInt_lt b
  simp only [fits, Bool.and_eq_true, decide_eq_true_eq]
  rw [le_i, le_i, e, show (-128 : Int32).toInt = -128 by decide, show (127 : Int32).toInt = 127 by decide]
  constructor <;> omega
