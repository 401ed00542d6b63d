def bD (w : Int64) (j : Nat) : Int32 := ((w >>> ((8 * nI j).toInt64 &&& 63)) &&& 255).toInt32
def bC (w : Int64) (j : Nat) : Int32 := (((aw_lush w (8 * nI j)).toInt32).toInt8.toInt32).toInt8.toInt32
theorem se_i {w v i : Nat} (x : BitVec w) (h : i < w) (h' : i < v) : (x.signExtend v).getLsbD i = x.getLsbD i := by
  rw [BitVec.getLsbD_signExtend, if_pos h, decide_eq_true h', Bool.true_and]
theorem bits_a (x y : BitVec 64) (h : ∀ i, i < 8 → x.getLsbD i = y.getLsbD i) : (x &&& 255#64).signExtend 32 = (((((y.signExtend 32).signExtend 8).signExtend 32).signExtend 8).signExtend 32) &&& 255#32 := by
  have f64 : ∀ i, i < 64 → (255#64).getLsbD i = decide (i < 8) := by decide +kernel
  have f32 : ∀ i, i < 32 → (255#32).getLsbD i = decide (i < 8) := by decide +kernel
  apply BitVec.eq_of_getLsbD_eq
  intro i hi
  rw [BitVec.getLsbD_and, f32 i hi, se_i _ (by omega) hi, BitVec.getLsbD_and, f64 i (by omega)]
  by_cases c : i < 8
  · rw [h i c, se_i _ c hi, se_i _ hi c, se_i _ c hi, se_i _ hi c, se_i _ (by omega) hi]
  · rw [decide_eq_false c, Bool.and_false, Bool.and_false]
theorem bits_s (x : BitVec 64) (s : Nat) (hs : s ≤ 56) : ∀ i, i < 8 → (x.sshiftRight s).getLsbD i = (x >>> s).getLsbD i := by
  intro i hi
  rw [BitVec.getLsbD_sshiftRight, BitVec.getLsbD_ushiftRight]
  simp [show s + i < 64 by omega, show ¬ 64 ≤ i by omega]
theorem bD_bC (w : Int64) {j : Nat} (h : j < 8) : bD w j = bC w j &&& 255 := by
  apply Int32.toBitVec_inj.mp
  rcases (show j = 0 ∨ j = 1 ∨ j = 2 ∨ j = 3 ∨ j = 4 ∨ j = 5 ∨ j = 6 ∨ j = 7 by omega) with rfl | rfl | rfl | rfl | rfl | rfl | rfl | rfl
  · exact bits_a (w.toBitVec.sshiftRight 0) (w.toBitVec >>> 0) (bits_s _ 0 (by omega))
  · exact bits_a (w.toBitVec.sshiftRight 8) (w.toBitVec >>> 8) (bits_s _ 8 (by omega))
  · exact bits_a (w.toBitVec.sshiftRight 16) (w.toBitVec >>> 16) (bits_s _ 16 (by omega))
  · exact bits_a (w.toBitVec.sshiftRight 24) (w.toBitVec >>> 24) (bits_s _ 24 (by omega))
  · exact bits_a (w.toBitVec.sshiftRight 32) (w.toBitVec >>> 32) (bits_s _ 32 (by omega))
  · exact bits_a (w.toBitVec.sshiftRight 40) (w.toBitVec >>> 40) (bits_s _ 40 (by omega))
  · exact bits_a (w.toBitVec.sshiftRight 48) (w.toBitVec >>> 48) (bits_s _ 48 (by omega))
  · exact bits_a (w.toBitVec.sshiftRight 56) (w.toBitVec >>> 56) (bits_s _ 56 (by omega))
theorem feed_lc {w : Int64} {tl n : Nat} (h : tl + n ≤ 50) : ∀ (d i f : Nat) (M : aw_M), i + d = n → d < f → M 1 6 = nI tl → fc_LB_feed_L40 f w (nI n) (nI i) M = some (nI (tl + n), aw_u (aw_un M 10 (fun k => if tl + i ≤ k ∧ k < tl + n then bC w (k - tl) else M 10 k)) 1 6 (nI (tl + n))) := by
  intro d
  induction d with
  | zero =>
    intro i f M hi hf e
    obtain ⟨f, rfl⟩ : ∃ g, f = g + 1 := ⟨f - 1, by omega⟩
    rw [fc_LB_feed_L40_s, if_pos (nI_le (by omega) (by omega)), aw_u_s, e, nI_add]
    rw [show (fun k => if tl + i ≤ k ∧ k < tl + n then bC w (k - tl) else M 10 k) = M 10 from funext fun k => if_neg (by omega), aw_un_e]
  | succ d ih =>
    intro i f M hi hf e
    obtain ⟨f, rfl⟩ : ∃ g, f = g + 1 := ⟨f - 1, by omega⟩
    rw [fc_LB_feed_L40_s, if_neg (nI_ge (by omega) (by omega)), e, nI_add, if_neg (nI_in (by omega) (by omega)), nI_clamp (by omega), nI_1, ih (i + 1) f _ (by omega) (by omega) (by rw [aw_u_o 6 (by decide)]; exact e)]
    congr 3
    show aw_un (aw_un M 10 _) 10 _ = _
    rw [aw_un_un]
    congr 1
    funext k
    rw [aw_u_if]
    by_cases c : k = tl + i
    · subst c; rw [if_neg (by omega), if_pos ⟨rfl, rfl⟩, if_pos (by omega), show tl + i - tl = i by omega]; rfl
    · rw [if_neg (show ¬ (10 = 10 ∧ k = tl + i) from fun q => c q.2)]
      by_cases c2 : tl + (i + 1) ≤ k ∧ k < tl + n
      · rw [if_pos c2, if_pos (by omega)]
      · rw [if_neg c2, if_neg (by omega)]
theorem feed_lm {w : Int64} {tl n : Nat} (h : tl + n ≤ 50) : ∀ (d i f : Nat) (M : aw_M), i + d = n → d < f → M 1 3 = nI (tl + i) → fm_feed_L40 f w (nI n) (nI i) M = some (nI (tl + n), aw_un M 1 (fun b => if b = 3 then nI (tl + n) else if 43 + tl + i ≤ b ∧ b < 43 + tl + n then bD w (b - 43 - tl) else M 1 b)) := by
  intro d
  induction d with
  | zero =>
    intro i f M hi hf e
    obtain ⟨f, rfl⟩ : ∃ g, f = g + 1 := ⟨f - 1, by omega⟩
    rw [fm_feed_L40_s, if_pos (nI_le (by omega) (by omega)), e, show i = n by omega]
    rw [show (fun b => if b = 3 then nI (tl + n) else if 43 + tl + n ≤ b ∧ b < 43 + tl + n then bD w (b - 43 - tl) else M 1 b) = M 1 from funext fun k => by
      by_cases c : k = 3
      · rw [if_pos c, c, e, show i = n by omega]
      · rw [if_neg c, if_neg (by omega)], aw_un_e]
  | succ d ih =>
    intro i f M hi hf e
    obtain ⟨f, rfl⟩ : ∃ g, f = g + 1 := ⟨f - 1, by omega⟩
    have e43 : (43 + nI (tl + i) : Int32) = nI (43 + (tl + i)) := nI_add 43 (tl + i)
    rw [fm_feed_L40_s, if_neg (nI_ge (by omega) (by omega)), e, e43, if_neg (nI_in (by omega) (by omega)), nI_clamp (by omega), nI_1, aw_u_j 1 (show 3 ≠ 43 + (tl + i) by omega), e, nI_1, ih (i + 1) f _ (by omega) (by omega) (by rw [aw_u_s, Nat.add_assoc])]
    congr 2
    show aw_un (aw_un (aw_un M 1 _) 1 _) 1 _ = _
    rw [aw_un_un, aw_un_un]
    congr 1
    funext k
    by_cases c3 : k = 3
    · rw [if_pos c3, if_pos c3]
    rw [if_neg c3, if_neg c3, aw_u_j 1 c3, aw_u_if]
    by_cases c : k = 43 + (tl + i)
    · subst c; rw [if_neg (by omega), if_pos ⟨rfl, rfl⟩, if_pos (by omega), show 43 + (tl + i) - 43 - tl = i by omega]; rfl
    · rw [if_neg (show ¬ (1 = 1 ∧ k = 43 + (tl + i)) from fun q => c q.2)]
      by_cases c2 : 43 + tl + (i + 1) ≤ k ∧ k < 43 + tl + n
      · rw [if_pos c2, if_pos (by omega)]
      · rw [if_neg c2, if_neg (by omega)]
/-- the tape changes, and its length -/
theorem Inv.tape {n : Nat} {C D : aw_M} (hI : Inv n C D) {t r : Nat → Int32} {l : Nat} (hl : l ≤ 50) (h3 : r 3 = nI l) (hr : ∀ k, k ≠ 3 → (k < 43 ∨ 93 ≤ k) → r k = D 1 k) (ht : ∀ k, k < 50 → r (43 + k) = t k &&& 255 ∧ fits .byte (.int (t k)) = true) : Inv n (aw_u (aw_un C 10 t) 1 6 (nI l)) (aw_un D 1 r) := by
  obtain ⟨h1, ⟨h2, h2'⟩, ⟨g3, g3'⟩, ⟨h4, h4'⟩, h5, h6, h8⟩ := hI
  have eD : ∀ a, a ≠ 1 → aw_un D 1 r a = D a := fun a ha => aw_un_o ha
  have eC : ∀ a, a ≠ 1 → a ≠ 10 → aw_u (aw_un C 10 t) 1 6 (nI l) a = C a := fun a ha hb => by rw [aw_u_row ha, aw_un_o hb]
  refine ⟨fun o j a b hL => ?_, ⟨fun k hk => ?_, ?_⟩, ⟨fun b b1 b2 b3 b4 => ?_, ?_⟩, ⟨?_, ?_⟩, ⟨?_, ?_⟩, ?_, ?_⟩
  · by_cases c : o = 1 ∧ j = 6
    · obtain ⟨rfl, rfl⟩ := c
      obtain ⟨rfl, rfl⟩ := Lk_fun hL lk_tl
      rw [aw_u_s, aw_un_s, h3]
    · have hb : a = 1 → b ≠ 3 ∧ (b < 43 ∨ 93 ≤ b) := by
        rintro rfl
        refine ⟨fun q => ?_, ?_⟩
        · subst q; exact c (Lk_inj hL lk_tl)
        · unfold Lk at hL
          rcases hL with h | h | h | h | h | h | h | h | h | h | h | h | h | h | h | h | h | h | h | h | h | h | h <;> omega
      have ho : o ≠ 10 := by
        unfold Lk at hL
        rcases hL with h | h | h | h | h | h | h | h | h | h | h | h | h | h | h | h | h | h | h | h | h | h | h <;> omega
      rw [aw_u_if, if_neg c, aw_un_o ho, h1 o j a b hL]
      by_cases ca : a = 1
      · subst ca; rw [aw_un_s, hr b (hb rfl).1 (hb rfl).2]
      · rw [aw_un_o ca]
  · rw [aw_u_row (by decide), aw_un_s, aw_un_s]; exact ht k hk
  · rw [eC 11 (by decide) (by decide), eD 2 (by decide)]; exact h2'
  · rw [aw_un_s]
    by_cases c : b = 3
    · subst c; rw [h3]; unfold Rb; rw [nI_toInt (by omega)]; show (0 : Int) ≤ _ ∧ _ ≤ (50 : Int); omega
    · rw [hr b c (by omega)]; exact g3 b b1 b2 b3 b4
  · rw [eD 2 (by decide)]; exact g3'
  · intro s hs; rw [eD 6 (by decide), eD 7 (by decide)]; exact h4 s hs
  · rw [eD 0 (by decide)]; exact h4'
  · rw [eC 26 (by decide) (by decide), eC 30 (by decide) (by decide), aw_un_s, hr 5 (by decide) (by omega)]; exact h5.1.cg (fun k hk => hr (113 + k) (by omega) (by omega))
  · rw [eC 27 (by decide) (by decide), eC 31 (by decide) (by decide), aw_un_s, hr 6 (by decide) (by omega)]; exact h5.2.cg (fun k hk => hr (163 + k) (by omega) (by omega))
  · rw [eD 0 (by decide)]; exact h6
  · intro hk
    rw [eD 0 (by decide)] at hk
    refine ⟨?_, (h8 hk).2.cg (fun o ho => eC o (by omega) (by omega)) (fun k _ => by rw [eD 2 (by decide)])⟩
    unfold LawsK
    rw [eC 28 (by decide) (by decide), eC 29 (by decide) (by decide), eC 32 (by decide) (by decide), eC 33 (by decide) (by decide), eD 2 (by decide)]; exact (h8 hk).1
theorem eq_feed (w : Int64) (a : Int32) : op_ok Inv (fc_LB_feed w a) (fm_feed w a) := by
  intro n C D hn hI
  obtain ⟨tl, htl, e⟩ := hI.row.at 3 50
  have e' : C 1 6 = nI tl := (hI.1 _ _ _ _ lk_tl).trans e
  rcases (Classical.em (1 ≤ a ∧ a ≤ 8)).symm with h | h
  · refine go1 hI ?_ (sb (in_n h) rfl)
    unfold fc_LB_feed
    by_cases h1 : a < 1
    · rw [if_pos h1]
    · rw [if_neg h1, if_neg]
      intro h2; exact h ⟨Int32.not_lt.mp h1, h2⟩
  obtain ⟨k, hk1, hk, rfl⟩ := rng 1 8 h
  have p1 : ¬ nI k < 1 := nI_nlt (b := 1) (by omega) (by omega)
  have p2 : nI k ≤ 8 := nI_le (b := 8) (by omega) (by omega)
  simp only [fc_LB_feed, fm_feed, in_y h, bi_n, i10, if_false, if_neg p1, if_pos p2, e, e', nI_add]
  by_cases c : tl + k ≤ 50
  · have p3 : nI (tl + k) ≤ 50 := nI_le (b := 50) (by omega) (by omega)
    simp only [if_pos p3]
    have g1 := feed_lc (w := w) c k 0 2000 C (by omega) (by omega) e'
    have g2 := feed_lm (w := w) c k 0 2000 D (by omega) (by omega) e
    rw [nI_0] at g1 g2
    refine go0e (hI.tape c ?_ ?_ ?_) g1 g2 rfl
    · exact if_pos rfl
    · intro q q3 q4
      rw [if_neg q3, if_neg (by omega)]
    · intro q hq
      by_cases cq : tl + 0 ≤ q ∧ q < tl + k
      · rw [if_neg (by omega), if_pos (by omega), if_pos cq, show 43 + q - 43 - tl = q - tl by omega]
        exact ⟨bD_bC w (by omega), fits8 _⟩
      · rw [if_neg (by omega), if_neg (by omega), if_neg cq]
        exact hI.2.1.1 q hq
  · have p3 : ¬ nI (tl + k) ≤ 50 := nI_ge (a := 50) (by omega) (by omega)
    simp only [if_neg p3]
    exact er4 hI
