-- cures
def ub0 (S : Nat) : Bool := S % 2 = 1
def ub1 (S : Nat) : Bool := S / 2 % 2 = 1
def ub2 (S : Nat) : Bool := S / 4 % 2 = 1
def tS (S : Nat) (x : Int32) : Int32 := if ub2 S then (if ub1 S then (if ub0 S then x + 11 else x) + 20 else (if ub0 S then x + 11 else x)) + 9 else (if ub1 S then (if ub0 S then x + 11 else x) + 20 else (if ub0 S then x + 11 else x))
theorem s8 {S : Nat} (h : S < 8) : S = 0 ∨ S = 1 ∨ S = 2 ∨ S = 3 ∨ S = 4 ∨ S = 5 ∨ S = 6 ∨ S = 7 := by omega
theorem secs_f (f : Nat) {S : Nat} (h : S < 8) (x : Int32) (M : aw_M) : fc_LB_cureSeconds_L40 (f + 4) (nI S) x 0 M = some (tS S x, M) := by
  rcases s8 h with rfl | rfl | rfl | rfl | rfl | rfl | rfl | rfl <;> rfl
def tm (S : Nat) (kn sc k s : Int32) : Int32 := tS S ((2 * (aw_abs (k - kn))) + (5 * (aw_abs (s - sc))))
theorem secs_c {S : Nat} (h : S < 8) (k s : Int32) (M : aw_M) : fc_LB_cureSeconds (nI S) k s M = some (tm S (M 3 1) (M 3 2) k s, M) := secs_f 1996 h _ M
def uc0 (S : Nat) (M : aw_M) : aw_M := if ub0 S then aw_u M 5 0 0 else M
def uc1 (S : Nat) (M : aw_M) : aw_M := if ub1 S then aw_u M 5 3 0 else M
def uc2 (S : Nat) (M : aw_M) : aw_M := if ub2 S then aw_u M 5 4 0 else M
theorem think_f (f : Nat) {S : Nat} (h : S < 8) (M : aw_M) : fc_LB_thinkOfDeeds_L16 (f + 4) (nI S) 0 M = some (uc2 S (uc1 S (uc0 S M))) := by
  rcases s8 h with rfl | rfl | rfl | rfl | rfl | rfl | rfl | rfl <;> rfl
theorem c_o (S : Nat) (M : aw_M) : ∀ o, o ≠ 5 → (uc2 S (uc1 S (uc0 S M))) o = M o := by
  intro o ho
  unfold uc2 uc1 uc0
  cases ub0 S <;> cases ub1 S <;> cases ub2 S <;> simp only [if_true, if_false, Bool.false_eq_true, aw_u_row ho]
theorem c_5 (S : Nat) (M : aw_M) (j : Nat) : (uc2 S (uc1 S (uc0 S M))) 5 j = if j = 0 ∧ ub0 S = true then 0 else if j = 3 ∧ ub1 S = true then 0 else if j = 4 ∧ ub2 S = true then 0 else M 5 j := by
  unfold uc2 uc1 uc0
  cases ub0 S <;> cases ub1 S <;> cases ub2 S <;> simp only [if_true, if_false, Bool.false_eq_true, aw_u_if, and_true, and_false, true_and]
  · by_cases h3 : j = 3
    · subst h3; rfl
    · simp only [h3, if_false]
  · by_cases h3 : j = 0
    · subst h3; rfl
    · simp only [h3, if_false]
  · by_cases h3 : j = 0
    · subst h3; rfl
    · simp only [h3, if_false]
  · by_cases h3 : j = 0
    · subst h3; rfl
    · by_cases h4 : j = 3
      · subst h4; rfl
      · simp only [h3, h4, if_false]
def ue0 (S : Nat) (M : aw_M) : aw_M := if ub0 S then aw_u (aw_u M 1 7 0) 1 0 (M 1 0 + 11) else M
def ue1 (S : Nat) (M : aw_M) : aw_M := if ub1 S then aw_u (aw_u M 1 10 0) 1 0 (M 1 0 + 20) else M
def ue2 (S : Nat) (M : aw_M) : aw_M := if ub2 S then aw_u (aw_u M 1 11 0) 1 0 (M 1 0 + 9) else M
theorem does0 (M : aw_M) : fm_does 0 M = some (aw_u (aw_u M 1 7 0) 1 0 (M 1 0 + 11)) := does_m (d := 0) (by omega) M
theorem does1 (M : aw_M) : fm_does 1 M = some (aw_u (aw_u M 1 10 0) 1 0 (M 1 0 + 20)) := does_m (d := 1) (by omega) M
theorem does2 (M : aw_M) : fm_does 2 M = some (aw_u (aw_u M 1 11 0) 1 0 (M 1 0 + 9)) := does_m (d := 2) (by omega) M
theorem las0 (M : aw_M) : fm_lasts 0 M = some (11, M) := rfl
theorem las1 (M : aw_M) : fm_lasts 1 M = some (20, M) := rfl
theorem las2 (M : aw_M) : fm_lasts 2 M = some (9, M) := rfl
theorem deeds_f (K : Int32 → Int32 → Int32 → Int32 → Int32 → aw_M → Option (Int32 × aw_M)) (f : Nat) {S : Nat} (h : S < 8) (p1 p2 p3 p4 p5 x : Int32) (M : aw_M) : fm_cure_L102 K (f + 1 + 1 + 1 + 1) p1 p2 p3 p4 p5 (nI S) x 0 M = fm_cure_L102 K (f + 1) p1 p2 p3 p4 p5 (nI S) (tS S x) 3 (ue2 S (ue1 S (ue0 S M))) := by
  have B : ∀ S, S < 8 → (((nI S >>> ((0 : Int32) &&& 31)) &&& 1) = 1 ↔ ub0 S = true) ∧ (((nI S >>> ((1 : Int32) &&& 31)) &&& 1) = 1 ↔ ub1 S = true) ∧ (((nI S >>> ((2 : Int32) &&& 31)) &&& 1) = 1 ↔ ub2 S = true) := by decide +kernel
  have B := B S h
  unfold tS
  have q1 : (0 + 1 : Int32) = 1 := by decide
  have q2 : (1 + 1 : Int32) = 2 := by decide
  have q3 : (2 + 1 : Int32) = 3 := by decide
  rw [fm_cure_L102_s, if_neg (show ¬ (3 : Int32) ≤ 0 by decide), q1]
  have A0 : (if nI S >>> ((0 : Int32) &&& 31) &&& 1 = 1 then aw_bv (fm_does 0 M) fun M_27 => aw_bi (fm_lasts 0 M_27) fun r_29 M_30 => fm_cure_L102 K (f + 1 + 1 + 1) p1 p2 p3 p4 p5 (nI S) (x + r_29) 1 M_30 else fm_cure_L102 K (f + 1 + 1 + 1) p1 p2 p3 p4 p5 (nI S) x 1 M) = fm_cure_L102 K (f + 1 + 1 + 1) p1 p2 p3 p4 p5 (nI S) (if ub0 S then x + 11 else x) 1 (ue0 S M) := by
    unfold ue0
    by_cases c : ub0 S = true
    · rw [if_pos (B.1.mpr c), if_pos c, if_pos c, does0, bv_n, las0, bi_n]
    · rw [if_neg (fun q => c (B.1.mp q)), if_neg c, if_neg c]
  rw [A0, fm_cure_L102_s, if_neg (show ¬ (3 : Int32) ≤ 1 by decide), q2]
  generalize (if ub0 S then x + 11 else x) = x0
  generalize ue0 S M = M0
  have A1 : (if nI S >>> ((1 : Int32) &&& 31) &&& 1 = 1 then aw_bv (fm_does 1 M0) fun M_27 => aw_bi (fm_lasts 1 M_27) fun r_29 M_30 => fm_cure_L102 K (f + 1 + 1) p1 p2 p3 p4 p5 (nI S) (x0 + r_29) 2 M_30 else fm_cure_L102 K (f + 1 + 1) p1 p2 p3 p4 p5 (nI S) x0 2 M0) = fm_cure_L102 K (f + 1 + 1) p1 p2 p3 p4 p5 (nI S) (if ub1 S then x0 + 20 else x0) 2 (ue1 S M0) := by
    unfold ue1
    by_cases c : ub1 S = true
    · rw [if_pos (B.2.1.mpr c), if_pos c, if_pos c, does1, bv_n, las1, bi_n]
    · rw [if_neg (fun q => c (B.2.1.mp q)), if_neg c, if_neg c]
  rw [A1, fm_cure_L102_s, if_neg (show ¬ (3 : Int32) ≤ 2 by decide), q3]
  generalize (if ub1 S then x0 + 20 else x0) = x1
  generalize ue1 S M0 = M1
  unfold ue2
  by_cases c : ub2 S = true
  · rw [if_pos (B.2.2.mpr c), if_pos c, if_pos c, does2, bv_n, las2, bi_n]
  · rw [if_neg (fun q => c (B.2.2.mp q)), if_neg c, if_neg c]
theorem e_td {D A : aw_M} (S : Nat) (h : TD D A) : TD D (ue2 S (ue1 S (ue0 S A))) := by
  have h0 : TD D (ue0 S A) := by
    unfold ue0; cases ub0 S
    · exact h
    · exact (h.u _ (by unfold mv; omega)).u _ (by unfold mv; omega)
  have h1 : TD D (ue1 S (ue0 S A)) := by
    unfold ue1; cases ub1 S
    · exact h0
    · exact (h0.u _ (by unfold mv; omega)).u _ (by unfold mv; omega)
  unfold ue2; cases ub2 S
  · exact h1
  · exact (h1.u _ (by unfold mv; omega)).u _ (by unfold mv; omega)
theorem e_1 (S : Nat) (A : aw_M) (j : Nat) (hj : j < 6) : (ue2 S (ue1 S (ue0 S A))) 1 (7 + j) = if j = 0 ∧ ub0 S = true then 0 else if j = 3 ∧ ub1 S = true then 0 else if j = 4 ∧ ub2 S = true then 0 else A 1 (7 + j) := by
  have h0 : ∀ M : aw_M, (ue0 S M) 1 (7 + j) = if j = 0 ∧ ub0 S = true then 0 else M 1 (7 + j) := by
    intro M
    unfold ue0
    cases ub0 S
    · simp
    · simp only [if_true, and_true]
      rw [aw_u_j 1 (by omega)]
      by_cases c : j = 0
      · subst c; rw [if_pos rfl, aw_u_s]
      · rw [if_neg c, aw_u_j 1 (by omega)]
  have h1 : ∀ M : aw_M, (ue1 S M) 1 (7 + j) = if j = 3 ∧ ub1 S = true then 0 else M 1 (7 + j) := by
    intro M
    unfold ue1
    cases ub1 S
    · simp
    · simp only [if_true, and_true]
      rw [aw_u_j 1 (by omega)]
      by_cases c : j = 3
      · subst c; rw [if_pos rfl, aw_u_s]
      · rw [if_neg c, aw_u_j 1 (by omega)]
  have h2 : ∀ M : aw_M, (ue2 S M) 1 (7 + j) = if j = 4 ∧ ub2 S = true then 0 else M 1 (7 + j) := by
    intro M
    unfold ue2
    cases ub2 S
    · simp
    · simp only [if_true, and_true]
      rw [aw_u_j 1 (by omega)]
      by_cases c : j = 4
      · subst c; rw [if_pos rfl, aw_u_s]
      · rw [if_neg c, aw_u_j 1 (by omega)]
  rw [h2, h1, h0]
  by_cases a : j = 0
  · subst a; simp
  · by_cases b : j = 3
    · subst b; simp
    · by_cases c : j = 4
      · subst c; simp
      · simp [a, b, c]
theorem apart_m : ∀ a, a < 10 → ∀ b, b < 10 → (if nI b ≤ nI a then nI a - nI b else nI b - nI a) = aw_abs (nI b - nI a) := by decide +kernel
theorem ap_m {a b : Nat} (ha : a < 10) (hb : b < 10) (M : aw_M) : fm_apart (nI a) (nI b) M = some (aw_abs (nI b - nI a), M) := by
  rw [← apart_m a ha b hb]
  unfold fm_apart
  by_cases c : nI b ≤ nI a
  · rw [if_pos c, if_pos c]
  · rw [if_neg c, if_neg c]
def BestW (D : aw_M) (b w : Int32) : Prop := b < 0 ∨ ∃ S t, S < 8 ∧ t < 100 ∧ b = nI (1000 * S + t) ∧ w = tm S (D 1 8) (D 1 9) (nI (t / 10)) (nI (t % 10))
/-- within a set of deeds: the thought machine but knob and screw -/
def Ti (S : Nat) (D C' : aw_M) : Prop := ∀ j, j < 6 → j ≠ 1 → j ≠ 2 → C' 5 j = if j = 0 ∧ ub0 S = true then 0 else if j = 3 ∧ ub1 S = true then 0 else if j = 4 ∧ ub2 S = true then 0 else D 1 (7 + j)
theorem cure_l {L : Lw} {n : Nat} {C D : aw_M} (hI : Inv n C D) (l1 : CL L C) (l2 : DL L D) (l3 : LR L) {i S : Nat} (hi : i < 6) (hS : S < 8) (K : Nat → Int32 → Int32 → Int32 → aw_M → Option (Int32 × aw_M)) (p2 : Int32) : ∀ (d t f f2 : Nat) (b w : Int32) (C' A : aw_M), t + d = 100 → d < f → d < f2 → TC C C' → TD D A → (∀ k, k < 213 → A 1 k = D 1 k) → GV L C' i → Ti S D C' → BestW D b w → ∃ b' w' C1 A1, fc_LB_cheapestCure_L23 K f i b w (nI S) (nI t) C' = K i b' w' (nI (S + 1)) C1 ∧ fm_cure_L44 f2 (nI i) p2 b w (nI (100 * S + t)) A = fm_cure_L44 (f2 - d) (nI i) p2 b' w' (nI (100 * S + 100)) A1 ∧ TC C C1 ∧ TD D A1 ∧ (∀ k, k < 213 → A1 1 k = D 1 k) ∧ GV L C1 i ∧ BestW D b' w' := by
  intro d
  induction d with
  | zero =>
    intro t f f2 b w C' A h hf hf2 tc td hr g th bw
    obtain ⟨f, rfl⟩ : ∃ g, f = g + 1 := ⟨f - 1, by omega⟩
    obtain rfl : t = 100 := by omega
    refine ⟨b, w, C', A, ?_, by rw [Nat.sub_zero], tc, td, hr, g, bw⟩
    rw [fc_LB_cheapestCure_L23_s, if_pos (by decide), nI_1]
  | succ d ih =>
    intro t f f2 b w C' A h hf hf2 tc td hr g th bw
    obtain ⟨f, rfl⟩ : ∃ g, f = g + 1 := ⟨f - 1, by omega⟩
    obtain ⟨f2, rfl⟩ : ∃ g, f2 = g + 1 := ⟨f2 - 1, by omega⟩
    obtain ⟨kn, hkn, ekn⟩ := hI.row.at 8 9
    obtain ⟨sc, hsc, esc⟩ := hI.row.at 9 9
    have d10 : nI t / 10 = nI (t / 10) := div_n (b := 10) (by omega) (by omega)
    have m10 : aw_rem (nI t) 10 = nI (t % 10) := rem_n (b := 10) (by omega) (by omega)
    have tq : t / 10 < 10 := by omega
    have tr : t % 10 < 10 := by omega
    -- the class's machine thought of
    have C3 : ∀ o, o ≠ 5 → (aw_u (aw_u C' 5 1 (nI (t / 10))) 5 2 (nI (t % 10))) o = C' o := fun o ho => by rw [aw_u_row ho, aw_u_row ho]
    have x1 : (aw_u (aw_u C' 5 1 (nI (t / 10))) 5 2 (nI (t % 10))) 5 1 = nI (t / 10) := by rw [aw_u_j 5 (by decide), aw_u_s]
    have x2 : (aw_u (aw_u C' 5 1 (nI (t / 10))) 5 2 (nI (t % 10))) 5 2 = nI (t % 10) := aw_u_s _ _ _ _
    have k1 : (aw_u (aw_u C' 5 1 (nI (t / 10))) 5 2 (nI (t % 10))) 3 1 = D 1 8 := by rw [C3 3 (by decide), tc 3 (by decide) (by omega)]; exact hI.1 _ _ _ _ (lk_mach (j := 1) (by omega))
    have k2 : (aw_u (aw_u C' 5 1 (nI (t / 10))) 5 2 (nI (t % 10))) 3 2 = D 1 9 := by rw [C3 3 (by decide), tc 3 (by decide) (by omega)]; exact hI.1 _ _ _ _ (lk_mach (j := 2) (by omega))
    have th' : ∀ j, j < 6 → j ≠ 1 → j ≠ 2 → (aw_u (aw_u C' 5 1 (nI (t / 10))) 5 2 (nI (t % 10))) 5 j = if j = 0 ∧ ub0 S = true then 0 else if j = 3 ∧ ub1 S = true then 0 else if j = 4 ∧ ub2 S = true then 0 else D 1 (7 + j) := fun j hj h1 h2 => by rw [aw_u_j 5 h2, aw_u_j 5 h1]; exact th j hj h1 h2
    have tc3 : TC C (aw_u (aw_u C' 5 1 (nI (t / 10))) 5 2 (nI (t % 10))) := (tc.tr TC.u).tr TC.u
    have g3 : GV L (aw_u (aw_u C' 5 1 (nI (t / 10))) 5 2 (nI (t % 10))) i := g.x C3
    have sec : fc_LB_cureSeconds (nI S) (nI (t / 10)) (nI (t % 10)) (aw_u (aw_u C' 5 1 (nI (t / 10))) 5 2 (nI (t % 10))) = some (tm S (D 1 8) (D 1 9) (nI (t / 10)) (nI (t % 10)), aw_u (aw_u C' 5 1 (nI (t / 10))) 5 2 (nI (t % 10))) := by rw [secs_c hS, k1, k2]
    rw [fc_LB_cheapestCure_L23_s]
    simp only [if_neg (show ¬ (100 : Int32) ≤ nI t from nI_ge (b := 100) (by omega) (by omega)), d10, m10, x1, x2, sec, bi_n]
    generalize aw_u (aw_u C' 5 1 (nI (t / 10))) 5 2 (nI (t % 10)) = Ct at C3 x1 x2 k1 k2 th' tc3 g3 sec ⊢
    -- the reference's
    have cq : nI (100 * S + t) / 10 = nI ((100 * S + t) / 10) := div_n (b := 10) (by omega) (by omega)
    have cq2 : aw_rem (nI ((100 * S + t) / 10)) 10 = nI (t / 10) := by rw [show (10 : Int32) = nI 10 from rfl, rem_n (by omega) (by omega)]; congr 1; omega
    have cr : aw_rem (nI (100 * S + t)) 10 = nI (t % 10) := by rw [show (10 : Int32) = nI 10 from rfl, rem_n (by omega) (by omega)]; congr 1; omega
    have cs : nI (100 * S + t) / 100 = nI S := by rw [show (100 : Int32) = nI 100 from rfl, div_n (by omega) (by omega)]; congr 1; omega
    have cm : aw_rem (nI (100 * S + t)) 100 = nI t := by rw [show (100 : Int32) = nI 100 from rfl, rem_n (by omega) (by omega)]; congr 1; omega
    have a8 : A 1 8 = nI kn := (hr 8 (by omega)).trans ekn
    have a9 : A 1 9 = nI sc := (hr 9 (by omega)).trans esc
    have lim : ¬ (800 : Int32) ≤ nI (100 * S + t) := nI_ge (b := 800) (by omega) (by omega)
    have P1 := ap_m (a := kn) (b := t / 10) (by omega) tq A
    have P2 := ap_m (a := sc) (b := t % 10) (by omega) tr A
    rw [show f2 + 1 - (d + 1) = f2 - d by omega, fm_cure_L44_s]
    simp only [if_neg lim, cq, cq2, cr, cs, a8, a9, P1, P2, bi_n]
    rw [show (2000 : Nat) = 1996 + 1 + 1 + 1 + 1 from rfl, deeds_f _ _ hS, fm_cure_L102_s, if_pos (show (3 : Int32) ≤ 3 by decide), cq, cq2, cr]
    have tmE : tS S (2 * aw_abs (nI (t / 10) - nI kn) + 5 * aw_abs (nI (t % 10) - nI sc)) = tm S (D 1 8) (D 1 9) (nI (t / 10)) (nI (t % 10)) := by unfold tm; rw [ekn, esc]
    have Q : ∀ j, j < 6 → Ct 5 j = (aw_u (aw_u (ue2 S (ue1 S (ue0 S A))) 1 8 (nI (t / 10))) 1 9 (nI (t % 10))) 1 (7 + j) := fun j hj => by
      by_cases j1 : j = 1
      · subst j1; rw [x1, aw_u_j 1 (by decide), aw_u_s]
      by_cases j2 : j = 2
      · subst j2; rw [x2, aw_u_s]
      rw [th' j hj j1 j2, aw_u_j 1 (by omega), aw_u_j 1 (by omega), e_1 S A j hj, hr _ (by omega)]
    have tdA : TD D (aw_u (aw_u (ue2 S (ue1 S (ue0 S A))) 1 8 (nI (t / 10))) 1 9 (nI (t % 10))) := ((e_td S td).u _ (by unfold mv; omega)).u _ (by unfold mv; omega)
    obtain ⟨p, hp, ep, -⟩ := hI.lint
    obtain ⟨p', hp', ep'⟩ : ∃ p', p' ≤ 99 ∧ Ct 5 4 = nI p' := by
      rw [th' 4 (by omega) (by omega) (by omega), if_neg (by omega), if_neg (by omega)]
      by_cases c : ub2 S = true
      · exact ⟨0, by omega, by rw [if_pos ⟨rfl, c⟩]; rfl⟩
      · exact ⟨p, hp, by rw [if_neg (fun q => c q.2)]; exact ep⟩
    have t0 : Ct 5 0 = 0 ∨ Ct 5 0 = 1 := by
      rw [th' 0 (by omega) (by omega) (by omega)]
      by_cases c : ub0 S = true
      · rw [if_pos ⟨rfl, c⟩]; exact Or.inl rfl
      · rw [if_neg (fun q => c q.2), if_neg (by omega), if_neg (by omega)]; exact hI.th.1
    generalize aw_u (aw_u (ue2 S (ue1 S (ue0 S A))) 1 8 (nI (t / 10))) 1 9 (nI (t % 10)) = At at Q tdA ⊢
    obtain ⟨C4, A4, w1, w2, w3, w4, w5⟩ := both_t hI l1 l2 l3 tc3 tdA hi (p := p') g3 (fun j hj _ => Q j hj) (by rw [← Q 0 (by omega)]; exact t0) hp' ep' (by rw [← Q 4 (by omega)]; exact ep')
    obtain ⟨D5, y1, y2, y3, y4⟩ := back_m (tdA.j w5)
    have tc4 : TC C C4 := tc3.tr w3.t
    have g4 : GV L C4 i := w4 i hi g3
    have ti3 : Ti S D Ct := th'
    have ti4 : Ti S D C4 := fun j hj h1 h2 => by rw [w3 5 (by omega)]; exact th' j hj h1 h2
    have nb : (1000 * nI S + nI t : Int32) = nI (1000 * S + t) := by rw [show (1000 * nI S : Int32) = nI (1000 * S) from nI_mul 1000 S, nI_add]
    have nx : (nI (100 * S + t) + 1 : Int32) = nI (100 * S + (t + 1)) := by rw [nI_1, Nat.add_assoc]
    have bw' : BestW D (nI (1000 * S + t)) (tm S (D 1 8) (D 1 9) (nI (t / 10)) (nI (t % 10))) := Or.inr ⟨S, t, hS, by omega, rfl, rfl⟩
    simp only [w1, w2, bi_n, nb, nI_1, tmE]
    by_cases z : mS L At i = 0
    · simp only [if_pos z, fm_cure_J181, y1, bv_n, i10, if_false, cm, nb, nx]
      by_cases bn : b < 0
      · simp only [if_pos bn]
        exact ih (t + 1) f f2 _ _ C4 D5 (by omega) (by omega) (by omega) tc4 y4 y3 g4 ti4 bw'
      · simp only [if_neg bn]
        by_cases wl : w ≤ tm S (D 1 8) (D 1 9) (nI (t / 10)) (nI (t % 10))
        · simp only [if_pos wl]
          exact ih (t + 1) f f2 _ _ Ct D5 (by omega) (by omega) (by omega) tc3 y4 y3 g3 ti3 bw
        · simp only [if_neg wl]
          exact ih (t + 1) f f2 _ _ C4 D5 (by omega) (by omega) (by omega) tc4 y4 y3 g4 ti4 bw'
    · simp only [if_neg z, fm_cure_J181, y1, bv_n, i00, if_true, nx]
      by_cases bn : b < 0
      · simp only [if_pos bn]
        exact ih (t + 1) f f2 _ _ C4 D5 (by omega) (by omega) (by omega) tc4 y4 y3 g4 ti4 bw
      · simp only [if_neg bn]
        by_cases wl : w ≤ tm S (D 1 8) (D 1 9) (nI (t / 10)) (nI (t % 10))
        · simp only [if_pos wl]
          exact ih (t + 1) f f2 _ _ Ct D5 (by omega) (by omega) (by omega) tc3 y4 y3 g3 ti3 bw
        · simp only [if_neg wl]
          exact ih (t + 1) f f2 _ _ C4 D5 (by omega) (by omega) (by omega) tc4 y4 y3 g4 ti4 bw
theorem cure_o {L : Lw} {n : Nat} {C D : aw_M} (hI : Inv n C D) (l1 : CL L C) (l2 : DL L D) (l3 : LR L) {i : Nat} (hi : i < 6) (p2 : Int32) : ∀ (d S f f2 : Nat) (b w : Int32) (C' A : aw_M), S + d = 8 → d < f → 100 * d < f2 → TC C C' → TD D A → (∀ k, k < 213 → A 1 k = D 1 k) → GV L C' i → BestW D b w → ∃ f3 b' w' C1 A1, fc_LB_cheapestCure_L7 f i b w (nI S) C' = some (b', C1) ∧ fm_cure_L44 f2 (nI i) p2 b w (nI (100 * S)) A = fm_cure_L44 (f3 + 1) (nI i) p2 b' w' 800 A1 ∧ TC C C1 ∧ TD D A1 ∧ (∀ k, k < 213 → A1 1 k = D 1 k) ∧ BestW D b' w' := by
  intro d
  induction d with
  | zero =>
    intro S f f2 b w C' A h hf hf2 tc td hr g bw
    obtain ⟨f, rfl⟩ : ∃ g, f = g + 1 := ⟨f - 1, by omega⟩
    obtain ⟨f2, rfl⟩ : ∃ g, f2 = g + 1 := ⟨f2 - 1, by omega⟩
    obtain rfl : S = 8 := by omega
    refine ⟨f2, b, w, C', A, ?_, rfl, tc, td, hr, bw⟩
    rw [fc_LB_cheapestCure_L7_s, if_pos (by decide)]
  | succ d ih =>
    intro S f f2 b w C' A h hf hf2 tc td hr g bw
    obtain ⟨f, rfl⟩ : ∃ g, f = g + 1 := ⟨f - 1, by omega⟩
    have I' : Inv n C' D := hI.same tc.sc (SD.rf D)
    obtain ⟨C2, g1, g2, g3, g4⟩ := I'.think
    have hS : S < 8 := by omega
    have T : fc_LB_thinkOfDeeds (nI S) C' = some (uc2 S (uc1 S (uc0 S C2))) := by
      unfold fc_LB_thinkOfDeeds
      rw [g1, bv_n]; exact think_f 1996 hS C2
    have X := c_o S C2
    obtain ⟨b', w', C1, A1, z1, z2, z3, z4, z5, z6, z7⟩ := cure_l hI l1 l2 l3 hi hS (fc_LB_cheapestCure_L7 f) p2 100 0 2000 f2 b w (uc2 S (uc1 S (uc0 S C2))) A (by omega) (by omega) (by omega) ((tc.tr g2).tr (fun o h5 _ => X o h5)) td hr ((g.x g3).x X) (fun j hj h1 h2 => by rw [c_5, g4 j hj]) bw
    obtain ⟨f3, b2, w2, C3, A3, y1, y2, y3⟩ := ih (S + 1) f (f2 - 100) b' w' C1 A1 (by omega) (by omega) (by omega) z3 z4 z5 z6 z7
    refine ⟨f3, b2, w2, C3, A3, ?_, ?_, y3⟩
    · rw [fc_LB_cheapestCure_L7_s, if_neg (show ¬ (8 : Int32) ≤ nI S from nI_ge (b := 8) (by omega) (by omega)), T, bv_n, ← nI_0, z1, y1]
    · rw [Nat.add_zero] at z2
      rw [z2, show 100 * S + 100 = 100 * (S + 1) by omega, y2]
theorem eq_cure (a b : Int32) : op_ok Inv (fc_LB_cure a b) (fm_cure a b) := by
  intro n C D hn hI
  rcases (Classical.em (okC a D)).symm with h | h
  · exact go1 hI (sb (hc_c hI a) (sp (if_neg h) rfl)) (sb (ic_m a D) (sp (if_neg h) rfl))
  simp only [fc_LB_cure, fm_cure, hc_c hI, ic_m, if_pos h, bi_n, i10, if_false, pt_c]
  rcases (Classical.em (0 ≤ b ∧ b ≤ 1)).symm with hb | hb
  · simp only [in_n hb, if_neg hb, bi_n, i00, if_true]; exact er1 hI
  obtain ⟨i, hi, rfl, -⟩ := hI.ok h
  obtain ⟨L, l1, l2, l3⟩ := laws_L hI.2.2.2.2.1
  obtain ⟨C1, q1, q2, q3, -, I1⟩ := hI.gauge l1 hi
  obtain ⟨D1, m0, t0, r0⟩ := keep_m D
  have n6 : (6 ≤ i) = False := eq_false (by omega)
  simp only [in_y hb, if_pos hb, bi_n, i10, if_false, q1, br_n, n6, m0, bv_n]
  obtain ⟨f3, b', w', C2, A2, z1, z2, z3, z4, z5, z6⟩ := cure_o hI l1 l2 l3 hi b 8 0 2000 2000 (-1) 0 C1 D1 (by omega) (by omega) (by omega) q2.t t0 (fun k _ => by rw [r0]) q3 (Or.inl (by decide))
  have z1' : fc_LB_cheapestCure i C1 = some (b', C2) := by rw [nI_0] at z1; exact z1
  have I2 : Inv n C2 A2 := hI.same z3.sc (z4.same z5)
  rw [Nat.mul_zero, nI_0] at z2
  rw [z1', z2, fm_cure_L44_s, if_pos (show (800 : Int32) ≤ 800 by decide), bi_n]
  rcases z6 with bn | ⟨S, t, hS, ht, rfl, rfl⟩
  · have bn' : ¬ (0 : Int32) ≤ b' := fun q => by rw [lt_i] at bn; rw [le_i] at q; omega
    rw [if_neg bn', if_neg bn']
    exact er2 I2
  · rw [if_pos (nI_pos' (by omega)), if_pos (nI_pos' (by omega))]
    rcases i01.mp hb with rfl | rfl
    · rw [if_neg (show ¬ (0 : Int32) = 1 by decide), if_pos rfl]
      have v1 : nI (1000 * S + t) / 1000 = nI S := by rw [show (1000 : Int32) = nI 1000 from rfl, div_n (by omega) (by omega), show (1000 * S + t) / 1000 = S by omega]
      have v2 : aw_rem (nI (1000 * S + t) / 10) 10 = nI (t / 10) := by rw [show (10 : Int32) = nI 10 from rfl, div_n (by omega) (by omega), rem_n (by omega) (by omega), show (1000 * S + t) / 10 % 10 = t / 10 by omega]
      have v3 : aw_rem (nI (1000 * S + t)) 10 = nI (t % 10) := by rw [show (10 : Int32) = nI 10 from rfl, rem_n (by omega) (by omega), show (1000 * S + t) % 10 = t % 10 by omega]
      rw [v1, v2, v3, secs_c hS]
      refine go0e I2 rfl rfl ?_
      rw [z3 3 (by decide) (by omega), hI.1 3 1 1 8 (lk_mach (j := 1) (by omega)), hI.1 3 2 1 9 (lk_mach (j := 2) (by omega))]
    · rw [if_pos rfl, if_neg (by decide)]
      exact go0e I2 rfl rfl rfl
