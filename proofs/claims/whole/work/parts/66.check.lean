theorem check_l {L : Lw} {n m w : Nat} {C D : aw_M} (hI : Inv n C D) (l1 : CL L C) (l2 : DL L D) (l3 : LR L) (hm0 : 0 < m) (hm : m ≤ 6) (em : D 1 2 = nI m) (hw : w ≤ 20) {k : Nat} (hk : k ≤ 6) (e : D 1 (13 + 5 * 0 + 0) = nI k) : ∀ (d j f f2 p : Nat) (C' A : aw_M), j + d = w → d < f → d + 1 < f2 → TC C C' → TD D A → GV L C' 0 → Th C' A → (A 1 7 = 0 ∨ A 1 7 = 1) → p ≤ 99 → C' 5 4 = nI p → A 1 11 = nI p → ∃ r C1 D1, fc_LB_check_L72 f (nI w) 0 (nI (lyN k)) (nI j) C' = some (r, C1) ∧ fm_check_L30 f2 (nI w) (nI j) 1 A = some (r, D1) ∧ Inv n C1 D1 := by
  have y2 := lyN_2 k
  intro d
  induction d with
  | zero =>
    intro j f f2 p C' A h hf hf2 tc td g th t0 hp ec ea
    obtain ⟨f, rfl⟩ : ∃ g, f = g + 1 := ⟨f - 1, by omega⟩
    obtain ⟨f2, rfl⟩ : ∃ g, f2 = g + 1 := ⟨f2 - 1, by omega⟩
    obtain ⟨D5, b1, b2, -⟩ := back_m td
    rw [fc_LB_check_L72_s, fm_check_L30_s, if_pos (nI_le (by omega) (by omega)), if_pos (nI_le (by omega) (by omega)), b1, aw_bv_s, if_neg (by decide)]
    exact ⟨0, C', D5, rfl, rfl, hI.same tc.sc b2⟩
  | succ d ih =>
    intro j f f2 p C' A h hf hf2 tc td g th t0 hp ec ea
    obtain ⟨f, rfl⟩ : ∃ g, f = g + 1 := ⟨f - 1, by omega⟩
    obtain ⟨f2, rfl⟩ : ∃ g, f2 = g + 1 := ⟨f2 - 1, by omega⟩
    have gth : fc_Ma_gather 2 (nI (lyN k)) C' = some (aw_u C' 5 4 (nI (min 99 (p + lyN k)))) := by
      unfold fc_Ma_gather
      rw [show (3 + 2 : Nat) = 5 from rfl, ec, min99 (by omega) (by omega) (by omega)]
    have tc2 : TC C (aw_u C' 5 4 (nI (min 99 (p + lyN k)))) := tc.tr TC.u
    obtain ⟨A1, y1, y2', y3, y4⟩ := yard_t l2 td (i := 0) (by omega) hk e hp ea
    obtain ⟨C4, A4, w1, w2, w3, w4, w5⟩ := both_t hI l1 l2 l3 tc2 y2' (i := 0) (by omega) (p := min 99 (p + lyN k)) (g.u (by omega) (by decide)) (fun q hq h4 => by rw [aw_u_j 5 h4, y4 (7 + q) (by omega) (by omega) (by omega)]; exact th q hq h4) (by rw [y4 7 (by omega) (by omega) (by omega)]; exact t0) (by omega) (by rw [aw_u_s]) y3
    rw [nI_0] at y1 w2
    have m1 : A 1 2 = nI m := by rw [td.2.2.2 2 (by omega) (by unfold mv; omega)]; exact em
    have W : C4 12 j = D 1 (93 + j) := by
      rw [w3 12 (by omega), tc2 12 (by decide) (by omega)]
      exact hI.1 _ _ _ _ (lk_wt (by omega))
    have W' : A4 1 (93 + j) = D 1 (93 + j) := by rw [w5.r1]; exact y2'.2.2.2 _ (by omega) (by unfold mv; omega)
    have s0 : ¬ spo (mS L A 0) < 0 := fun q => by have := (spo_rg (mS L A 0)).1; rw [lt_i, show (0 : Int32).toInt = 0 by decide] at q; omega
    have e93 : (93 + nI j : Int32) = nI (93 + j) := nI_add 93 j
    rw [fc_LB_check_L72_s, fm_check_L30_s]
    simp only [if_neg (nI_ge (show j < w by omega) (by omega)), gth, bv_n, w1, bi_n, ni_f (show j < 20 by omega) (show 20 < 2 ^ 31 by omega), if_false, nI_clamp (show j < 2 ^ 31 by omega), i10, m1, if_neg (nI_nle hm0 (show m < 2 ^ 31 by omega)), fm_check_J53, y1, if_neg s0, w2, e93, ni_f (show 93 + j < 213 by omega) (show 213 < 2 ^ 31 by omega), nI_clamp (show 93 + j < 2 ^ 31 by omega), W, W', i00, if_true, nI_1]
    by_cases c : mS L A1 0 = D 1 (93 + j)
    · rw [if_pos c, if_pos c]
      refine ih (j + 1) f f2 (min 99 (p + lyN k)) C4 A4 (by omega) (by omega) (by omega) (tc2.tr w3.t) (y2'.j w5) (w4 0 (by omega) (g.u (by omega) (by decide))) (fun q hq h4 => ?_) ?_ (by omega) (by rw [w3 5 (by omega), aw_u_s]) (by rw [w5.r1]; exact y3)
      · rw [w3 5 (by omega), aw_u_j 5 h4, w5.r1, y4 (7 + q) (by omega) (by omega) (by omega)]; exact th q hq h4
      · rw [w5.r1, y4 7 (by omega) (by omega) (by omega)]; exact t0
    · rw [if_neg c, if_neg c]
      obtain ⟨D5, b1, b2, -⟩ := back_m (y2'.j w5)
      refine ⟨1 + nI j, C4, D5, rfl, ?_, hI.same (tc2.tr w3.t).sc b2⟩
      obtain ⟨f2, rfl⟩ : ∃ g, f2 = g + 1 := ⟨f2 - 1, by omega⟩
      rw [fm_check_L30_s, Int32.add_zero, if_neg (nI_ge (show j < w by omega) (by omega)), if_pos rfl, b1, aw_bv_s, if_pos rfl]
theorem eq_check : op_ok Inv fc_LB_check fm_check := by
  intro n C D hn hI
  obtain ⟨w, hw, ew⟩ := hI.row.at 4 20
  have ew' : C 1 7 = nI w := (hI.1 _ _ _ _ lk_wc).trans ew
  have I0 := hI.upd1 lk_wc 0 (fun _ _ => ⟨by decide, by decide⟩)
  simp only [fc_LB_check, fm_check, ew, ew']
  generalize aw_u C 1 7 0 = C0 at I0 ⊢
  generalize aw_u D 1 4 0 = D0 at I0 ⊢
  obtain ⟨m, hm, em, em'⟩ := I0.many
  obtain ⟨D1, m0, t0, r0⟩ := keep_m D0
  rw [m0, em', bv_n]
  by_cases hz : m = 0
  · subst hz
    rw [if_pos nI_0]
    obtain ⟨D5, b1, b2, -⟩ := back_m t0
    have I5 := I0.same (SC.rf C0) b2
    by_cases hw0 : w = 0
    · subst hw0
      have Z : fm_check_L30 2000 (nI 0) 0 1 D1 = some (0, D5) := by
        rw [show (2000 : Nat) = 1999 + 1 from rfl, fm_check_L30_s, if_pos (by decide), b1, aw_bv_s, if_neg (by decide)]
      exact go0e I5 (if_pos nI_0) Z rfl
    · have Z : fm_check_L30 2000 (nI w) 0 1 D1 = some (1, D5) := by
        rw [show (2000 : Nat) = 1998 + 1 + 1 from rfl, fm_check_L30_s]
        simp only [if_neg (nI_nle (show 0 < w by omega) (show w < 2 ^ 31 by omega)), i10, if_false, r0, em, if_pos (show nI 0 ≤ 0 by decide), fm_check_J53, i00, if_true, Int32.add_zero]
        rw [fm_check_L30_s]
        simp only [if_neg (nI_nle (show 0 < w by omega) (show w < 2 ^ 31 by omega)), i00, if_true, b1, bv_n, Int32.add_zero]
      exact go0e I5 (if_neg (nI_ne0 (by omega) (by omega))) Z rfl
  · rw [if_neg (nI_ne0 (by omega) (by omega))]
    obtain ⟨L, l1, l2, l3⟩ := laws_L I0.2.2.2.2.1
    obtain ⟨k, hk, e, e'⟩ := I0.kind (i := 0) (by omega)
    obtain ⟨p, hp, ep, ep'⟩ := I0.lint
    obtain ⟨C1, q1, q2, q3, -, I1⟩ := I0.gauge l1 (i := 0) (by omega)
    obtain ⟨C2, g1, g2, g3, g4⟩ := I1.think
    rw [nI_0] at q1
    have K1 : C1 (14 + 0) 0 = nI k := by rw [q2 (14 + 0) (by omega)]; exact e'
    have n6 : (6 ≤ 0) = False := eq_false (by omega)
    simp only [q1, br_n, n6, if_false, ly_c hk K1, bi_n, g1, bv_n]
    obtain ⟨r, Cz, Dz, z1, z2, z3⟩ := check_l I0 l1 l2 l3 (by omega) hm em hw hk e w 0 2000 2000 p C2 D1 (by omega) (by omega) (by omega) (q2.t.tr g2) t0 (q3.x g3) (fun q hq h4 => by rw [g4 q hq, r0]) (by rw [r0]; exact I0.th.1) hp ((g4 4 (by omega)).trans ep) (by rw [r0]; exact ep)
    rw [nI_0] at z1 z2
    exact go0e z3 z1 z2 rfl
-- alone
theorem TD.same {D A : aw_M} (h : TD D A) (hr : ∀ k, k < 213 → A 1 k = D 1 k) : SD D A := ⟨hr, fun k _ => by rw [h.1 2 (by decide) (by decide) (by decide)], fun o ho => h.1 o (by omega) (by omega) (by omega), fun j hj => h.2.1 j (by unfold jR; omega)⟩
/-- a deed thought of at both -/
theorem think_deed {C1 A : aw_M} {d : Nat} (hd : d < 7) (th : ∀ j, j < 6 → C1 5 j = A 1 (7 + j)) (v0 : Int32) : ∀ j, j < 6 → aw_u C1 5 (fj d) (fv d (C1 5 1) (C1 5 2)) 5 j = aw_u (aw_u A 1 (7 + fj d) (fv d (A 1 8) (A 1 9))) 1 0 v0 1 (7 + j) := by
  intro j hj
  rw [aw_u_j (b := 7 + j) 1 (by omega), th 1 (by omega), th 2 (by omega)]
  by_cases c : j = fj d
  · subst c; rw [aw_u_s, aw_u_s]
  · rw [aw_u_j 5 c, aw_u_j 1 (by omega), th j hj]
theorem deed_rg {A : aw_M} {d : Nat} (hd : d < 7) (hr : room d (A 1 8) (A 1 9) = true) (h : ∀ b, 7 ≤ b → b ≤ 12 → Rb (A 1 b) 0 (hiB b)) (v0 : Int32) : ∀ b, 7 ≤ b → b ≤ 12 → Rb (aw_u (aw_u A 1 (7 + fj d) (fv d (A 1 8) (A 1 9))) 1 0 v0 1 b) 0 (hiB b) := by
  intro b h7 h12
  rw [aw_u_j 1 (by omega)]
  by_cases c : b = 7 + fj d
  · subst c
    rw [aw_u_s]
    obtain ⟨x, hx, ex⟩ := nat_of (n := 9) (by omega) (h 8 (by omega) (by omega)).1 (h 8 (by omega) (by omega)).2
    obtain ⟨y, hy, ey⟩ := nat_of (n := 9) (by omega) (h 9 (by omega) (by omega)).1 (h 9 (by omega) (by omega)).2
    rw [ex, ey] at hr ⊢
    exact fv_rg d hd x (by omega) y (by omega) hr
  · rw [aw_u_j 1 c]; exact h b h7 h12
theorem rg01 {x : Int32} (h : Rb x 0 1) : x = 0 ∨ x = 1 := by
  obtain ⟨k, hk, rfl⟩ := nat_of (n := 1) (by omega) h.1 h.2
  rcases (show k = 0 ∨ k = 1 by omega) with rfl | rfl
  · exact Or.inl rfl
  · exact Or.inr rfl
theorem alone_l {L : Lw} {n : Nat} {C D : aw_M} (hI : Inv n C D) (l1 : CL L C) (l2 : DL L D) (l3 : LR L) {i : Nat} (hi : i < 6) : ∀ (d j f : Nat) (s : Int32) (C' A : aw_M), j + d = 7 → d < f → TC C C' → TD D A → (∀ k, k < 213 → A 1 k = D 1 k) → GV L C' i → ∃ r C1 D1, fc_LB_alone_L25 f i s (nI j) C' = some (r, C1) ∧ fm_alone_L31 f (nI i) s (nI j) A = some (r, D1) ∧ Inv n C1 D1 := by
  intro d
  induction d with
  | zero =>
    intro j f s C' A h hf tc td hr g
    obtain ⟨f, rfl⟩ : ∃ g, f = g + 1 := ⟨f - 1, by omega⟩
    obtain rfl : j = 7 := by omega
    rw [fc_LB_alone_L25_s, fm_alone_L31_s, if_pos (by decide), if_pos (by decide)]
    exact ⟨s, C', A, rfl, rfl, hI.same tc.sc (td.same hr)⟩
  | succ d ih =>
    intro j f s C' A h hf tc td hr g
    obtain ⟨f, rfl⟩ : ∃ g, f = g + 1 := ⟨f - 1, by omega⟩
    have hj : j < 7 := by omega
    have I' : Inv n C' D := hI.same tc.sc (SD.rf D)
    obtain ⟨C2, g1, g2, g3, g4⟩ := I'.think
    have tc2 := tc.tr g2
    have j7 : ¬ (7 : Int32) ≤ nI j := nI_ge (b := 7) (by omega) (by omega)
    have th : ∀ q, q < 6 → C2 5 q = A 1 (7 + q) := fun q hq => by rw [g4 q hq, hr _ (by omega)]
    have t1 : C2 5 1 = A 1 8 := th 1 (by omega)
    have t2 : C2 5 2 = A 1 9 := th 2 (by omega)
    rw [fc_LB_alone_L25_s, fm_alone_L31_s]
    simp only [if_neg j7, g1, bv_n, room_c hj, can_m hj, bi_n, show (3 + 2 : Nat) = 5 from rfl, t1, t2]
    by_cases r : room j (A 1 8) (A 1 9) = true
    · have td2 : TD D (aw_u (aw_u A 1 (7 + fj j) (fv j (A 1 8) (A 1 9))) 1 0 (A 1 0 + la j)) := (td.u _ (by have := fj_lt hj; unfold mv; omega)).u _ (by unfold mv; omega)
      have RG := deed_rg hj r (fun b h7 h12 => by rw [hr b (by omega)]; exact hI.row b (by omega) (by omega) (by omega) (by omega)) (A 1 0 + la j)
      have TT := think_deed hj th (A 1 0 + la j)
      obtain ⟨p, hp, ep⟩ := nat_of (n := 99) (by omega) (RG 11 (by omega) (by omega)).1 (RG 11 (by omega) (by omega)).2
      obtain ⟨C4, A4, w1, w2, w3, w4, w5⟩ := both_t hI l1 l2 l3 (tc2.tr TC.u) td2 hi (p := p) ((g.x g3).u hi (by decide)) (fun q hq _ => TT q hq) (rg01 (RG 7 (by omega) (by omega))) hp ((TT 4 (by omega)).trans ep) ep
      obtain ⟨D5, b1, b2, b3, b4⟩ := back_m (td2.j w5)
      rw [t1, t2] at w1 w3 w4
      simp only [if_pos r, i10, if_false, fol_c hj, show (3 + 2 : Nat) = 5 from rfl, t1, t2, bv_n, does_m hj, w1, w2, bi_n, b1, nI_1]
      have gv4 : GV L C4 i := w4 i hi ((g.x g3).u hi (by decide))
      have tc4 : TC C C4 := (tc2.tr TC.u).tr w3.t
      by_cases c : mS L (aw_u (aw_u A 1 (7 + fj j) (fv j (A 1 8) (A 1 9))) 1 0 (A 1 0 + la j)) i = 0
      · rw [if_pos c, if_pos c]
        exact ih (j + 1) f _ C4 D5 (by omega) (by omega) tc4 b4 b3 gv4
      · rw [if_neg c, if_neg c, Int32.or_zero]
        exact ih (j + 1) f _ C4 D5 (by omega) (by omega) tc4 b4 b3 gv4
    · simp only [if_neg r, i00, if_true, nI_1]
      exact ih (j + 1) f s C2 A (by omega) (by omega) tc2 td hr (g.x g3)
theorem eq_alone (a : Int32) : op_ok Inv (fc_LB_alone a) (fm_alone a) := by
  intro n C D hn hI
  rcases (Classical.em (okC a D)).symm with h | h
  · exact go1 hI (sb (hc_c hI a) (sp (if_neg h) rfl)) (sb (ic_m a D) (sp (if_neg h) rfl))
  obtain ⟨i, hi, rfl, -⟩ := hI.ok h
  simp only [fc_LB_alone, fm_alone, hc_c hI, ic_m, if_pos h, bi_n, i10, if_false]
  obtain ⟨L, l1, l2, l3⟩ := laws_L hI.2.2.2.2.1
  obtain ⟨C1, q1, q2, q3, -, I1⟩ := hI.gauge l1 hi
  obtain ⟨D1, m0, t0, r0⟩ := keep_m D
  have n6 : (6 ≤ i) = False := eq_false (by omega)
  simp only [q1, br_n, n6, if_false, m0, bv_n]
  obtain ⟨r, Cz, Dz, z1, z2, z3⟩ := alone_l hI l1 l2 l3 hi 7 0 2000 0 C1 D1 (by omega) (by omega) q2.t t0 (fun k _ => by rw [r0]) q3
  rw [nI_0] at z1 z2
  exact go0e z3 z1 z2 rfl
-- one part of the machine tried
theorem both_w {L : Lw} {n : Nat} {C D C' A : aw_M} (hI : Inv n C D) (hc : CL L C) (hd : DL L D) (hL : LR L) (tc : TC C C') (tw : ∀ k, k < 213 → ¬ mv k → A 1 k = D 1 k) {i p : Nat} (hi : i < 6) (g : GV L C' i) (ht : ∀ j, j < 6 → C' 5 j = A 1 (7 + j)) (h0 : A 1 7 = 0 ∨ A 1 7 = 1) (hp : p ≤ 99) (e2 : A 1 11 = nI p) : ∃ C2 A2, fc_Ga_shows i 2 C' = some (mS L A i, C2) ∧ fm_shows (nI i) A = some (mS L A i, A2) ∧ KC C' C2 ∧ GK L C' C2 ∧ JD A A2 := by
  obtain ⟨C2, h1, h2, h3⟩ := shows_c (hc.t tc) hL hi (mo := 2) (by omega) (by rw [show (3 + 2 : Nat) = 5 from rfl, ht 0 (by omega)]; exact h0) hp ((ht 4 (by omega)).trans e2) g
  obtain ⟨A2, h4, h5⟩ := shows_m (hd.cg (fun k hk => tw k (by omega) (by unfold mv; omega))) hi
  have E : cS L C' i 2 = mS L A i := by
    unfold cS mS
    have E1 : ∀ j, j < 3 → C' (14 + i) j = A 1 (13 + 5 * i + j) := fun j hj => by
      rw [tc (14 + i) (by omega) (by omega), tw _ (by omega) (by unfold mv; omega)]
      exact hI.1 _ _ _ _ (lk_cl hi (by omega))
    rw [E1 0 (by omega), E1 1 (by omega), E1 2 (by omega), show (3 + 2 : Nat) = 5 from rfl, ht 0 (by omega), ht 1 (by omega), ht 2 (by omega), ht 3 (by omega), ht 4 (by omega), ht 5 (by omega)]
  rw [E] at h1
  exact ⟨C2, A2, h1, h4, h2, h3, h5⟩
/-- all as it was but for place b of the row -/
def TB (b : Nat) (D A : aw_M) : Prop := (∀ o, o ≠ 0 → o ≠ 1 → A o = D o) ∧ (∀ j, ¬ jR j → A 0 j = D 0 j) ∧ ∀ k, k < 213 → k ≠ b → A 1 k = D 1 k
theorem TB.j {b : Nat} {D A B : aw_M} (h : TB b D A) (j : JD A B) : TB b D B := ⟨fun o h0 h1 => (j.1 o h0).trans (h.1 o h0 h1), fun k hk => (j.2 k hk).trans (h.2.1 k hk), fun k hk hb => by rw [j.r1]; exact h.2.2 k hk hb⟩
theorem TB.u {b : Nat} {D A : aw_M} (h : TB b D A) (v : Int32) : TB b D (aw_u A 1 b v) := ⟨fun o h0 h1 => by rw [aw_u_row h1]; exact h.1 o h0 h1, fun j hj => by rw [aw_u_o j (by decide)]; exact h.2.1 j hj, fun k hk hb => by rw [aw_u_j 1 hb]; exact h.2.2 k hk hb⟩
theorem TB.back {b : Nat} {D A : aw_M} (h : TB b D A) : SD D (aw_u A 1 b (D 1 b)) := by
  refine ⟨fun k hk => ?_, fun k _ => ?_, fun o ho => ?_, fun j hj => ?_⟩
  · by_cases c : k = b
    · subst c; rw [aw_u_s]
    · rw [aw_u_j 1 c]; exact h.2.2 k hk c
  · rw [aw_u_o k (by decide), h.1 2 (by decide) (by decide)]
  · rw [aw_u_row (by omega), h.1 o (by omega) (by omega)]
  · rw [aw_u_o j (by decide)]; exact h.2.1 j (by unfold jR; omega)
theorem TB.both {L : Lw} {n x b : Nat} {C D C' A : aw_M} (hI : Inv n C D) (hc : CL L C) (hd : DL L D) (hL : LR L) (tc : TC C C') (tb : TB b D A) (hb : b = 7 + x) (hx : x = 1 ∨ x = 5) {i : Nat} (hi : i < 6) (g : GV L C' i) (ht : ∀ j, j < 6 → j ≠ x → C' 5 j = D 1 (7 + j)) (v : Int32) : ∃ C2 A2, fc_Ga_shows i 2 (aw_u C' 5 x v) = some (mS L (aw_u A 1 b v) i, C2) ∧ fm_shows (nI i) (aw_u A 1 b v) = some (mS L (aw_u A 1 b v) i, A2) ∧ KC (aw_u C' 5 x v) C2 ∧ GK L (aw_u C' 5 x v) C2 ∧ JD (aw_u A 1 b v) A2 := by
  subst hb
  obtain ⟨p, hp, ep, -⟩ := hI.lint
  refine both_w hI hc hd hL (tc.tr TC.u) (fun k hk hm => ?_) hi (g.u hi (by decide)) (fun j hj => ?_) ?_ hp ?_
  · have : k ≠ 7 + x := fun q => hm (by unfold mv; omega)
    rw [aw_u_j 1 this]; exact tb.2.2 k hk this
  · by_cases c : j = x
    · subst c; rw [aw_u_s, aw_u_s]
    · rw [aw_u_j 5 c, aw_u_j 1 (by omega), ht j hj c, tb.2.2 _ (by omega) (by omega)]
  · rw [aw_u_j 1 (by omega), tb.2.2 7 (by omega) (by omega)]; exact hI.th.1
  · rw [aw_u_j 1 (by omega), tb.2.2 11 (by omega) (by omega)]; exact ep
