/-- the machine and cloths of the row, as ranges and numbers -/
theorem Inv.shw {n : Nat} {C D : aw_M} (hI : Inv n C D) (L : Lw) {i : Nat} (hi : i < 6) : cS L C i 0 = mS L D i := by
  unfold cS mS
  rw [hI.1 _ _ _ _ (lk_cl hi (j := 0) (by omega)), hI.1 _ _ _ _ (lk_cl hi (j := 1) (by omega)), hI.1 _ _ _ _ (lk_cl hi (j := 2) (by omega)), hI.1 _ _ _ _ (lk_mach (j := 0) (by omega)), hI.1 _ _ _ _ (lk_mach (j := 1) (by omega)), hI.1 _ _ _ _ (lk_mach (j := 2) (by omega)), hI.1 _ _ _ _ (lk_mach (j := 3) (by omega)), hI.1 _ _ _ _ (lk_mach (j := 4) (by omega)), hI.1 _ _ _ _ (lk_mach (j := 5) (by omega))]
theorem Inv.th {n : Nat} {C D : aw_M} (hI : Inv n C D) : (D 1 7 = 0 ∨ D 1 7 = 1) ∧ C 3 0 = D 1 7 := by
  obtain ⟨k, hk, e⟩ := hI.row.at 7 1
  refine ⟨?_, hI.1 _ _ _ _ (lk_mach (j := 0) (by omega))⟩
  rw [e]
  rcases (show k = 0 ∨ k = 1 by omega) with rfl | rfl
  · exact Or.inl rfl
  · exact Or.inr rfl
theorem Inv.lint {n : Nat} {C D : aw_M} (hI : Inv n C D) : ∃ p, p ≤ 99 ∧ D 1 11 = nI p ∧ C 3 4 = nI p := by
  obtain ⟨k, hk, e⟩ := hI.row.at 11 99
  exact ⟨k, hk, e, (hI.1 _ _ _ _ (lk_mach (j := 4) (by omega))).trans e⟩
/-- the state shows at both sides alike -/
theorem both_shows {n : Nat} {C D : aw_M} {L : Lw} (hI : Inv n C D) (hc : CL L C) (hd : DL L D) (hL : LR L) {i : Nat} (hi : i < 6) (g : GV L C i) : ∃ C' D', fc_Ga_shows i 0 C = some (mS L D i, C') ∧ fm_shows (nI i) D = some (mS L D i, D') ∧ KC C C' ∧ GK L C C' ∧ JD D D' := by
  obtain ⟨p, hp, e, e'⟩ := hI.lint
  obtain ⟨C', h1, h2, h3⟩ := shows_c hc hL hi (mo := 0) (by omega) (by rw [show (3 + 0 : Nat) = 3 from rfl, hI.th.2]; exact hI.th.1) hp e' g
  obtain ⟨D', h4, h5⟩ := shows_m hd hi
  rw [hI.shw L hi] at h1
  exact ⟨C', D', h1, h4, h2, h3, h5⟩
theorem eq_ofCloth (a b : Int32) : op_ok Inv (fc_LB_ofCloth a b) (fm_ofCloth a b) := by
  intro n C D hn hI
  rcases (Classical.em (okC a D)).symm with h | h
  · exact go1 hI (sb (hc_c hI a) (sp (if_neg h) rfl)) (sb (ic_m a D) (sp (if_neg h) rfl))
  obtain ⟨i, hi, rfl, -⟩ := hI.ok h
  have c1 : (nI i).toNatClampNeg = i := nI_clamp (by omega)
  have hin := ni_f (k := i) (N := 6) hi (by omega)
  simp only [fc_LB_ofCloth, fm_ofCloth, hc_c hI, ic_m, if_pos h, bi_n, i10, if_false]
  rcases (Classical.em (0 ≤ b ∧ b ≤ 8)).symm with hb | hb
  · rw [in_n hb, r_no' hb]; exact er1 hI
  rw [in_y hb, r_yes' hb]
  obtain ⟨L, l1, l2, l3⟩ := laws_L hI.2.2.2.2.1
  obtain ⟨k, hk, e, e'⟩ := hI.kind hi
  obtain ⟨C1, q1, q2, q3, -⟩ := gauge_c l1 hi hk e'
  have hI1 := hI.same q2.sc (SD.rf D)
  have n6 : (6 ≤ i) = False := eq_false (by omega)
  have E : ∀ j, j < 5 → C (14 + i) j = D 1 (13 + 5 * i + j) := fun j hj => hI.1 _ _ _ _ (lk_cl hi hj)
  have E1 : ∀ j, j < 5 → C1 (14 + i) j = D 1 (13 + 5 * i + j) := fun j hj => hI1.1 _ _ _ _ (lk_cl hi hj)
  obtain ⟨j, -, hj, rfl⟩ := rng 0 8 hb
  simp only [bi_n, i10, if_false, hin, c1, q1, br_n, n6]
  rcases (show j = 0 ∨ j = 1 ∨ j = 2 ∨ j = 3 ∨ j = 4 ∨ j = 5 ∨ j = 6 ∨ j = 7 ∨ j = 8 by omega) with rfl | rfl | rfl | rfl | rfl | rfl | rfl | rfl | rfl
  · exact go0e hI rfl (its_m hi (j := 0) (by omega) D) (E 0 (by omega))
  · exact go0e hI rfl (its_m hi (j := 1) (by omega) D) (E 1 (by omega))
  · exact go0e hI rfl (its_m hi (j := 2) (by omega) D) (E 2 (by omega))
  · exact go0e hI rfl (its_m hi (j := 3) (by omega) D) (E 3 (by omega))
  · exact go0e hI rfl (its_m hi (j := 4) (by omega) D) (E 4 (by omega))
  · obtain ⟨D', w1, w2⟩ := wants_m l2 hi
    refine go0e (hI1.same (SC.rf C1) w2.sd) rfl w1 ?_
    rw [q3.1, E1 0 (by omega), E1 1 (by omega), E1 2 (by omega)]
  · refine go0e hI1 rfl (bears_m hi) ?_
    rw [q3.2.1, E1 0 (by omega), E1 1 (by omega)]
  · obtain ⟨D', w1, w2⟩ := off_m l2 hi
    refine go0e (hI1.same (SC.rf C1) w2.sd) rfl w1 ?_
    unfold sO
    rw [q3.1, E1 0 (by omega), E1 1 (by omega), E1 2 (by omega), hI1.1 _ _ _ _ (lk_mach (j := 1) (by omega)), hI1.1 _ _ _ _ (lk_mach (j := 2) (by omega)), hI1.1 _ _ _ _ (lk_mach (j := 4) (by omega))]
  · obtain ⟨C2, D2, w1, w2, w3, w4, w5⟩ := both_shows hI1 (l1.k q2) l2 l3 hi q3
    exact go0e (hI1.same w3.sc w5.sd) w1 w2 rfl
-- yards
def lyN (k : Nat) : Nat := if k = 6 then 0 else if k = 2 then 2 else if k = 5 then 2 else 1
theorem ly_c {i k : Nat} {M : aw_M} (hk : k ≤ 6) (e : M (14 + i) 0 = nI k) : fc_Cl_lintOfYard i M = some (nI (lyN k), M) := by
  unfold fc_Cl_lintOfYard
  rw [e]
  rcases k7 hk with rfl | rfl | rfl | rfl | rfl | rfl | rfl <;> rfl
theorem lyN_2 (k : Nat) : lyN k ≤ 2 := by unfold lyN; split <;> (try split) <;> (try split) <;> omega
def ydm (M : aw_M) (i : Nat) (r : Int32) (v : Int32) : aw_M := aw_u (aw_u (aw_u (aw_u M 1 (13 + 5 * i + 4) (hl (M 1 (13 + 5 * i + 4) + r) 0 9999)) 1 (13 + 5 * i + 3) (hl (M 1 (13 + 5 * i + 3) + 1) 0 9999)) 1 11 (hl (M 1 11 + v) 0 99)) 1 0 (M 1 0 + (10 - M 1 12))
def spo (s : Int32) : Int32 := if s = 0 then 0 else 1
theorem yj_m {i k : Nat} (hi : i < 6) (hk : k ≤ 6) {M : aw_M} (e : M 1 (13 + 5 * i + 0) = nI k) (r : Int32) : fm_yard_J13 (nI i) r M = some (r, ydm M i r (nI (lyN k))) := by
  have J : ∀ v, fm_yard_J46 (nI i) r v M = some (r, ydm M i r v) := by
    intro v
    simp only [fm_yard_J46, its_3 hi, its_4 hi, gets_3 hi, gets_4 hi, bi_n, bv_n, hl_m (show (0 : Int32) ≤ 9999 by decide), hl_m (show (0 : Int32) ≤ 99 by decide)]
    unfold ydm
    rw [aw_u_j (b := 13 + 5 * i + 3) 1 (by omega), aw_u_j (b := 11) 1 (by omega), aw_u_j (b := 11) 1 (by omega), aw_u_j (b := 0) 1 (by omega), aw_u_j (b := 0) 1 (by omega), aw_u_j (b := 0) 1 (by omega), aw_u_j (b := 12) 1 (by omega), aw_u_j (b := 12) 1 (by omega), aw_u_j (b := 12) 1 (by omega)]
  unfold fm_yard_J13
  rw [its_0 hi, aw_bi_s, e]
  rcases k7 hk with rfl | rfl | rfl | rfl | rfl | rfl | rfl
  · rw [if_neg (by decide), if_neg (by decide), if_neg (by decide)]; exact J _
  · rw [if_neg (by decide), if_neg (by decide), if_neg (by decide)]; exact J _
  · rw [if_neg (by decide), if_pos (by decide)]; exact J _
  · rw [if_neg (by decide), if_neg (by decide), if_neg (by decide)]; exact J _
  · rw [if_neg (by decide), if_neg (by decide), if_neg (by decide)]; exact J _
  · rw [if_neg (by decide), if_neg (by decide), if_pos (by decide)]; exact J _
  · rw [if_pos (by decide)]; exact J _
theorem yard_m {L : Lw} {D : aw_M} (h : DL L D) {i k : Nat} (hi : i < 6) (hk : k ≤ 6) (e : D 1 (13 + 5 * i + 0) = nI k) : ∃ D1, JD D D1 ∧ fm_yard (nI i) D = some (spo (mS L D i), ydm D1 i (spo (mS L D i)) (nI (lyN k))) := by
  obtain ⟨D1, e1, j⟩ := shows_m h hi
  refine ⟨D1, j, ?_⟩
  have e' : D1 1 (13 + 5 * i + 0) = nI k := by rw [j.r1]; exact e
  unfold fm_yard spo
  rw [e1, aw_bi_s]
  by_cases c : mS L D i = 0
  · rw [if_pos c, if_pos c]; exact yj_m hi hk e' 0
  · rw [if_neg c, if_neg c]; exact yj_m hi hk e' 1
theorem hl_min {x : Int32} {hi : Int32} (h : 0 ≤ x.toInt) (h' : 0 ≤ hi.toInt) : hl x 0 hi = aw_min hi x := by
  unfold hl aw_max
  by_cases c : (0 : Int32) < aw_min hi x
  · rw [if_pos c]
  · rw [if_neg c]
    unfold aw_min at c ⊢
    rw [lt_i, show (0 : Int32).toInt = 0 by decide] at c
    apply Int32.toInt_inj.mp
    rw [show (0 : Int32).toInt = 0 by decide]
    by_cases c2 : x < hi
    · rw [if_pos c2] at c ⊢; omega
    · rw [if_neg c2] at c ⊢; omega
theorem min_hi {x hi : Int32} {m : Int} (h : 0 ≤ x.toInt) (hm : hi.toInt = m) (h' : 0 ≤ m) : Rb (aw_min hi x) 0 m := by
  unfold aw_min Rb
  by_cases c2 : x < hi
  · rw [if_pos c2]; rw [lt_i] at c2; omega
  · rw [if_neg c2]; omega
theorem spo_rg (s : Int32) : 0 ≤ (spo s).toInt ∧ (spo s).toInt ≤ 1 := by
  unfold spo
  by_cases c : s = 0
  · rw [if_pos c]; decide
  · rw [if_neg c]; decide
theorem ydm_o {M : aw_M} {i : Nat} {r v : Int32} {o : Nat} (h : o ≠ 1) : ydm M i r v o = M o := by
  unfold ydm; rw [aw_u_row h, aw_u_row h, aw_u_row h, aw_u_row h]
theorem ydm_k {M : aw_M} {i : Nat} {r v : Int32} {k : Nat} (h0 : k ≠ 0) (h11 : k ≠ 11) (h3 : k ≠ 13 + 5 * i + 3) (h4 : k ≠ 13 + 5 * i + 4) : ydm M i r v 1 k = M 1 k := by
  unfold ydm; rw [aw_u_j 1 h0, aw_u_j 1 h11, aw_u_j 1 h3, aw_u_j 1 h4]
theorem ydm_l {M : aw_M} {i : Nat} {r v : Int32} : ydm M i r v 1 11 = hl (M 1 11 + v) 0 99 := by
  unfold ydm; rw [aw_u_j 1 (by decide), aw_u_s]
theorem ydm_0 {M : aw_M} {i : Nat} {r v : Int32} : ydm M i r v 1 0 = M 1 0 + (10 - M 1 12) := by
  unfold ydm; rw [aw_u_s]
theorem yard_both {n : Nat} {C D : aw_M} {L : Lw} (hI : Inv n C D) (hc : CL L C) (hd : DL L D) (hL : LR L) {i : Nat} (hi : i < 6) (g : GV L C i) (hs : (D 1 0).toInt + (10 - (D 1 12).toInt) ≤ 99999) :
    ∃ r C' D', fc_St_sewYard i C = some (r, C') ∧ fm_yard (nI i) D = some (r, D') ∧ Inv n C' D' ∧ CL L C' ∧ DL L D' ∧ GK L C C' ∧ D' 1 0 = D 1 0 + (10 - D 1 12) ∧ D' 1 12 = D 1 12 ∧ D' 1 2 = D 1 2 := by
  obtain ⟨k, hk, e, e'⟩ := hI.kind hi
  obtain ⟨C1, D1, h1, h2, h3, h4, h5⟩ := both_shows hI hc hd hL hi g
  obtain ⟨D1', j, y⟩ := yard_m hd hi hk e
  have I1 := hI.same h3.sc j.sd
  generalize hsp : spo (mS L D i) = r at y
  have hr := spo_rg (mS L D i)
  rw [hsp] at hr
  obtain ⟨p, hp, ep, ep'⟩ := I1.lint
  have R4 := cl_rg I1.row hi (j := 4) (by omega)
  have R3 := cl_rg I1.row hi (j := 3) (by omega)
  have E4 := I1.1 _ _ _ _ (lk_cl hi (j := 4) (by omega))
  have E3 := I1.1 _ _ _ _ (lk_cl hi (j := 3) (by omega))
  have E5 := I1.1 _ _ _ _ (lk_mach (j := 5) (by omega))
  have E0 := I1.1 _ _ _ _ lk_sec
  have El := I1.1 _ _ _ _ (lk_mach (j := 4) (by omega))
  have e1 : D1' 1 = D 1 := j.r1
  obtain ⟨sp, hsp', esp⟩ := hI.row.at 12 9
  have Z : Rb (D 1 0) 0 99999 := hI.row 0 (by omega) (by omega) (by omega) (by omega)
  have vsp : (D 1 12).toInt = sp := by rw [esp, nI_toInt (by omega)]
  have v10 : (10 - D 1 12).toInt = 10 - (D 1 12).toInt := by
    rw [esp, nI_toInt (by omega), show (10 : Int32) = nI 10 from rfl, sub_n (by omega) (by omega)]; rfl
  have S4 : (D1' 1 (13 + 5 * i + 4) + r).toInt = (D1' 1 (13 + 5 * i + 4)).toInt + r.toInt := add_i (by have := R4.1; omega) (by have := R4.2; simp at this; omega)
  have S3 : (D1' 1 (13 + 5 * i + 3) + 1).toInt = (D1' 1 (13 + 5 * i + 3)).toInt + 1 := add_i (by have := R3.1; rw [show (1 : Int32).toInt = 1 by decide]; omega) (by have := R3.2; rw [show (1 : Int32).toInt = 1 by decide]; simp at this; omega)
  have Sl : (D1' 1 11 + nI (lyN k)).toInt = p + lyN k := by
    have := lyN_2 k
    rw [ep, nI_add, nI_toInt (by omega)]; omega
  have X4 : hl (D1' 1 (13 + 5 * i + 4) + r) 0 9999 = aw_min 9999 (D1' 1 (13 + 5 * i + 4) + r) := hl_min (by rw [S4]; have := R4.1; omega) (by decide)
  have X3 : hl (D1' 1 (13 + 5 * i + 3) + 1) 0 9999 = aw_min 9999 (D1' 1 (13 + 5 * i + 3) + 1) := hl_min (by rw [S3]; have := R3.1; omega) (by decide)
  have Xl : hl (D1' 1 11 + nI (lyN k)) 0 99 = aw_min 99 (D1' 1 11 + nI (lyN k)) := hl_min (by rw [Sl]; omega) (by decide)
  have I2 := I1.cl (j := 4) hi (by omega) (v := aw_min 9999 (D1' 1 (13 + 5 * i + 4) + r)) (min_hi (by rw [S4]; have := R4.1; omega) (by decide) (by decide))
  have I3 := I2.cl (j := 3) hi (by omega) (v := aw_min 9999 (D1' 1 (13 + 5 * i + 3) + 1)) (min_hi (by rw [S3]; have := R3.1; omega) (by decide) (by decide))
  have I4 := I3.upd1 (lk_mach (j := 4) (by omega)) (aw_min 99 (D1' 1 11 + nI (lyN k))) (fun _ _ => min_hi (by rw [Sl]; omega) (by decide) (by decide))
  have I5 := I4.upd1 lk_sec (D1' 1 0 + (10 - D1' 1 12)) (fun _ _ => by
    unfold Rb at Z ⊢
    rw [e1, add_i (by rw [v10, vsp]; omega) (by rw [v10, vsp]; omega), v10, vsp]
    rw [vsp] at hs
    show (0 : Int) ≤ _ ∧ _ ≤ (99999 : Int)
    omega)
  have eY : ydm D1' i r (nI (lyN k)) = aw_u (aw_u (aw_u (aw_u D1' 1 (13 + 5 * i + 4) (aw_min 9999 (D1' 1 (13 + 5 * i + 4) + r))) 1 (13 + 5 * i + 3) (aw_min 9999 (D1' 1 (13 + 5 * i + 3) + 1))) 1 (7 + 4) (aw_min 99 (D1' 1 11 + nI (lyN k)))) 1 0 (D1' 1 0 + (10 - D1' 1 12)) := by
    unfold ydm; rw [X4, X3, Xl]
  rw [eY] at y
  have hD1 : ∀ q, q = 5 ∨ q = 6 ∨ (113 ≤ q ∧ q < 213) → (aw_u (aw_u (aw_u (aw_u D1' 1 (13 + 5 * i + 4) (aw_min 9999 (D1' 1 (13 + 5 * i + 4) + r))) 1 (13 + 5 * i + 3) (aw_min 9999 (D1' 1 (13 + 5 * i + 3) + 1))) 1 (7 + 4) (aw_min 99 (D1' 1 11 + nI (lyN k)))) 1 0 (D1' 1 0 + (10 - D1' 1 12))) 1 q = D 1 q := fun q hq => by
    rw [aw_u_j 1 (by omega), aw_u_j 1 (by omega), aw_u_j 1 (by omega), aw_u_j 1 (by omega), e1]
  refine ⟨r, _, _, ?_, y, I5, ?_, hd.cg hD1, ?_, ?_, ?_, ?_⟩
  · unfold fc_St_sewYard
    rw [h1, aw_bi_s]
    have J : ∀ r, fc_St_sewYard_J21 i r C1 = some (r, aw_u (aw_u (aw_u (aw_u C1 (14 + i) 4 (aw_min 9999 (C1 (14 + i) 4 + r))) (14 + i) 3 (aw_min 9999 (C1 (14 + i) 3 + 1))) 3 4 (aw_min 99 (C1 3 4 + nI (lyN k)))) 1 8 (C1 1 8 + (10 - C1 3 5))) := by
      intro r
      have kk : (aw_u (aw_u C1 (14 + i) 4 (aw_min 9999 (C1 (14 + i) 4 + r))) (14 + i) 3 (aw_min 9999 (((aw_u C1 (14 + i) 4 (aw_min 9999 (C1 (14 + i) 4 + r))) (14 + i) 3) + 1))) (14 + i) 0 = nI k := by
        rw [aw_u_j _ (by decide), aw_u_j _ (by decide), h3 (14 + i) (by omega)]; exact e'
      simp only [fc_St_sewYard_J21, ly_c hk kk, bi_n, bv_n, fc_Ma_gather, fc_Ma_yardSeconds, Nat.add_zero]
      rw [aw_u_j (14 + i) (show 3 ≠ 4 by decide), aw_u_o (a := 3) 4 (by omega), aw_u_o (a := 3) 4 (by omega), aw_u_o (a := 1) 8 (by omega), aw_u_o (a := 1) 8 (by omega), aw_u_o (a := 1) 8 (by omega), aw_u_j 3 (show 5 ≠ 4 by decide), aw_u_o (a := 3) 5 (by omega), aw_u_o (a := 3) 5 (by omega)]
    have fin : (if mS L D i = 0 then fc_St_sewYard_J21 i 0 C1 else fc_St_sewYard_J21 i 1 C1) = fc_St_sewYard_J21 i r C1 := by
      rw [← hsp]; unfold spo
      by_cases c : mS L D i = 0
      · rw [if_pos c, if_pos c]
      · rw [if_neg c, if_neg c]
    rw [fin, J r, E4, E3, E5, E0, El]
  · refine (hc.k h3).cg ?_ ?_ ?_ ?_
    · rw [aw_u_o _ (by decide), aw_u_o _ (by decide), aw_u_o _ (by omega), aw_u_o _ (by omega)]
    · rw [aw_u_o _ (by decide), aw_u_o _ (by decide), aw_u_o _ (by omega), aw_u_o _ (by omega)]
    · rw [aw_u_row (by decide), aw_u_row (by decide), aw_u_row (by omega), aw_u_row (by omega)]
    · rw [aw_u_row (by decide), aw_u_row (by decide), aw_u_row (by omega), aw_u_row (by omega)]
  · intro q hq gq
    have V : ∀ j, j < 3 → (aw_u (aw_u (aw_u (aw_u C1 (14 + i) 4 (aw_min 9999 (D1' 1 (13 + 5 * i + 4) + r))) (14 + i) 3 (aw_min 9999 (D1' 1 (13 + 5 * i + 3) + 1))) 3 4 (aw_min 99 (D1' 1 11 + nI (lyN k)))) 1 8 (D1' 1 0 + (10 - D1' 1 12))) (14 + q) j = C1 (14 + q) j := fun j hj => by
      rw [aw_u_o _ (by omega), aw_u_o _ (by omega), aw_u_j _ (by omega), aw_u_j _ (by omega)]
    refine (h4 q hq gq).cg ?_ (V 0 (by omega)) (V 1 (by omega)) (V 2 (by omega)) ?_
    · rw [aw_u_row (by omega), aw_u_row (by omega), aw_u_row (by omega), aw_u_row (by omega)]
    · rw [aw_u_row (by omega), aw_u_row (by omega), aw_u_row (by omega), aw_u_row (by omega)]
  · rw [aw_u_s, e1]
  · rw [aw_u_j 1 (by omega), aw_u_j 1 (by omega), aw_u_j 1 (by omega), aw_u_j 1 (by omega), e1]
  · rw [aw_u_j 1 (by omega), aw_u_j 1 (by omega), aw_u_j 1 (by omega), aw_u_j 1 (by omega), e1]
