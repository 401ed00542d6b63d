theorem nI_mul (a b : Nat) : nI a * nI b = nI (a * b) := (Int32.ofNat_mul a b).symm
theorem CL.u {L : Lw} {C : aw_M} (h : CL L C) {o j : Nat} {v : Int32} (h1 : o ≠ 26) (h2 : o ≠ 27) (h3 : o ≠ 30) (h4 : o ≠ 31) : CL L (aw_u C o j v) := h.cg (aw_u_o 2 h1.symm) (aw_u_o 2 h2.symm) (aw_u_row h3.symm) (aw_u_row h4.symm)
theorem GV.u {L : Lw} {C : aw_M} {q : Nat} (g : GV L C q) (hq : q < 6) {o j : Nat} {v : Int32} (h1 : o < 14) : GV L (aw_u C o j v) q := g.cg (aw_u_row (by omega)) (aw_u_o 0 (by omega)) (aw_u_o 1 (by omega)) (aw_u_o 2 (by omega)) (aw_u_row (by omega))
theorem DL.u {L : Lw} {D : aw_M} (h : DL L D) {b : Nat} {v : Int32} (hb : b ≠ 5) (hb' : b ≠ 6) (hb2 : b < 113) : DL L (aw_u D 1 b v) := h.cg (fun k hk => aw_u_j 1 (by omega))
theorem sew_l {L : Lw} (hL : LR L) {i N : Nat} (hi : i < 6) (hN : N ≤ 200) : ∀ (d j f n : Nat) (s : Int32) (C D : aw_M), j + d = N → d < f → Inv n C D → CL L C → DL L D → GV L C i → (D 1 0).toInt + d * (10 - (D 1 12).toInt) ≤ 99999 → ∃ r C' D', fc_LB_sew_L69 f (nI N) i s (nI j) C = some (r, C') ∧ fm_sews_L5 f (nI i) (nI N) s (nI j) D = some (r, D') ∧ Inv n C' D' := by
  intro d
  induction d with
  | zero =>
    intro j f n s C D h hf hI hc hd g hs
    obtain ⟨f, rfl⟩ : ∃ g, f = g + 1 := ⟨f - 1, by omega⟩
    refine ⟨s, C, D, ?_, ?_, hI⟩
    · rw [fc_LB_sew_L69_s, if_pos (nI_le (by omega) (by omega))]
    · rw [fm_sews_L5_s, if_pos (nI_le (by omega) (by omega))]
  | succ d ih =>
    intro j f n s C D h hf hI hc hd g hs
    obtain ⟨f, rfl⟩ : ∃ g, f = g + 1 := ⟨f - 1, by omega⟩
    obtain ⟨sp, hsp, esp⟩ := hI.row.at 12 9
    have vsp : (D 1 12).toInt = sp := by rw [esp, nI_toInt (by omega)]
    have Z : Rb (D 1 0) 0 99999 := hI.row 0 (by omega) (by omega) (by omega) (by omega)
    unfold Rb at Z
    have v10 : (10 - D 1 12).toInt = 10 - (D 1 12).toInt := by
      rw [esp, nI_toInt (by omega), show (10 : Int32) = nI 10 from rfl, sub_n (by omega) (by omega)]; rfl
    rw [vsp] at hs
    have hs' : (D 1 0).toInt + (10 - sp) + d * (10 - sp) ≤ 99999 := by
      have : ((d + 1 : Nat) : Int) * (10 - (sp : Int)) = d * (10 - sp) + (10 - sp) := by
        rw [Int.natCast_add, Int.add_mul]; simp
      omega
    have hp : (0 : Int) ≤ d * (10 - (sp : Int)) := Int.mul_nonneg (by omega) (by omega)
    obtain ⟨r, C1, D1, e1, e2, I1, c1, d1, g1, s0, s12, s2⟩ := yard_both hI hc hd hL hi g (by rw [vsp]; omega)
    obtain ⟨r', C2, D2, e3, e4, I2⟩ := ih (j + 1) f n (s + r) C1 D1 (by omega) (by omega) I1 c1 d1 (g1 i hi g) (by
      rw [s0, s12, add_i (by rw [v10, vsp]; omega) (by rw [v10, vsp]; omega), v10, vsp]; omega)
    refine ⟨r', C2, D2, ?_, ?_, I2⟩
    · rw [fc_LB_sew_L69_s, if_neg (nI_ge (by omega) (by omega)), e1, aw_bi_s, nI_1, e3]
    · rw [fm_sews_L5_s, if_neg (nI_ge (by omega) (by omega)), e2, aw_bi_s, nI_1, e4]
theorem in1 {a hi : Int32} {α : Type} (E K : α) (h : 1 ≤ a ∧ a ≤ hi) : (if a < 1 then E else if a ≤ hi then K else E) = K := by
  rw [if_neg (fun q => by have := h.1; rw [lt_i] at q; rw [le_i] at this; omega), if_pos h.2]
theorem in1n {a hi : Int32} {α : Type} (E K : α) (h : ¬ (1 ≤ a ∧ a ≤ hi)) : (if a < 1 then E else if a ≤ hi then K else E) = E := by
  by_cases h1 : a < 1
  · rw [if_pos h1]
  · rw [if_neg h1, if_neg (fun q => h ⟨Int32.not_lt.mp h1, q⟩)]
theorem Inv.gauge {n : Nat} {C D : aw_M} (hI : Inv n C D) {L : Lw} (h : CL L C) {i : Nat} (hi : i < 6) : ∃ C', fc_LB_gaugeOf (nI i) C = some (i, C') ∧ KC C C' ∧ GV L C' i ∧ (∀ q, q < 6 → q ≠ i → GV L C q → GV L C' q) ∧ Inv n C' D := by
  obtain ⟨k, hk, e, e'⟩ := hI.kind hi
  obtain ⟨C1, q1, q2, q3, q4⟩ := gauge_c h hi hk e'
  exact ⟨C1, q1, q2, q3, q4, hI.same q2.sc (SD.rf D)⟩
theorem eq_sew (a b : Int32) : op_ok Inv (fc_LB_sew a b) (fm_sew a b) := by
  intro n C D hn hI
  rcases (Classical.em (okC a D)).symm with h | h
  · exact go1 hI (sb (hc_c hI a) (sp (if_neg h) rfl)) (sb (ic_m a D) (sp (if_neg h) rfl))
  obtain ⟨i, hi, rfl, -⟩ := hI.ok h
  simp only [fc_LB_sew, fm_sew, hc_c hI, ic_m, if_pos h, bi_n, i10, if_false]
  rcases (Classical.em (1 ≤ b ∧ b ≤ 200)).symm with hb | hb
  · rw [in_n hb, in1n _ _ hb]; exact er1 hI
  rw [in_y hb, in1 _ _ hb]
  obtain ⟨N, hN1, hN, rfl⟩ := rng 1 200 hb
  obtain ⟨L, l1, l2, l3⟩ := laws_L hI.2.2.2.2.1
  obtain ⟨C1, q1, q2, q3, -, I1⟩ := hI.gauge l1 hi
  have n6 : (6 ≤ i) = False := eq_false (by omega)
  obtain ⟨sp, hsp, esp⟩ := hI.row.at 12 9
  have esp' : C 3 5 = nI sp := (hI.1 _ _ _ _ (lk_mach (j := 5) (by omega))).trans esp
  have vsp : (D 1 12).toInt = sp := by rw [esp, nI_toInt (by omega)]
  have Z : Rb (D 1 0) 0 99999 := hI.row 0 (by omega) (by omega) (by omega) (by omega)
  have E0 := hI.1 _ _ _ _ lk_sec
  have e10 : (10 - nI sp : Int32) = nI (10 - sp) := by
    apply Int32.toInt_inj.mp
    rw [show (10 : Int32) = nI 10 from rfl, sub_n (by omega) (by omega), nI_toInt (by omega)]; omega
  simp only [bi_n, i10, if_false, fc_Ma_yardSeconds, Nat.add_zero, esp, esp', E0, e10, nI_mul, q1, br_n, n6, bi_id]
  have hm : N * (10 - sp) ≤ 200 * 10 := Nat.mul_le_mul hN (by omega)
  have V : (nI (N * (10 - sp))).toInt = (N * (10 - sp) : Nat) := nI_toInt (by omega)
  by_cases hs : D 1 0 + nI (N * (10 - sp)) ≤ 99999
  · have hs2 := (le_add Z ⟨by omega, by omega⟩).mp hs
    rw [V] at hs2
    simp only [if_pos hs]
    obtain ⟨r, C2, D2, e1, e2, I2⟩ := sew_l l3 hi hN N 0 2000 n 0 C1 D (by omega) (by omega) I1 (l1.k q2) l2 q3 (by
      rw [vsp]
      have : ((N * (10 - sp) : Nat) : Int) = N * (10 - sp) := by rw [Int.natCast_mul, Int.natCast_sub (by omega)]; rfl
      rw [← this]; exact hs2)
    rw [nI_0] at e1 e2
    exact go0e I2 e1 e2 rfl
  · simp only [if_neg hs]; exact er3 hI
-- evenings
theorem nI_u (x : UInt32) : x.toInt32 = nI x.toNat := by
  apply Int32.toBitVec_inj.mp
  show x.toBitVec = BitVec.ofNat 32 x.toNat
  rw [UInt32.toNat, BitVec.ofNat_toNat, BitVec.setWidth_eq]
theorem ush_n (z : Int32) : ∃ a, a < 2 ^ 24 ∧ aw_ush z 8 = nI a := by
  unfold aw_ush
  refine ⟨_, ?_, nI_u _⟩
  rw [show ((8 : Int32).toUInt32 &&& Int32.toUInt32 31) = (8 : UInt32) by decide, UInt32.toNat_shiftRight, show (8 : UInt32).toNat % 32 = 8 by decide, Nat.shiftRight_eq_div_pow]
  have := z.toUInt32.toNat_lt
  omega
theorem div_n {a b : Nat} (ha : a < 2 ^ 31) (hb : b < 2 ^ 31) : nI a / nI b = nI (a / b) := by
  apply Int32.toInt_inj.mp
  have h1 : a / b ≤ a := Nat.div_le_self a b
  rw [nI_toInt (show a / b < 2 ^ 31 by omega), Int32.toInt_div, nI_toInt ha, nI_toInt hb]
  rw [show (a : Int).tdiv (b : Int) = ((a / b : Nat) : Int) from rfl, Int.bmod_def]
  generalize a / b = q at *
  omega
theorem rem_n {a b : Nat} (ha : a < 2 ^ 31) (hb : b < 2 ^ 31) : aw_rem (nI a) (nI b) = nI (a % b) := by
  unfold aw_rem
  rw [div_n ha hb, nI_mul]
  apply Int32.toInt_inj.mp
  have h1 : a / b * b ≤ a := Nat.div_mul_le_self a b
  have h2 : a % b = a - a / b * b := by have := Nat.div_add_mod a b; rw [Nat.mul_comm] at this; omega
  rw [Int32.toInt_sub, nI_toInt ha, nI_toInt (show a / b * b < 2 ^ 31 by omega), nI_toInt (show a % b < 2 ^ 31 by omega), Int.bmod_def]
  omega
theorem even_both {n m : Nat} {C D : aw_M} {L : Lw} (hm : m ≤ 6) (hI : Inv n C D) (em : D 1 2 = nI m) (hc : CL L C) (hd : DL L D) (hL : LR L) (g : ∀ q, q < m → GV L C q) (hs : (D 1 0).toInt + 30 ≤ 99999) :
    ∃ r C' D', fc_LB_evening C = some (r, C') ∧ (∀ (K : Int32 → Int32 → Int32 → aw_M → Option (Int32 × aw_M)) (p1 p2 p3 : Int32), (aw_bi (fm_drawn 7 D) fun r_8 M_9 => if (M_9 1 2) ≤ 0 then fm_loose_J77 K p1 p2 p3 r_8 1 M_9 else fm_loose_J77 K p1 p2 p3 r_8 (M_9 1 2) M_9) = K p1 (p2 + r) (p3 + 1) D') ∧ Inv n C' D' ∧ CL L C' ∧ DL L D' ∧ (∀ q, q < m → GV L C' q) ∧ D' 1 2 = nI m ∧ (D' 1 0).toInt ≤ (D 1 0).toInt + 30 := by
  have Ez : C 1 9 = D 1 1 := hI.1 _ _ _ _ lk_z
  obtain ⟨a, ha, ea⟩ := ush_n (D 1 1 * 1103515245 + 12345)
  have I1 := hI.upd1 lk_z (D 1 1 * 1103515245 + 12345) (by omega)
  have Ez1 : aw_u C 1 9 (D 1 1 * 1103515245 + 12345) 1 9 = aw_u D 1 1 (D 1 1 * 1103515245 + 12345) 1 1 := by rw [aw_u_s, aw_u_s]
  have c1 : CL L (aw_u C 1 9 (D 1 1 * 1103515245 + 12345)) := hc.u (by decide) (by decide) (by decide) (by decide)
  have d1 : DL L (aw_u D 1 1 (D 1 1 * 1103515245 + 12345)) := hd.u (by decide) (by decide) (by decide)
  have g1 : ∀ q, q < m → GV L (aw_u C 1 9 (D 1 1 * 1103515245 + 12345)) q := fun q hq => (g q hq).u (by omega) (by decide)
  have m1 : aw_u D 1 1 (D 1 1 * 1103515245 + 12345) 1 2 = nI m := by rw [aw_u_j 1 (by decide)]; exact em
  have s1 : aw_u D 1 1 (D 1 1 * 1103515245 + 12345) 1 0 = D 1 0 := aw_u_j 1 (by decide)
  have dr1 : fc_St_draw C = some (nI a, aw_u C 1 9 (D 1 1 * 1103515245 + 12345)) := by
    unfold fc_St_draw; rw [Ez, aw_u_s, ea]
  have dm1 : fm_drawn 7 D = some (nI (a % 7), aw_u D 1 1 (D 1 1 * 1103515245 + 12345)) := by
    unfold fm_drawn; rw [if_neg (by decide), aw_u_s, ea, show (7 : Int32) = nI 7 from rfl, rem_n (by omega) (by omega)]
  rw [dm1]
  generalize aw_u C 1 9 (D 1 1 * 1103515245 + 12345) = C1 at *
  generalize aw_u D 1 1 (D 1 1 * 1103515245 + 12345) = D1 at *
  obtain ⟨b, hb, eb⟩ := ush_n (D1 1 1 * 1103515245 + 12345)
  have I2 := I1.upd1 lk_z (D1 1 1 * 1103515245 + 12345) (by omega)
  have c2 : CL L (aw_u C1 1 9 (D1 1 1 * 1103515245 + 12345)) := c1.u (by decide) (by decide) (by decide) (by decide)
  have d2 : DL L (aw_u D1 1 1 (D1 1 1 * 1103515245 + 12345)) := d1.u (by decide) (by decide) (by decide)
  have g2 : ∀ q, q < m → GV L (aw_u C1 1 9 (D1 1 1 * 1103515245 + 12345)) q := fun q hq => (g1 q hq).u (by omega) (by decide)
  have m2 : aw_u D1 1 1 (D1 1 1 * 1103515245 + 12345) 1 2 = nI m := by rw [aw_u_j 1 (by decide)]; exact m1
  have s2 : aw_u D1 1 1 (D1 1 1 * 1103515245 + 12345) 1 0 = D 1 0 := by rw [aw_u_j 1 (by decide)]; exact s1
  have dr2 : fc_St_draw C1 = some (nI b, aw_u C1 1 9 (D1 1 1 * 1103515245 + 12345)) := by
    unfold fc_St_draw; rw [Ez1, aw_u_s, eb]
  have dm2 : ∀ k, k < 2 ^ 31 → 0 < k → fm_drawn (nI k) D1 = some (nI (b % k), aw_u D1 1 1 (D1 1 1 * 1103515245 + 12345)) := fun k hk h0 => by
    unfold fm_drawn; rw [if_neg (nI_ne0 h0 hk), aw_u_s, eb, rem_n (by omega) hk]
  have dm21 : fm_drawn 1 D1 = some (nI (b % 1), aw_u D1 1 1 (D1 1 1 * 1103515245 + 12345)) := dm2 1 (by omega) (by omega)
  generalize aw_u C1 1 9 (D1 1 1 * 1103515245 + 12345) = C2 at *
  generalize aw_u D1 1 1 (D1 1 1 * 1103515245 + 12345) = D2 at *
  have ha7 : a % 7 < 7 := Nat.mod_lt _ (by omega)
  have r7 : aw_rem (nI a) 7 = nI (a % 7) := rem_n (b := 7) (by omega) (by omega)
  have E1 := I2.1 3 1 1 8 (lk_mach (j := 1) (by omega))
  have E2 := I2.1 3 2 1 9 (lk_mach (j := 2) (by omega))
  -- behind the deed
  have key : ∀ C3 D3, Inv n C3 D3 → CL L C3 → DL L D3 → (∀ q, q < m → GV L C3 q) → D3 1 2 = nI m → (D3 1 0).toInt ≤ (D 1 0).toInt + 20 → ∃ r C' D', (if (C3 1 5) = 0 then some ((0 : Int32), C3) else (if (C3 1 5) = 0 then none else (if aw_in (aw_rem (nI b) (C3 1 5)) 6 then none else fc_St_sewYard ((aw_rem (nI b) (C3 1 5)).toNatClampNeg) C3))) = some (r, C') ∧ (∀ (K : Int32 → Int32 → Int32 → aw_M → Option (Int32 × aw_M)) (p1 p2 p3 : Int32), (if (D3 1 2) ≤ 0 then K p1 (p2 + 0) (p3 + 1) D3 else (aw_bi (fm_yard (nI (b % (if m = 0 then 1 else m))) D3) fun r_26 M_27 => K p1 (p2 + r_26) (p3 + 1) M_27)) = K p1 (p2 + r) (p3 + 1) D') ∧ Inv n C' D' ∧ CL L C' ∧ DL L D' ∧ (∀ q, q < m → GV L C' q) ∧ D' 1 2 = nI m ∧ (D' 1 0).toInt ≤ (D 1 0).toInt + 30 := by
    intro C3 D3 I3 c3 d3 g3 m3 s3
    have m3' : C3 1 5 = nI m := (I3.1 _ _ _ _ lk_cnt).trans m3
    by_cases hz : m = 0
    · subst hz
      exact ⟨0, C3, D3, by rw [m3', if_pos nI_0], fun K p1 p2 p3 => by rw [m3, if_pos (by decide)], I3, c3, d3, g3, m3, by omega⟩
    · have hbm : b % m < m := Nat.mod_lt _ (by omega)
      obtain ⟨sp, hsp, esp⟩ := I3.row.at 12 9
      have vsp : (D3 1 12).toInt = sp := by rw [esp, nI_toInt (by omega)]
      have Z : Rb (D3 1 0) 0 99999 := I3.row 0 (by omega) (by omega) (by omega) (by omega)
      unfold Rb at Z
      have v10 : (10 - D3 1 12).toInt = 10 - (D3 1 12).toInt := by
        rw [esp, nI_toInt (by omega), show (10 : Int32) = nI 10 from rfl, sub_n (by omega) (by omega)]; rfl
      obtain ⟨r, C4, D4, e1, e2, I4, c4, d4, g4, s0, s12, s2'⟩ := yard_both I3 c3 d3 hL (i := b % m) (by omega) (g3 _ hbm) (by rw [vsp]; omega)
      refine ⟨r, C4, D4, ?_, fun K p1 p2 p3 => ?_, I4, c4, d4, fun q hq => g4 q (by omega) (g3 q hq), s2'.trans m3, ?_⟩
      · rw [m3']
        simp only [if_neg (nI_ne0 (show 0 < m by omega) (by omega)), rem_n (show b < 2 ^ 31 by omega) (show m < 2 ^ 31 by omega), ni_f (show b % m < 6 by omega) (by omega), if_false, nI_clamp (show b % m < 2 ^ 31 by omega), e1]
      · rw [m3, if_neg (nI_nle (by omega) (by omega)), if_neg hz, e2, aw_bi_s]
      · rw [s0, add_i (by rw [v10, vsp]; omega) (by rw [v10, vsp]; omega), v10, vsp]; omega
  have J : ∀ (K : Int32 → Int32 → Int32 → aw_M → Option (Int32 × aw_M)) (p1 p2 p3 : Int32), (aw_bi (some (nI (a % 7), D1)) fun r_8 M_9 => if (M_9 1 2) ≤ 0 then fm_loose_J77 K p1 p2 p3 r_8 1 M_9 else fm_loose_J77 K p1 p2 p3 r_8 (M_9 1 2) M_9) = fm_loose_J77 K p1 p2 p3 (nI (a % 7)) (nI (if m = 0 then 1 else m)) D1 := by
    intro K p1 p2 p3
    rw [aw_bi_s, m1]
    by_cases hz : m = 0
    · subst hz; rw [if_pos (by decide), if_pos rfl]; rfl
    · rw [if_neg (nI_nle (by omega) (by omega)), if_neg hz]
  have dmm : fm_drawn (nI (if m = 0 then 1 else m)) D1 = some (nI (b % (if m = 0 then 1 else m)), D2) := dm2 _ (by split <;> omega) (by split <;> omega)
  by_cases hr : room (a % 7) (D2 1 8) (D2 1 9) = true
  · have R := la_rg (a % 7) ha7
    have I3 := I2.deed ha7 hr (by rw [s2]; omega)
    have s3 : (D 1 0 + la (a % 7)).toInt = (D 1 0).toInt + (la (a % 7)).toInt := by
      have Z : Rb (D2 1 0) 0 99999 := I2.row 0 (by omega) (by omega) (by omega) (by omega)
      unfold Rb at Z
      rw [s2] at Z
      exact add_i (by omega) (by omega)
    obtain ⟨r, C', D', k1, k2, k3⟩ := key _ _ I3 ((c2.u (by decide) (by decide) (by decide) (by decide)).u (by decide) (by decide) (by decide) (by decide)) ((d2.u (by have := fj_lt ha7; omega) (by have := fj_lt ha7; omega) (by have := fj_lt ha7; omega)).u (by decide) (by decide) (by decide)) (fun q hq => ((g2 q hq).u (by omega) (by decide)).u (by omega) (by decide)) (by rw [aw_u_j 1 (by decide), aw_u_j 1 (by have := fj_lt ha7; omega)]; exact m2) (by rw [aw_u_s, s2, s3]; omega)
    refine ⟨r, C', D', ?_, fun K p1 p2 p3 => ?_, k3⟩
    · simp only [fc_LB_evening, dr1, dr2, bi_n, r7, room_c ha7, Nat.add_zero, E1, E2, if_pos hr, i10, if_false, fols_c ha7, bv_n]
      rw [E1, E2] at k1
      exact k1
    · rw [J]
      simp only [fm_loose_J77, dmm, bi_n, can_m ha7, if_pos hr, i10, if_false, does_m ha7, bv_n]
      exact k2 K p1 p2 p3
  · obtain ⟨r, C', D', k1, k2, k3⟩ := key C2 D2 I2 c2 d2 g2 m2 (by rw [s2]; omega)
    refine ⟨r, C', D', ?_, fun K p1 p2 p3 => ?_, k3⟩
    · simp only [fc_LB_evening, dr1, dr2, bi_n, r7, room_c ha7, Nat.add_zero, E1, E2, if_neg hr, i00, if_true]
      exact k1
    · rw [J]
      simp only [fm_loose_J77, dmm, bi_n, can_m ha7, if_neg hr, i00, if_true]
      exact k2 K p1 p2 p3
