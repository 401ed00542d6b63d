-- text
theorem and_255 (x : Int32) : ∃ y, y < 256 ∧ (x &&& 255 : Int32) = nI y := by
  refine ⟨(x &&& 255 : Int32).toBitVec.toNat, ?_, ?_⟩
  · show (x.toBitVec &&& (255 : Int32).toBitVec).toNat < 256
    rw [BitVec.toNat_and, show (255 : Int32).toBitVec.toNat = 255 by decide]
    have : x.toBitVec.toNat &&& 255 ≤ 255 := Nat.and_le_right
    omega
  · apply Int32.toBitVec_inj.mp
    show (x &&& 255 : Int32).toBitVec = BitVec.ofNat 32 (x &&& 255 : Int32).toBitVec.toNat
    rw [BitVec.ofNat_toNat, BitVec.setWidth_eq]
theorem aw_u_cg {M M' : aw_M} {a j o : Nat} {v : Int32} (h : M o = M' o) : aw_u M a j v o = aw_u M' a j v o := by
  funext b
  rw [aw_u_if, aw_u_if, h]
theorem Inv.law {n : Nat} {C D C' D' : aw_M} {u : Nat} (hI : Inv n C D) (hu : u < 2) (hc : ∀ o, (o < 5 ∨ (6 ≤ o ∧ o < 34) ∨ o = 38 ∨ 57 ≤ o) → o ≠ 26 + u → o ≠ 30 + u → C' o = C o) (h56 : C' 56 1 = C 56 1) (hd1 : ∀ k, k < 213 → k ≠ 5 + u → ¬ (113 + 50 * u ≤ k ∧ k < 163 + 50 * u) → D' 1 k = D 1 k) (hd2 : ∀ k, k < 213 → D' 2 k = D 2 k) (hd3 : ∀ o, ((5 ≤ o ∧ o ≤ 8) ∨ o = 11) → D' o = D o) (hd4 : ∀ j, (j = 4 ∨ j = 5 ∨ j = 23) → D' 0 j = D 0 j) (hl : LawR u (C' (26 + u) 2) (C' (30 + u)) (D' 1 (5 + u)) (fun k => D' 1 (113 + 50 * u + k))) : Inv n C' D' := by
  obtain ⟨h1, ⟨h2, h2'⟩, ⟨h3, h3'⟩, ⟨h4, h4'⟩, h5, ⟨h6, h7, h7'⟩, h8⟩ := hI
  have e4 : D' 0 4 = D 0 4 := hd4 4 (by omega)
  have e5 : D' 0 5 = D 0 5 := hd4 5 (by omega)
  have e23 : D' 0 23 = D 0 23 := hd4 23 (by omega)
  refine ⟨fun o j a b lk => ?_, ⟨fun k hk => ?_, fun k hk => ?_⟩, ⟨fun b h1 h2 h3' h4 => ?_, fun b h1 h2 h3 h4 => ?_⟩, ⟨fun s hs => ?_, by rw [e23]; exact h4'⟩, ?_, ⟨by rw [e5]; exact h6, by rw [e4]; exact h7, by rw [e4, e5]; exact h7'⟩, fun hk => ?_⟩
  · have no := Lk_o lk
    have ec : C' o j = C o j := by
      rcases Lk_C lk with g | ⟨rfl, rfl⟩
      · rw [hc o g (by omega) (by omega)]
      · exact h56
    have ed : D' a b = D a b := by
      rcases Lk_D lk with ⟨rfl, g⟩ | ⟨rfl, g⟩ | g | ⟨rfl, g⟩
      · refine hd1 b g ?_ ?_ <;> (unfold Lk at lk; omega)
      · exact hd2 b g
      · rw [hd3 a g]
      · exact hd4 b g
    rw [ec, ed]
    exact h1 o j a b lk
  · rw [hd1 (43 + k) (by omega) (by omega) (by omega), hc 10 (by omega) (by omega) (by omega)]; exact h2 k hk
  · rw [hd2 (43 + k) (by omega), hc 11 (by omega) (by omega) (by omega)]; exact h2' k hk
  · rw [hd1 b (by omega) (by omega) (by omega)]; exact h3 b h1 h2 h3' h4
  · rw [hd2 b (by omega)]; exact h3' b h1 h2 h3 h4
  · rw [hd3 6 (by omega), hd3 7 (by omega)]; exact h4 s hs
  · rcases (show u = 0 ∨ u = 1 by omega) with rfl | rfl
    · refine ⟨hl, ?_⟩
      rw [hc 27 (by omega) (by omega) (by omega), hc 31 (by omega) (by omega) (by omega), hd1 6 (by omega) (by omega) (by omega)]
      exact h5.2.cg (fun k hk => hd1 (163 + k) (by omega) (by omega) (by omega))
    · refine ⟨?_, hl⟩
      rw [hc 26 (by omega) (by omega) (by omega), hc 30 (by omega) (by omega) (by omega), hd1 5 (by omega) (by omega) (by omega)]
      exact h5.1.cg (fun k hk => hd1 (113 + k) (by omega) (by omega) (by omega))
  · have h9 := h8 (by rw [← e4]; exact hk)
    refine ⟨⟨?_, ?_⟩, h9.2.cg (fun o ho => hc o (by omega) (by omega) (by omega)) (fun k hk => hd2 k hk)⟩
    · rw [hc 28 (by omega) (by omega) (by omega), hc 32 (by omega) (by omega) (by omega), hd2 5 (by omega)]; exact h9.1.1.cg (fun k hk => hd2 (113 + k) (by omega))
    · rw [hc 29 (by omega) (by omega) (by omega), hc 33 (by omega) (by omega) (by omega), hd2 6 (by omega)]; exact h9.1.2.cg (fun k hk => hd2 (163 + k) (by omega))
theorem reads_l {e : Nat} {tx : Nat → Int32} (he : e ≤ 50) (p3 : Int32) : ∀ (d k n : Nat) (M : aw_M), k + d = e → d < n → M 53 4 = nI e → (∀ q, q < 50 → M 10 q &&& 255 = tx q) → (∀ q, q < k → M 55 q = tx q) → ∃ M', fc_Te_reads_L19 n p3 (nI k) M = (aw_bi (FC_rd 60 0 0 0 (aw_u (aw_u (aw_u M' 53 5 p3) 53 3 0) 53 2 0)) fun r_6 M_7 => if r_6 = 0 then some (0, M_7) else if (M_7 53 3) = (M_7 53 4) then some (1, M_7) else some (0, M_7)) ∧ (∀ o, o ≠ 55 → M' o = M o) ∧ ∀ q, q < e → M' 55 q = tx q := by
  intro d
  induction d with
  | zero =>
    intro k n M h hn e4 ht hk
    obtain ⟨n, rfl⟩ : ∃ g, n = g + 1 := ⟨n - 1, by omega⟩
    obtain rfl : k = e := by omega
    refine ⟨M, ?_, fun _ _ => rfl, hk⟩
    rw [fc_Te_reads_L19_s, e4, if_pos (nI_le (by omega) (by omega))]
  | succ d ih =>
    intro k n M h hn e4 ht hk
    obtain ⟨n, rfl⟩ : ∃ g, n = g + 1 := ⟨n - 1, by omega⟩
    obtain ⟨M', z1, z2, z3⟩ := ih (k + 1) n (aw_u M 55 k (tx k)) (by omega) (by omega) (by rw [aw_u_o _ (by decide)]; exact e4) (fun q hq => by rw [aw_u_o _ (by decide)]; exact ht q hq) (fun q hq => by
      by_cases c : q = k
      · subst c; rw [aw_u_s]
      · rw [aw_u_j _ c]; exact hk q (by omega))
    refine ⟨M', ?_, fun o ho => by rw [z2 o ho, aw_u_row ho], z3⟩
    rw [fc_Te_reads_L19_s]
    simp only [e4, if_neg (nI_ge (show k < e by omega) (by omega)), ni_f (show k < 50 by omega) (show 50 < 2 ^ 31 by omega), if_false, nI_clamp (show k < 2 ^ 31 by omega), ht k (by omega), nI_1]
    exact z1
theorem text_l {u : Nat} (hu : u < 2) : ∀ (d k n : Nat) (M : aw_M), k + d = 50 → d < n → ∃ M', fm_text_L30 n (nI u) (nI k) M = (aw_bi (fm_walks (nI u) 1 1 1 (aw_u M' 1 (5 + u) (M' 1 3))) fun r_10 M_11 => if (M_11 0 14) = 0 then fm_text_J105 0 M_11 else fm_text_J105 1 M_11) ∧ (∀ o, o ≠ 1 → M' o = M o) ∧ (∀ q, k ≤ q → q < 50 → M' 1 (113 + 50 * u + q) = M 1 (43 + q)) ∧ ∀ j, ¬ (113 + 50 * u + k ≤ j ∧ j < 163 + 50 * u) → M' 1 j = M 1 j := by
  intro d
  induction d with
  | zero =>
    intro k n M h hn
    obtain ⟨n, rfl⟩ : ∃ g, n = g + 1 := ⟨n - 1, by omega⟩
    obtain rfl : k = 50 := by omega
    refine ⟨M, ?_, fun _ _ => rfl, fun q a b => by omega, fun _ _ => rfl⟩
    have e1 : (5 + nI u : Int32) = nI (5 + u) := nI_add 5 u
    rw [fm_text_L30_s]
    simp only [if_pos (show (50 : Int32) ≤ nI 50 by decide), e1, ni_f (show 5 + u < 213 by omega) (show 213 < 2 ^ 31 by omega), if_false, nI_clamp (show 5 + u < 2 ^ 31 by omega), if_true]
  | succ d ih =>
    intro k n M h hn
    obtain ⟨n, rfl⟩ : ∃ g, n = g + 1 := ⟨n - 1, by omega⟩
    obtain ⟨M', z1, z2, z3, z4⟩ := ih (k + 1) n (aw_u M 1 (113 + 50 * u + k) (M 1 (43 + k))) (by omega) (by omega)
    refine ⟨M', ?_, fun o ho => by rw [z2 o ho, aw_u_row ho], fun q a b => ?_, fun j hj => ?_⟩
    · have e1 : (43 + nI k : Int32) = nI (43 + k) := nI_add 43 k
      have e2 : (113 + 50 * nI u + nI k : Int32) = nI (113 + 50 * u + k) := by
        rw [show (50 * nI u : Int32) = nI (50 * u) from nI_mul 50 u, show (113 + nI (50 * u) : Int32) = nI (113 + 50 * u) from nI_add 113 _, nI_add]
      rw [fm_text_L30_s]
      simp only [if_neg (show ¬ (50 : Int32) ≤ nI k from nI_ge (b := 50) (by omega) (by omega)), e1, e2, ni_f (show 43 + k < 213 by omega) (show 213 < 2 ^ 31 by omega), ni_f (show 113 + 50 * u + k < 213 by omega) (show 213 < 2 ^ 31 by omega), if_false, nI_clamp (show 43 + k < 2 ^ 31 by omega), nI_clamp (show 113 + 50 * u + k < 2 ^ 31 by omega), nI_1]
      exact z1
    · by_cases c : q = k
      · subst c; rw [z4 _ (by omega), aw_u_s]
      · rw [z3 q (by omega) b, aw_u_j 1 (by omega)]
    · rw [z4 j (by omega), aw_u_j 1 (by omega)]
/-- a TEXT walked by the reference -/
theorem walk_m {u e : Nat} {tx : Nat → Int32} (hu : u < 2) {g s' : Nat} (hg : g ≤ 1) (hs : s' ≤ e) (he : e ≤ 50) {f : F3} (h : ∀ a b c N, NS u e tx 0 a b c 0 1 N → ∃ v N', fm_whole (FM_factor 8) N = some (v, N') ∧ JD N N' ∧ NS u e tx 0 a b c s' g N' ∧ (g = 1 → v = f a b c)) (a b c : Int32) (N : aw_M) (h5 : N 1 (5 + u) = nI e) (ht : ∀ k, k < e → N 1 (113 + 50 * u + k) = tx k) : ∃ v N', fm_walks (nI u) a b c N = some (v, N') ∧ JD N N' ∧ N' 0 8 = nI s' ∧ (g = 1 ∧ s' = e → N' 0 14 = 1 ∧ v = f a b c) ∧ (¬ (g = 1 ∧ s' = e) → N' 0 14 = 0) := by
  have e1 : (5 + nI u : Int32) = nI (5 + u) := nI_add 5 u
  unfold fm_walks
  simp only [e1, ni_f (show 5 + u < 213 by omega) (show 213 < 2 ^ 31 by omega), if_false, nI_clamp (show 5 + u < 2 ^ 31 by omega)]
  rw [aw_u_o (a := 1) (5 + u) (by decide), aw_u_o (a := 1) (5 + u) (by decide), h5]
  have jR7 : jR 7 := by unfold jR; omega
  have jR8 : jR 8 := by unfold jR; omega
  have jR9 : jR 9 := by unfold jR; omega
  have jR10 : jR 10 := by unfold jR; omega
  have jR11 : jR 11 := by unfold jR; omega
  have jR12 : jR 12 := by unfold jR; omega
  have jR13 : jR 13 := by unfold jR; omega
  have jR14 : jR 14 := by unfold jR; omega
  have J0 : JD N (aw_u (aw_u (aw_u (aw_u (aw_u (aw_u (aw_u (aw_u N 0 7 (nI u)) 0 8 0) 0 9 (nI e)) 0 10 0) 0 14 1) 0 11 a) 0 12 b) 0 13 c) := (((((((JD_u N _ jR7).tr (JD_u _ _ jR8)).tr (JD_u _ _ jR9)).tr (JD_u _ _ jR10)).tr (JD_u _ _ jR14)).tr (JD_u _ _ jR11)).tr (JD_u _ _ jR12)).tr (JD_u _ _ jR13)
  have S0 : NS u e tx 0 a b c 0 1 (aw_u (aw_u (aw_u (aw_u (aw_u (aw_u (aw_u (aw_u N 0 7 (nI u)) 0 8 0) 0 9 (nI e)) 0 10 0) 0 14 1) 0 11 a) 0 12 b) 0 13 c) := by
    refine ⟨⟨?_, ?_, ?_, ?_, ?_⟩, ⟨?_, ?_, ?_⟩, fun k hk => ?_⟩
    · rw [aw_u_j 0 (by decide), aw_u_j 0 (by decide), aw_u_j 0 (by decide), aw_u_j 0 (by decide), aw_u_j 0 (by decide), aw_u_j 0 (by decide), aw_u_j 0 (by decide), aw_u_s]
    · rw [aw_u_j 0 (by decide), aw_u_j 0 (by decide), aw_u_j 0 (by decide), aw_u_j 0 (by decide), aw_u_j 0 (by decide), aw_u_j 0 (by decide), aw_u_s]; rfl
    · rw [aw_u_j 0 (by decide), aw_u_j 0 (by decide), aw_u_j 0 (by decide), aw_u_j 0 (by decide), aw_u_j 0 (by decide), aw_u_s]
    · rw [aw_u_j 0 (by decide), aw_u_j 0 (by decide), aw_u_j 0 (by decide), aw_u_j 0 (by decide), aw_u_s]; rfl
    · rw [aw_u_j 0 (by decide), aw_u_j 0 (by decide), aw_u_j 0 (by decide), aw_u_s]; rfl
    · rw [aw_u_j 0 (by decide), aw_u_j 0 (by decide), aw_u_s]
    · rw [aw_u_j 0 (by decide), aw_u_s]
    · rw [aw_u_s]
    · rw [J0.r1]; exact ht k hk
  obtain ⟨v, N1, y1, y2, y3, y4⟩ := h a b c _ S0
  rw [y1, bi_n]
  rcases g01 hg with rfl | rfl
  · rw [if_pos (show N1 0 14 = 0 from y3.1.2.2.2.2)]
    refine ⟨v, _, rfl, (J0.tr y2).tr (JD_u _ _ jR14), ?_, fun q => by omega, fun _ => aw_u_s _ _ _ _⟩
    rw [aw_u_j 0 (by decide)]; exact y3.1.2.1
  · rw [if_neg (good_n y3)]
    by_cases c1 : s' = e
    · subst c1
      rw [if_pos (by rw [y3.1.2.1, y3.1.2.2.1])]
      refine ⟨v, _, rfl, (J0.tr y2).tr (JD_u _ _ jR14), ?_, fun _ => ⟨aw_u_s _ _ _ _, y4 rfl⟩, fun q => absurd ⟨rfl, rfl⟩ q⟩
      rw [aw_u_j 0 (by decide)]; exact y3.1.2.1
    · rw [if_neg (fun q => by rw [y3.1.2.1, y3.1.2.2.1] at q; exact c1 ((nI_eq (by omega) (by omega)).mp q))]
      refine ⟨v, _, rfl, (J0.tr y2).tr (JD_u _ _ jR14), ?_, fun q => absurd q.2 c1, fun _ => aw_u_s _ _ _ _⟩
      rw [aw_u_j 0 (by decide)]; exact y3.1.2.1
theorem eq_text (a : Int32) : op_ok Inv (fc_LB_text a) (fm_text a) := by
  intro n C D hn hI
  rcases (Classical.em (0 ≤ a ∧ a ≤ 1)).symm with h | h
  · exact go1 hI (sb (us_c a C) (sp (if_neg h) rfl)) (sb (in_n h) rfl)
  obtain ⟨u, -, hu, rfl⟩ := rng 0 1 h
  have hu : u < 2 := by omega
  obtain ⟨e, he, ed⟩ := hI.row.at 3 50
  have ec : C 1 6 = nI e := (hI.1 _ _ _ _ lk_tl).trans ed
  have tp := hI.2.1.1
  have hT : ∀ k, k < e → ∃ y, y < 256 ∧ D 1 (43 + k) = nI y := fun k hk => by
    rw [(tp k (by omega)).1]; exact and_255 _
  -- the class
  have cl0 : fc_LB_text (nI u) C = fc_LB_text_J42 (nI u) (nI u) (nI e) C := by
    unfold fc_LB_text
    rw [us_c, if_pos h, bi_n, if_neg (by decide), ec]
    rcases (show u = 0 ∨ u = 1 by omega) with rfl | rfl <;> rfl
  obtain ⟨Cr, r1, r2, r3⟩ := reads_l (tx := fun k => D 1 (43 + k)) he (nI u) e 0 2000 (aw_u C 53 4 (nI e)) (by omega) (by omega) (aw_u_s _ _ _ _) (fun q hq => by rw [aw_u_o _ (by decide)]; exact (tp q hq).1.symm) (fun q hq => by omega)
  rw [nI_0] at r1
  have rs : RS u e (fun k => D 1 (43 + k)) 0 0 (aw_u (aw_u (aw_u Cr 53 5 (nI u)) 53 3 0) 53 2 0) := by
    refine ⟨⟨?_, ?_, ?_, ?_⟩, fun k hk => ?_, by omega, he⟩
    · rw [aw_u_j 53 (by decide), aw_u_s]; rfl
    · rw [aw_u_j 53 (by decide), aw_u_j 53 (by decide), aw_u_j 53 (by decide), r2 53 (by decide), aw_u_s]
    · rw [aw_u_s]; rfl
    · rw [aw_u_j 53 (by decide), aw_u_j 53 (by decide), aw_u_s]
    · rw [aw_u_o _ (by decide), aw_u_o _ (by decide), aw_u_o _ (by decide)]; exact r3 k hk
  obtain ⟨g, s', len, f, C1, b1, b0, b2, b3, ⟨b4, b5, b6⟩, b7, b8, b9⟩ := text_all hu he hT 0 0 _ rs (by omega)
  have hs' : s' ≤ e := b2.2.2.1
  have b1' : FC_rd 60 0 0 0 (aw_u (aw_u (aw_u Cr 53 5 (nI u)) 53 3 0) 53 2 0) = some (nI g, C1) := b1
  have kc : ∀ o, o ≠ 53 → o ≠ 54 → o ≠ 55 → C1 o = C o := fun o h3 h4 h5 => by
    rw [b3 o h3 h4, aw_u_row h3, aw_u_row h3, aw_u_row h3, r2 o h5, aw_u_row h3]
  have rd : fc_Te_reads (nI e) (nI u) C = some (if g = 1 ∧ s' = e then 1 else 0, C1) := by
    unfold fc_Te_reads
    rw [hl_c, hl50 e he, bi_n, r1, b1', bi_n]
    rcases g01 b0 with rfl | rfl
    · rw [if_pos nI_0, if_neg (by omega)]
    · rw [if_neg (show ¬ nI 1 = 0 by decide), b2.1.1, b2.1.2.1]
      by_cases c : s' = e
      · rw [if_pos (by rw [c]), if_pos ⟨rfl, c⟩]
      · rw [if_neg (fun q => c ((nI_eq (by omega) (by omega)).mp q)), if_neg (fun q => c q.2)]
  -- the reference
  have k4 := moveAll_m (a := 1) (b := 4) (by decide) D
  generalize hD4 : aw_un D 4 (fun k => if k < 213 then D 1 k else D 4 k) = D4 at k4
  have o4 : ∀ o, o ≠ 4 → D4 o = D o := fun o ho => by rw [← hD4, aw_un_o ho]
  have o44 : ∀ k, k < 213 → D4 4 k = D 1 k := fun k hk => by rw [← hD4, aw_un_s, if_pos hk]
  obtain ⟨D5, t1, t2, t3, t4⟩ := text_l hu 50 0 2000 D4 (by omega) (by omega)
  rw [nI_0] at t1
  have d53 : D5 1 3 = nI e := by rw [t4 3 (by omega), o4 1 (by decide)]; exact ed
  have mo0 : fm_text (nI u) D = (aw_bi (fm_walks (nI u) 1 1 1 (aw_u D5 1 (5 + u) (nI e))) fun r_10 M_11 => if (M_11 0 14) = 0 then fm_text_J105 0 M_11 else fm_text_J105 1 M_11) := by
    unfold fm_text
    rw [in_y h, bi_n, if_neg (by decide), k4, bv_n, t1, d53]
  have W := walk_m hu b0 hs' he (f := f) b9
  obtain ⟨v, D6, w1, w2, w3, w4, w5⟩ := W 1 1 1 (aw_u D5 1 (5 + u) (nI e)) (aw_u_s _ _ _ _) (fun k hk => by
    rw [aw_u_j 1 (by omega), t3 k (by omega) (by omega), o4 1 (by decide)])
  rw [cl0, mo0, w1, bi_n]
  unfold fc_LB_text_J42
  rw [rd, bi_n]
  have e6 : ∀ o, o ≠ 0 → D6 o = aw_u D5 1 (5 + u) (nI e) o := fun o ho => w2.1 o ho
  have e6z : ∀ j, ¬ jR j → D6 0 j = D 0 j := fun j hj => by
    rw [w2.2 j hj, aw_u_o _ (by decide), t2 0 (by decide), o4 0 (by decide)]
  by_cases ok : g = 1 ∧ s' = e
  · -- it is a TEXT
    obtain ⟨w4a, w4b⟩ := w4 ok
    obtain ⟨b8a, b8b⟩ := b8 ok.1
    have rn1 := b8b.1
    rw [if_pos ok, if_neg (show ¬ (1 : Int32) = 0 by decide), if_neg (show ¬ aw_in (nI u) 2 from nI_in hu (by omega)), nI_clamp (by omega), if_neg (by rw [w4a]; decide)]
    have l2 : (aw_u C1 1 6 0) 53 2 = nI len := by rw [aw_u_o _ (by decide)]; exact b2.1.2.2.1
    obtain ⟨C2, q1, q2, q3, q4⟩ := take_c (i0 := u) (o1 := 54) (l := len) (by omega) (by omega) (by omega) (aw_u C1 1 6 0)
    rw [l2, q1, bv_n]
    have J : fm_text_J105 1 D6 = some (1, aw_u D6 1 3 0) := by
      unfold fm_text_J105
      rw [if_neg (by decide), if_neg (by decide)]
    rw [J]
    have I0 := hI.upd1 lk_tl 0 (fun _ _ => ⟨by decide, by decide⟩)
    refine go0e (I0.law hu (C' := C2) (D' := aw_u D6 1 3 0) (fun o ho h1 h2 => ?_) ?_ (fun k hk h1 h2 => ?_) (fun k hk => ?_) (fun o ho => ?_) (fun j hj => ?_) ?_) rfl rfl rfl
    · rw [q2 o h1 h2]
      exact aw_u_cg (kc o (by omega) (by omega) (by omega))
    · rw [q2 56 (by omega) (by omega), aw_u_row (by decide), aw_u_row (by decide), kc 56 (by decide) (by decide) (by decide)]
    · by_cases k3 : k = 3
      · subst k3; rw [aw_u_s, aw_u_s]
      · rw [aw_u_j 1 k3, aw_u_j 1 k3, e6 1 (by decide), aw_u_j 1 h1, t4 k (by omega), o4 1 (by decide)]
    · rw [aw_u_o _ (by decide), aw_u_o _ (by decide), e6 2 (by decide), aw_u_o _ (by decide), t2 2 (by decide), o4 2 (by decide)]
    · rw [aw_u_row (by omega), aw_u_row (by omega), e6 o (by omega), aw_u_row (by omega), t2 o (by omega), o4 o (by omega)]
    · rw [aw_u_o _ (by decide), aw_u_o _ (by decide), e6z j (by unfold jR; omega)]
    · have x5 : (aw_u D6 1 3 0) 1 (5 + u) = nI e := by rw [aw_u_j 1 (by omega), e6 1 (by decide), aw_u_s]
      have xt : ∀ k, k < 50 → (aw_u D6 1 3 0) 1 (113 + 50 * u + k) = D 1 (43 + k) := fun k hk => by
        rw [aw_u_j 1 (by omega), e6 1 (by decide), aw_u_j 1 (by omega), t3 k (by omega) hk, o4 1 (by decide)]
      rw [q3, x5]
      refine Or.inr ⟨⟨by rw [nI_toInt (by omega)]; omega, by rw [nI_toInt (by omega)]; omega⟩, ⟨by rw [nI_toInt (by omega)]; omega, by rw [nI_toInt (by omega)]; omega⟩, f, ?_, ?_⟩
      · refine Rn_all (b8b.cg (fun k h1 h2 => ?_)) (by omega)
        rw [q4 k h2, aw_u_row (by decide)]
      · intro M m5 mt a b c
        obtain ⟨v, N', y1, y2, y3, y4, y5⟩ := W a b c M m5 (fun k hk => by rw [mt k (by omega)]; exact xt k (by omega))
        obtain ⟨-, rfl⟩ := y4 ok
        have eN : N' = aw_un M 0 (N' 0) := by
          funext o
          by_cases ho : o = 0
          · subst ho; rw [aw_un_s]
          · rw [aw_un_o ho, y2.1 o ho]
        exact ⟨N' 0, y1.trans (congrArg (fun z => some (f a b c, z)) eN), fun j hj => y2.2 j hj⟩
  · -- it is none
    rw [if_neg ok, if_pos rfl, if_pos (w5 ok)]
    have k5 := moveAll_m (a := 4) (b := 1) (by decide) D6
    have J : fm_text_J105 0 D6 = some (-10 - nI s', aw_u (aw_un D6 1 (fun k => if k < 213 then D6 4 k else D6 1 k)) 1 3 0) := by
      unfold fm_text_J105
      rw [if_pos rfl, k5, bv_n, if_pos rfl, w3]
    rw [J]
    have I1 : Inv n C1 (aw_un D6 1 (fun k => if k < 213 then D6 4 k else D6 1 k)) := by
      refine hI.same ⟨fun o ho => kc o (by omega) (by omega) (by omega), by rw [kc 56 (by decide) (by decide) (by decide)]⟩ ⟨fun k hk => ?_, fun k hk => ?_, fun o ho => ?_, fun j hj => ?_⟩
      · rw [aw_un_s, if_pos hk, e6 4 (by decide), aw_u_o _ (by decide), t2 4 (by decide), o44 k hk]
      · rw [aw_un_o (by decide), e6 2 (by decide), aw_u_o _ (by decide), t2 2 (by decide), o4 2 (by decide)]
      · rw [aw_un_o (by omega), e6 o (by omega), aw_u_row (by omega), t2 o (by omega), o4 o (by omega)]
      · rw [aw_un_o (by decide)]; exact e6z j (by unfold jR; omega)
    refine go0e (I1.upd1 lk_tl 0 (fun _ _ => ⟨by decide, by decide⟩)) rfl rfl ?_
    rw [aw_u_o _ (by decide), b2.1.1]
