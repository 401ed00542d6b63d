-- the document's Q
def ix (u : Nat) (x : Int32) : Int32 := if x = 116 then 0 else if x = 109 then 1 else if x = (if u = 0 then 107 else 108) then 2 else -1
theorem ch_n : ∀ y, y < 256 → aw_ch (nI y) = nI y := by decide +kernel
theorem nd_c {u e s len : Nat} {tx : Nat → Int32} {M : aw_M} (rs : RS u e tx s len M) (hu : u < 2) (hT : ∀ k, k < e → ∃ y, y < 256 ∧ tx k = nI y) (nd : ¬ (48 ≤ hb e tx s ∧ hb e tx s ≤ 57)) (gl : Int32 → Int32 → aw_M → Option (Int32 × aw_M)) (gs : Int32 → aw_M → Option (Int32 × aw_M)) (p : Int32) : fc_Te_readSingle gl gs p M = fc_Te_readSingle_J40 gl gs p (hb e tx s) (ix u (hb e tx s)) M := by
  have key : (if (0 : Int32) ≤ hb e tx s then (aw_bi (fc_Js_indexOf (M 53 5) (aw_ch (hb e tx s)) M) fun r_7 M_8 => fc_Te_readSingle_J40 gl gs p (hb e tx s) r_7 M_8) else fc_Te_readSingle_J40 gl gs p (hb e tx s) (-1) M) = fc_Te_readSingle_J40 gl gs p (hb e tx s) (ix u (hb e tx s)) M := by
    by_cases c : s < e
    · obtain ⟨y, hy, ey⟩ := hT s c
      have ex : hb e tx s = nI y := by unfold hb; rw [if_pos c, ey]
      rw [ex, if_pos (nI_pos' (by omega)), ch_n y hy, rs.1.2.2.2]
      unfold fc_Js_indexOf
      rw [nI_clamp (by omega), if_neg (by omega), bi_n]
      rfl
    · have ex : hb e tx s = -1 := by unfold hb; rw [if_neg c]
      rw [ex, if_neg (by decide)]
      rcases (show u = 0 ∨ u = 1 by omega) with rfl | rfl <;> rfl
  unfold fc_Te_readSingle
  rw [here_c rs, bi_n]
  by_cases c : hb e tx s < 48
  · rw [if_pos c]; exact key
  · rw [if_neg c, if_pos]
    · exact key
    · by_cases c2 : 57 < hb e tx s
      · exact c2
      · exfalso; apply nd; rw [lt_i] at c c2; rw [le_i, le_i]; omega
theorem fac_nd {u e p s k : Nat} {tx : Nat → Int32} {a b c : Int32} {N : aw_M} (ns : NS u e tx p a b c s 1 N) (hu : u < 2) (he : e ≤ 50) (hs : s ≤ e) (nd : ¬ (48 ≤ hb e tx s ∧ hb e tx s ≤ 57)) : FM_factor (k + 1) N = (if hb e tx s = 33 then fm_factor_J39 (FM_factor k) (fm_whole (FM_factor k)) (hb e tx s) N else if hb e tx s = 40 then fm_factor_J39 (FM_factor k) (fm_whole (FM_factor k)) (hb e tx s) N else fm_named (hb e tx s) N) := by
  show fm_factor (FM_factor k) (fm_whole (FM_factor k)) N = _
  unfold fm_factor
  rw [byte_m ns hu he hs, bi_n, dig_m, if_neg nd, bi_n, if_pos rfl]
theorem nam_t (N : aw_M) : fm_named 116 N = some ((aw_u N 0 8 (N 0 8 + 1)) 0 11, aw_u N 0 8 (N 0 8 + 1)) := by
  unfold fm_named fm_named_J11
  by_cases h : N 0 7 = 0
  · simp only [if_pos h]; rfl
  · simp only [if_neg h]; rfl
theorem nam_m (N : aw_M) : fm_named 109 N = some ((aw_u N 0 8 (N 0 8 + 1)) 0 12, aw_u N 0 8 (N 0 8 + 1)) := by
  unfold fm_named fm_named_J11
  by_cases h : N 0 7 = 0
  · simp only [if_pos h]; rfl
  · simp only [if_neg h]; rfl
theorem nam_k {u : Nat} (hu : u < 2) {N : aw_M} (h7 : N 0 7 = nI u) : fm_named (if u = 0 then 107 else 108) N = some ((aw_u N 0 8 (N 0 8 + 1)) 0 13, aw_u N 0 8 (N 0 8 + 1)) := by
  unfold fm_named fm_named_J11
  rcases (show u = 0 ∨ u = 1 by omega) with rfl | rfl
  · simp only [if_pos (show N 0 7 = 0 from h7)]; rfl
  · simp only [if_neg (show ¬ N 0 7 = 0 by rw [h7]; decide)]; rfl
theorem nam_no {u : Nat} (hu : u < 2) {N : aw_M} (h7 : N 0 7 = nI u) {x : Int32} (h1 : ¬ x = 116) (h2 : ¬ x = 109) (h3 : ¬ x = (if u = 0 then 107 else 108)) : fm_named x N = fm_fails N := by
  unfold fm_named fm_named_J11 fm_named_J39
  rw [if_neg h1, if_neg h2]
  rcases (show u = 0 ∨ u = 1 by omega) with rfl | rfl
  · have h3' : ¬ x = 107 := h3
    rw [if_pos (show N 0 7 = 0 from h7), if_neg h3']; rfl
  · have h3' : ¬ x = 108 := h3
    rw [if_neg (show ¬ N 0 7 = 0 by rw [h7]; decide), if_neg h3']; rfl
/-- nothing is read at both -/
theorem po_no {u e p s len : Nat} {tx : Nat → Int32} {M : aw_M} {mo : aw_M → Option (Int32 × aw_M)} (rs : RS u e tx s len M) (h : ∀ a b c N, NS u e tx p a b c s 1 N → mo N = fm_fails N) : PO u e tx p s len M mo 0 s len (fun _ _ _ => 0) M := by
  refine ⟨by omega, rs, KR.rf M, ⟨by omega, by omega, by omega⟩, fun _ _ => rfl, fun h => by omega, fun a b c N ns => ?_⟩
  obtain ⟨N', e1, e2, e3⟩ := fail_m ns
  exact ⟨0, N', (h a b c N ns).trans e1, e3, e2, fun h => by omega⟩
/-- a NAME is read at both -/
theorem po_name {u e p s len : Nat} {tx : Nat → Int32} {M : aw_M} {mo : aw_M → Option (Int32 × aw_M)} (rs : RS u e tx s len M) (hls : len ≤ s) (hse : s < e) (v : Int32) (hv : (-3 : Int32) ≤ v) (h : ∀ a b c N, NS u e tx p a b c s 1 N → mo N = some (pv v a b c, aw_u N 0 8 (N 0 8 + 1))) : ∃ M1, fc_Te_add v M = some M1 ∧ PO u e tx p s len M mo 1 (s + 1) (len + 1) (pv v) (aw_u M1 53 3 (M1 53 3 + 1)) := by
  have he : e ≤ 50 := rs.2.2.2
  obtain ⟨M1, c1, c2, c3, c4, c5⟩ := add_c rs (show len < 50 by omega) v
  obtain ⟨a1, a2, a3⟩ := adv_c c2 hse
  refine ⟨M1, c1, by omega, a1, c3.tr a2, ⟨by omega, by omega, by omega⟩, fun k hk => by rw [a3, c5 k (by omega)], fun _ => ⟨by omega, ?_⟩, fun a b c N ns => ?_⟩
  · rw [a3]
    have := Rn_push (st := M1 54) (l := len) (by rw [c4]; exact hv)
    rw [c4] at this
    exact this
  · obtain ⟨n3, n3j⟩ := adv_m ns
    exact ⟨_, _, h a b c N ns, n3j, n3, fun _ => rfl⟩
theorem r01 {g : Nat} (h : g ≤ 1) (M : aw_M) : (if ¬ (nI g = 0 ∨ nI g = 1) then none else some (nI g, M)) = some (nI g, M) := by
  rcases g01 h with rfl | rfl <;> rfl
theorem sing_b {u e : Nat} {tx : Nat → Int32} {p n k : Nat} (hu : u < 2) (hT : ∀ k, k < e → ∃ y, y < 256 ∧ tx k = nI y) (hp : p ≤ 5) (h1 : p < 5 → PP u e tx (p + 1) (fun M => FC_rd n 1 (nI (p + 1)) 0 M) (FM_factor k)) (h0 : p < 5 → PP u e tx (p + 1) (fun M => FC_rd n 0 (nI 0) (nI (p + 1)) M) (fm_whole (FM_factor k))) : PP u e tx p (fun M => FC_rd (n + 1) 1 (nI p) 0 M) (FM_factor (k + 1)) := by
  intro s len M rs hls
  have he : e ≤ 50 := rs.2.2.2
  have hs : s ≤ e := rs.2.2.1
  have U : FC_rd (n + 1) 1 (nI p) 0 M = fc_Te_readSingle (fun a b M => FC_rd n 0 a b M) (fun a M => FC_rd n 1 a 0 M) (nI p) M := rfl
  show ∃ (g s' len' : Nat) (f : F3) (M' : aw_M), FC_rd (n + 1) 1 (nI p) 0 M = some (nI g, M') ∧ PO u e tx p s len M (FM_factor (k + 1)) g s' len' f M'
  rw [U]
  by_cases dg : 48 ≤ hb e tx s ∧ hb e tx s ≤ 57
  · -- a NUMBER
    obtain ⟨w, s', M1, z0, z1, z2, z3, z4, z5, z6, z7⟩ := num_b hu 4 0 2000 0 s len M (by omega) (by omega) rs (by omega)
    have hss := z6 (by omega) dg
    have hs' : s' ≤ e := z2.2.2.1
    obtain ⟨M2, c1, c2, c3, c4, c5⟩ := add_c z2 (show len < 50 by omega) (nI w)
    have hv : (-3 : Int32) ≤ nI w := by
      rw [le_i, nI_toInt (by omega), show (-3 : Int32).toInt = -3 by decide]; omega
    refine ⟨1, s', len + 1, pv (nI w), M2, ?_, by omega, c2, z3.tr c3, ⟨by omega, by omega, by omega⟩, fun q hq => by rw [c5 q (by omega), z4], fun _ => ⟨hss, ?_⟩, fun a b c N ns => ?_⟩
    · unfold fc_Te_readSingle
      have n48 : ¬ hb e tx s < 48 := fun q => by have := dg.1; rw [le_i] at this; rw [lt_i] at q; omega
      have n57 : ¬ 57 < hb e tx s := fun q => by have := dg.2; rw [le_i] at this; rw [lt_i] at q; omega
      rw [here_c rs, bi_n, if_neg n48, if_neg n57]
      have z1' : fc_Te_readNumber M = (aw_bv (fc_Te_add (nI w) M1) fun M_3 => some M_3) := z1
      rw [z1', c1, bv_n, bv_n]; rfl
    · have := Rn_push (st := M2 54) (l := len) (by rw [c4]; exact hv)
      rw [c4] at this
      exact this
    · obtain ⟨N', y1, y2, y3⟩ := z7 2000 (by omega) a b c p N ns
      refine ⟨nI w, N', ?_, y2, y3, fun _ => ?_⟩
      · show fm_factor (FM_factor k) (fm_whole (FM_factor k)) N = _
        unfold fm_factor
        rw [byte_m ns hu he hs, bi_n, dig_m, if_pos dg, bi_n, if_neg (by decide)]
        exact y1
      · unfold pv; rw [if_neg (nI_pos (by omega))]
  rw [nd_c rs hu hT dg]
  by_cases x1 : hb e tx s = 116
  · have hse : s < e := by
      by_cases c : s < e
      · exact c
      · exfalso; unfold hb at x1; rw [if_neg c] at x1; exact absurd x1 (by decide)
    obtain ⟨M1, m1, m2⟩ := po_name (p := p) (mo := FM_factor (k + 1)) rs hls hse (-1) (by decide) (fun a b c N ns => by
      rw [fac_nd ns hu he hs dg, x1, if_neg (by decide), if_neg (by decide), nam_t, aw_u_j 0 (by decide), ns.2.1.1]; rfl)
    refine ⟨1, _, _, _, _, ?_, m2⟩
    rw [x1, show ix u 116 = 0 from rfl]
    unfold fc_Te_readSingle_J40
    rw [if_neg (by decide), show ((-1) - 0 : Int32) = -1 by decide, m1, bv_n]; rfl
  by_cases x2 : hb e tx s = 109
  · have hse : s < e := by
      by_cases c : s < e
      · exact c
      · exfalso; unfold hb at x2; rw [if_neg c] at x2; exact absurd x2 (by decide)
    obtain ⟨M1, m1, m2⟩ := po_name (p := p) (mo := FM_factor (k + 1)) rs hls hse (-2) (by decide) (fun a b c N ns => by
      rw [fac_nd ns hu he hs dg, x2, if_neg (by decide), if_neg (by decide), nam_m, aw_u_j 0 (by decide), ns.2.1.2.1]; rfl)
    refine ⟨1, _, _, _, _, ?_, m2⟩
    rw [x2, show ix u 109 = 1 from rfl]
    unfold fc_Te_readSingle_J40
    rw [if_neg (by decide), show ((-1) - 1 : Int32) = -2 by decide, m1, bv_n]; rfl
  by_cases x3 : hb e tx s = (if u = 0 then 107 else 108)
  · have q3 : ¬ (if u = 0 then (107 : Int32) else 108) = 33 ∧ ¬ (if u = 0 then (107 : Int32) else 108) = 40 ∧ ¬ (if u = 0 then (107 : Int32) else 108) = -1 := by
      rcases (show u = 0 ∨ u = 1 by omega) with rfl | rfl <;> decide
    have hse : s < e := by
      by_cases c : s < e
      · exact c
      · exfalso; unfold hb at x3; rw [if_neg c] at x3; exact q3.2.2 x3.symm
    obtain ⟨M1, m1, m2⟩ := po_name (p := p) (mo := FM_factor (k + 1)) rs hls hse (-3) (by decide) (fun a b c N ns => by
      rw [fac_nd ns hu he hs dg, x3, if_neg q3.1, if_neg q3.2.1, nam_k hu ns.1.1, aw_u_j 0 (by decide), ns.2.1.2.2]; rfl)
    refine ⟨1, _, _, _, _, ?_, m2⟩
    have i2 : ix u (hb e tx s) = 2 := by unfold ix; rw [if_neg x1, if_neg x2, if_pos x3]
    rw [i2]
    unfold fc_Te_readSingle_J40
    rw [if_neg (by decide), show ((-1) - 2 : Int32) = -3 by decide, m1, bv_n]; rfl
  have i3 : ix u (hb e tx s) = -1 := by unfold ix; rw [if_neg x1, if_neg x2, if_neg x3]
  rw [i3]
  unfold fc_Te_readSingle_J40
  rw [if_pos (by decide)]
  by_cases p5 : p = 5
  · subst p5
    rw [if_pos (by decide)]
    refine ⟨0, s, len, _, M, rfl, po_no rs (fun a b c N ns => ?_)⟩
    have J : ∀ G W x, fm_factor_J39 G W x N = fm_fails N := fun G W x => by
      unfold fm_factor_J39
      rw [if_pos (show N 0 10 = 5 from ns.1.2.2.2.1)]
    rw [fac_nd ns hu he hs dg, J, nam_no hu ns.1.1 x1 x2 x3, ite_self, ite_self]
  have hp5 : p < 5 := by omega
  rw [if_neg (show ¬ (5 : Int32) ≤ nI p from nI_ge (b := 5) (by omega) (by omega))]
  have np5 : ∀ {N : aw_M} {a b c : Int32} {s' g : Nat}, NS u e tx p a b c s' g N → ¬ N 0 10 = 5 := fun ns q => by
    rw [ns.1.2.2.2.1] at q
    have := (nI_eq (b := 5) (by omega) (by omega)).mp q
    omega
  have opn : ∀ {N : aw_M} {a b c : Int32}, NS u e tx p a b c s 1 N → NS u e tx (p + 1) a b c (s + 1) 1 (aw_u (aw_u N 0 10 (N 0 10 + 1)) 0 8 (((aw_u N 0 10 (N 0 10 + 1)) 0 8) + 1)) ∧ JD N (aw_u (aw_u N 0 10 (N 0 10 + 1)) 0 8 (((aw_u N 0 10 (N 0 10 + 1)) 0 8) + 1)) := fun {N a b c} ns => by
    have e1 : N 0 10 + 1 = nI (p + 1) := by rw [ns.1.2.2.2.1, nI_1]
    rw [e1]
    obtain ⟨o1, o2⟩ := open_m ns (p + 1)
    obtain ⟨o3, o4⟩ := adv_m o1
    exact ⟨o3, o2.tr o4⟩
  have cls : ∀ {N : aw_M} {a b c : Int32} {s' g : Nat}, NS u e tx (p + 1) a b c s' g N → NS u e tx p a b c s' g (aw_u N 0 10 (N 0 10 - 1)) ∧ JD N (aw_u N 0 10 (N 0 10 - 1)) := fun {N a b c s' g} ns => by
    have e1 : N 0 10 - 1 = nI p := by rw [ns.1.2.2.2.1, nI_pred]
    rw [e1]
    exact open_m ns p
  by_cases x4 : hb e tx s = 33
  · -- ! Q
    have hse : s < e := by
      by_cases c : s < e
      · exact c
      · exfalso; unfold hb at x4; rw [if_neg c] at x4; exact absurd x4 (by decide)
    obtain ⟨a1, a2, a3⟩ := adv_c rs hse
    obtain ⟨g1, s1, len1, f1, M1, b1, b0, b2, b3, ⟨b4, b5, b6⟩, b7, b8, b9⟩ := h1 hp5 (s + 1) len _ a1 (by omega)
    have b1' : FC_rd n 1 (nI (p + 1)) 0 (aw_u M 53 3 (M 53 3 + 1)) = some (nI g1, M1) := b1
    have hs1 : s1 ≤ e := b2.2.2.1
    rw [if_pos x4, if_pos x4, nI_1]
    have rf : ∀ a b c N, NS u e tx p a b c s 1 N → ∃ v N', FM_factor (k + 1) N = some (if v = 0 then 1 else 0, N') ∧ JD N N' ∧ NS u e tx p a b c s1 g1 N' ∧ (g1 = 1 → v = f1 a b c) := fun a b c N ns => by
      obtain ⟨o1, o2⟩ := opn ns
      obtain ⟨v, N1, y1, y2, y3, y4⟩ := b9 a b c _ o1
      obtain ⟨o3, o4⟩ := cls y3
      refine ⟨v, _, ?_, (o2.tr y2).tr o4, o3, y4⟩
      rw [fac_nd ns hu he hs dg, if_pos x4]
      unfold fm_factor_J39 fm_factor_J89
      rw [if_neg (np5 ns), if_pos x4, y1, bi_n, if_pos x4]
      by_cases v0 : v = 0
      · rw [if_pos v0, if_pos v0]
      · rw [if_neg v0, if_neg v0]
    rcases g01 b0 with rfl | rfl
    · refine ⟨0, s1, len1, f1, M1, ?_, by omega, b2, a2.tr b3, ⟨by omega, by omega, by omega⟩, fun q hq => by rw [b7 q hq, a3], fun h => by omega, fun a b c N ns => ?_⟩
      · have : fc_Te_readDenied (fun a M => FC_rd n 1 a 0 M) (nI (p + 1)) (aw_u M 53 3 (M 53 3 + 1)) = some (0, M1) := by
          unfold fc_Te_readDenied
          show (aw_bi (FC_rd n 1 (nI (p + 1)) 0 (aw_u M 53 3 (M 53 3 + 1))) fun r_2 M_3 => _) = _
          rw [b1', bi_n, if_pos nI_0]
        rw [this, bi_n, if_neg (by decide)]; rfl
      · obtain ⟨v, N', y1, y2, y3, -⟩ := rf a b c N ns
        exact ⟨_, N', y1, y2, y3, fun h => by omega⟩
    · obtain ⟨b8a, b8b⟩ := b8 rfl
      have rn1 := b8b.1
      obtain ⟨M2, c1, c2, c3, c4, c5⟩ := add_c b2 (show len1 < 50 by omega) (-33)
      refine ⟨1, s1, len1 + 1, fun a b c => if f1 a b c = 0 then 1 else 0, M2, ?_, by omega, c2, (a2.tr b3).tr c3, ⟨by omega, by omega, by omega⟩, fun q hq => by rw [c5 q (by omega), b7 q hq, a3], fun _ => ⟨by omega, ?_⟩, fun a b c N ns => ?_⟩
      · have : fc_Te_readDenied (fun a M => FC_rd n 1 a 0 M) (nI (p + 1)) (aw_u M 53 3 (M 53 3 + 1)) = some (1, M2) := by
          unfold fc_Te_readDenied
          show (aw_bi (FC_rd n 1 (nI (p + 1)) 0 (aw_u M 53 3 (M 53 3 + 1))) fun r_2 M_3 => _) = _
          rw [b1', bi_n, if_neg (show ¬ nI 1 = 0 by decide), c1, bv_n]
        rw [this, bi_n, if_neg (by decide)]; rfl
      · exact Rn_not (b8b.cg (fun q _ h2 => c5 q (by omega))) c4
      · obtain ⟨v, N', y1, y2, y3, y4⟩ := rf a b c N ns
        refine ⟨_, N', y1, y2, y3, fun _ => ?_⟩
        rw [y4 rfl]
  rw [if_neg x4]
  by_cases x5 : hb e tx s = 40
  · -- ( T )
    have hse : s < e := by
      by_cases c : s < e
      · exact c
      · exfalso; unfold hb at x5; rw [if_neg c] at x5; exact absurd x5 (by decide)
    obtain ⟨a1, a2, a3⟩ := adv_c rs hse
    obtain ⟨g1, s1, len1, f1, M1, b1, b0, b2, b3, ⟨b4, b5, b6⟩, b7, b8, b9⟩ := h0 hp5 (s + 1) len _ a1 (by omega)
    have b1' : FC_rd n 0 0 (nI (p + 1)) (aw_u M 53 3 (M 53 3 + 1)) = some (nI g1, M1) := b1
    have hs1 : s1 ≤ e := b2.2.2.1
    rw [if_pos x5, if_neg x4, nI_1]
    have rf : ∀ a b c N, NS u e tx p a b c s 1 N → ∃ v N1, FM_factor (k + 1) N = (if (aw_u N1 0 10 (N1 0 10 - 1)) 0 14 = 0 then fm_fails (aw_u N1 0 10 (N1 0 10 - 1)) else (aw_bi (fm_byteAt ((aw_u N1 0 10 (N1 0 10 - 1)) 0 8) (aw_u N1 0 10 (N1 0 10 - 1))) fun r_21 M_22 => if r_21 = 41 then some (v, aw_u M_22 0 8 (M_22 0 8 + 1)) else fm_fails M_22)) ∧ JD N (aw_u N1 0 10 (N1 0 10 - 1)) ∧ NS u e tx p a b c s1 g1 (aw_u N1 0 10 (N1 0 10 - 1)) ∧ (g1 = 1 → v = f1 a b c) := fun a b c N ns => by
      obtain ⟨o1, o2⟩ := opn ns
      obtain ⟨v, N1, y1, y2, y3, y4⟩ := b9 a b c _ o1
      obtain ⟨o3, o4⟩ := cls y3
      refine ⟨v, N1, ?_, (o2.tr y2).tr o4, o3, y4⟩
      rw [fac_nd ns hu he hs dg, if_neg x4, if_pos x5]
      unfold fm_factor_J39 fm_factor_J89
      rw [if_neg (np5 ns), if_neg x4, y1, bi_n, if_neg x4]
    have E : fc_Te_readEnclosed (fun a b M => FC_rd n 0 a b M) (nI (p + 1)) (aw_u M 53 3 (M 53 3 + 1)) = (if nI g1 = 0 then some (0, M1) else aw_bi (fc_Te_here M1) fun r_6 M_7 => if r_6 = 41 then some (1, aw_u M_7 53 3 (M_7 53 3 + 1)) else some (0, M_7)) := by
      unfold fc_Te_readEnclosed
      show (aw_bi (FC_rd n 0 0 (nI (p + 1)) (aw_u M 53 3 (M 53 3 + 1))) fun r_2 M_3 => _) = _
      rw [b1', bi_n]
    rw [E]
    rcases g01 b0 with rfl | rfl
    · refine ⟨0, s1, len1, f1, M1, ?_, by omega, b2, a2.tr b3, ⟨by omega, by omega, by omega⟩, fun q hq => by rw [b7 q hq, a3], fun h => by omega, fun a b c N ns => ?_⟩
      · rw [if_pos nI_0, bi_n, if_neg (by decide)]; rfl
      · obtain ⟨v, N1, y1, y2, y3, -⟩ := rf a b c N ns
        obtain ⟨N2, w1, w2, w3⟩ := fail_m y3
        refine ⟨0, N2, ?_, y2.tr w3, w2, fun h => by omega⟩
        rw [y1, if_pos (show aw_u N1 0 10 (N1 0 10 - 1) 0 14 = 0 from y3.1.2.2.2.2), w1]
    · obtain ⟨b8a, b8b⟩ := b8 rfl
      have rn1 := b8b.1
      rw [if_neg (show ¬ nI 1 = 0 by decide), here_c b2, bi_n]
      by_cases x6 : hb e tx s1 = 41
      · have hse1 : s1 < e := by
          by_cases c : s1 < e
          · exact c
          · exfalso; unfold hb at x6; rw [if_neg c] at x6; exact absurd x6 (by decide)
        obtain ⟨d1, d2, d3⟩ := adv_c b2 hse1
        refine ⟨1, s1 + 1, len1, f1, _, ?_, by omega, d1, (a2.tr b3).tr d2, ⟨by omega, by omega, by omega⟩, fun q hq => by rw [d3, b7 q hq, a3], fun _ => ⟨by omega, by rw [d3]; exact b8b⟩, fun a b c N ns => ?_⟩
        · rw [if_pos x6, bi_n, if_neg (by decide)]; rfl
        · obtain ⟨v, N1, y1, y2, y3, y4⟩ := rf a b c N ns
          obtain ⟨w1, w2⟩ := adv_m y3
          refine ⟨v, _, ?_, y2.tr w2, w1, y4⟩
          rw [y1, if_neg (good_n y3), byte_m y3 hu he hs1, bi_n, if_pos x6]
      · refine ⟨0, s1, len1, f1, M1, ?_, by omega, b2, a2.tr b3, ⟨by omega, by omega, by omega⟩, fun q hq => by rw [b7 q hq, a3], fun h => by omega, fun a b c N ns => ?_⟩
        · rw [if_neg x6, bi_n, if_neg (by decide)]; rfl
        · obtain ⟨v, N1, y1, y2, y3, -⟩ := rf a b c N ns
          obtain ⟨N2, w1, w2, w3⟩ := fail_m y3
          refine ⟨0, N2, ?_, y2.tr w3, w2, fun h => by omega⟩
          rw [y1, if_neg (good_n y3), byte_m y3 hu he hs1, bi_n, if_neg x6, w1]
  rw [if_neg x5]
  refine ⟨0, s, len, _, M, rfl, po_no rs (fun a b c N ns => ?_)⟩
  rw [fac_nd ns hu he hs dg, if_neg x4, if_neg x5, nam_no hu ns.1.1 x1 x2 x3]
theorem sing_all {u e : Nat} {tx : Nat → Int32} (hu : u < 2) (he : e ≤ 50) (hT : ∀ k, k < e → ∃ y, y < 256 ∧ tx k = nI y) : ∀ q, q ≤ 5 → ∀ n k, 7 * q + 1 ≤ n → q + 1 ≤ k → PP u e tx (5 - q) (fun M => FC_rd n 1 (nI (5 - q)) 0 M) (FM_factor k) := by
  intro q
  induction q with
  | zero =>
    intro _ n k hn hk
    obtain ⟨n, rfl⟩ : ∃ g, n = g + 1 := ⟨n - 1, by omega⟩
    obtain ⟨k, rfl⟩ : ∃ g, k = g + 1 := ⟨k - 1, by omega⟩
    exact sing_b hu hT (by omega) (fun h => by omega) (fun h => by omega)
  | succ q ih =>
    intro hq n k hn hk
    obtain ⟨n, rfl⟩ : ∃ g, n = (g + 6) + 1 := ⟨n - 7, by omega⟩
    obtain ⟨k, rfl⟩ : ∃ g, k = g + 1 := ⟨k - 1, by omega⟩
    have e1 : 5 - (q + 1) + 1 = 5 - q := by omega
    refine sing_b hu hT (by omega) (fun _ => ?_) (fun _ => ?_)
    · rw [e1]; exact ih (by omega) (n + 6) k (by omega) (by omega)
    · rw [e1]; exact chain_b hu he (ih (by omega) n k (by omega) (by omega))
theorem text_all {u e : Nat} {tx : Nat → Int32} (hu : u < 2) (he : e ≤ 50) (hT : ∀ k, k < e → ∃ y, y < 256 ∧ tx k = nI y) : PP u e tx 0 (fun M => FC_rd 60 0 0 0 M) (fm_whole (FM_factor 8)) :=
  chain_b (n := 54) (p := 0) hu he (sing_all hu he hT 5 (by omega) 54 8 (by omega) (by omega))
