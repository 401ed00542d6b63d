-- which cloth tells most
def TY (c g : Nat) (A B : aw_M) : Prop := ∀ k, k < 30 → A 51 k = B 10 k ∧ ∃ t, t ≤ (if k < 5 * c then g + 1 else g) ∧ B 10 k = nI t
theorem GC.t {L : Lw} {m : Nat} {C D A : aw_M} (h : GC L m C D A) (hm : m ≤ 6) (j : Nat) (v : Int32) : GC L m C D (aw_u A 51 j v) := by
  have X : ∀ o, o ≠ 51 → aw_u A 51 j v o = A o := fun o ho => aw_u_row ho
  refine ⟨h.1.tr ⟨fun o ho => X o (by omega), by rw [X 56 (by omega)]⟩, fun q hq => ?_, ?_, ?_⟩
  · exact (h.2.1 q hq).cg (X _ (by omega)) (by rw [X _ (by omega)]) (by rw [X _ (by omega)]) (by rw [X _ (by omega)]) (X _ (by omega))
  · rw [X 5 (by omega)]; exact h.2.2.1
  · rw [X 5 (by omega)]; exact h.2.2.2
theorem tally_b {L : Lw} {n m g : Nat} {C D : aw_M} (hI : Inv n C D) (hc : CL L C) (hd : DL L D) (hL : LR L) (hm : m ≤ 6) (em : D 1 2 = nI m) (em' : C 1 5 = nI m) (hg : g < 600) (K : Int32 → Int32 → aw_M → Option (Int32 × aw_M)) (p1 p2 : Int32) : ∀ (d c f f2 : Nat) (A B : aw_M), c + d = m → d < f → d < f2 → GC L m C D A → Gg g A → TW D B → Hg g B → TY c g A B → ∃ A' B', fc_LB_tallyAll_L2 f (nI c) A = some A' ∧ fm_tellsMost_L111 K f2 p1 p2 (nI c) B = K p1 (p2 + 1) B' ∧ GC L m C D A' ∧ TW D B' ∧ TY m g A' B' := by
  intro d
  induction d with
  | zero =>
    intro c f f2 A B h hf hf2 G gg T hh ty
    obtain ⟨f, rfl⟩ : ∃ g, f = g + 1 := ⟨f - 1, by omega⟩
    obtain ⟨f2, rfl⟩ : ∃ g, f2 = g + 1 := ⟨f2 - 1, by omega⟩
    obtain rfl : c = m := by omega
    refine ⟨A, B, ?_, ?_, G, T, ty⟩
    · rw [fc_LB_tallyAll_L2_s, if_pos (by rw [G.1.1 1 (by omega), em']; exact nI_le (by omega) (by omega))]
    · rw [fm_tellsMost_L111_s, if_pos (by rw [T.2.2.2 2 (by omega) (by omega), em]; exact nI_le (by omega) (by omega))]
  | succ d ih =>
    intro c f f2 A B h hf hf2 G gg T hh ty
    obtain ⟨f, rfl⟩ : ∃ g, f = g + 1 := ⟨f - 1, by omega⟩
    obtain ⟨f2, rfl⟩ : ∃ g, f2 = g + 1 := ⟨f2 - 1, by omega⟩
    obtain ⟨A1, a1, a2, a3⟩ := gs_c hI hc hL hm G gg hg (i := c) (by omega)
    obtain ⟨B1, b1, b2⟩ := gs_m (L := L) (g := g) hd T hh (i := c) (by omega)
    have e1 : A 1 5 = nI m := by rw [G.1.1 1 (by omega), em']
    have e2 : B 1 2 = nI m := by rw [T.2.2.2 2 (by omega) (by omega), em]
    obtain ⟨v, hv, ev⟩ : ∃ v, v < 5 ∧ gS L D g c = nI v := sS_rg _ _ _ _ _ _ _ _ _ _
    rw [ev] at a1 b1
    have i1 : (nI c * 5 + nI v : Int32) = nI (5 * c + v) := by rw [show (nI c * 5 : Int32) = nI (c * 5) from nI_mul c 5, nI_add, Nat.mul_comm]
    have i2 : (5 * nI c + nI v : Int32) = nI (5 * c + v) := by rw [show (5 * nI c : Int32) = nI (5 * c) from nI_mul 5 c, nI_add]
    have k51 : A1 51 = A 51 := a2 51 (by omega)
    have k10 : B1 10 = B 10 := b2.1 10 (by decide)
    obtain ⟨t1, t, t2, t3⟩ := ty (5 * c + v) (by omega)
    rw [if_neg (by omega)] at t2
    obtain ⟨A2, B2, z1, z2, z3, z4, z5⟩ := ih (c + 1) f f2 (aw_u A1 51 (5 * c + v) (nI (t + 1))) (aw_u B1 10 (5 * c + v) (nI (t + 1))) (by omega) (by omega) (by omega) ((G.k hm a2 a3).t hm _ _) (by
      unfold Gg; rw [aw_u_row (by decide)]; exact gg.k a2) ((T.j b2).t _) (by unfold Hg; rw [aw_u_row (by decide)]; exact hh.j b2) (by
      intro k hk
      by_cases ck : k = 5 * c + v
      · subst ck; rw [aw_u_s, aw_u_s]; exact ⟨rfl, t + 1, by rw [if_pos (by omega)]; omega, rfl⟩
      · rw [aw_u_j _ ck, aw_u_j _ ck, k51, k10]
        obtain ⟨s1, s, s2, s3⟩ := ty k hk
        refine ⟨s1, s, ?_, s3⟩
        by_cases c1 : k < 5 * c
        · rw [if_pos c1] at s2; rw [if_pos (by omega)]; exact s2
        · rw [if_neg c1] at s2
          by_cases c2 : k < 5 * (c + 1)
          · rw [if_pos c2]; omega
          · rw [if_neg c2]; exact s2)
    refine ⟨A2, B2, ?_, ?_, z3, z4, z5⟩
    · rw [fc_LB_tallyAll_L2_s]
      simp only [e1, if_neg (nI_ge (show c < m by omega) (by omega)), ni_f (show c < 6 by omega) (show 6 < 2 ^ 31 by omega), if_false, nI_clamp (show c < 2 ^ 31 by omega), a1, bi_n, i1, ni_f (show 5 * c + v < 30 by omega) (show 30 < 2 ^ 31 by omega), nI_clamp (show 5 * c + v < 2 ^ 31 by omega), k51, t1, t3, nI_1]
      exact z1
    · rw [fm_tellsMost_L111_s]
      simp only [e2, if_neg (nI_ge (show c < m by omega) (by omega)), if_false, b1, bi_n, i2, ni_f (show 5 * c + v < 30 by omega) (show 30 < 2 ^ 31 by omega), nI_clamp (show 5 * c + v < 2 ^ 31 by omega), k10, t3, nI_1]
      exact z2
theorem tells_l {L : Lw} {n m s : Nat} {C D : aw_M} (hI : Inv n C D) (hc : CL L C) (hd : DL L D) (hL : LR L) (hm : m ≤ 6) (em : D 1 2 = nI m) (em' : C 1 5 = nI m) (hs : s < 4) : ∀ (d g f f2 : Nat) (A B : aw_M), g + d = 600 → d < f → d < f2 → GC L m C D A → TW D B → TY 0 g A B → ∃ A' B', fc_LB_tellsMost_L56 f (nI s) (nI g) A = fc_LB_tellsMost_L98 2000 0 1 A' ∧ fm_tellsMost_L89 f2 (nI s) (nI g) B = fm_tellsMost_L172 2000 0 601 0 B' ∧ SC C A' ∧ SD D B' ∧ TY 0 600 A' B' := by
  intro d
  induction d with
  | zero =>
    intro g f f2 A B h hf hf2 G T ty
    obtain ⟨f, rfl⟩ : ∃ g, f = g + 1 := ⟨f - 1, by omega⟩
    obtain ⟨f2, rfl⟩ : ∃ g, f2 = g + 1 := ⟨f2 - 1, by omega⟩
    obtain rfl : g = 600 := by omega
    obtain ⟨D', b1, b2, b3⟩ := T.back
    refine ⟨A, D', ?_, ?_, G.1, b2, fun k hk => by rw [b3]; exact ty k hk⟩
    · rw [fc_LB_tellsMost_L56_s, if_pos (by decide)]
    · rw [fm_tellsMost_L89_s, if_pos (by decide), b1, bv_n]
  | succ d ih =>
    intro g f f2 A B h hf hf2 G T ty
    obtain ⟨f, rfl⟩ : ∃ g, f = g + 1 := ⟨f - 1, by omega⟩
    obtain ⟨f2, rfl⟩ : ∃ g, f2 = g + 1 := ⟨f2 - 1, by omega⟩
    have hg : g < 600 := by omega
    obtain ⟨A1, a1, a2, a3, a4⟩ := guess_c hm G hg
    obtain ⟨A2, q1, q2, q3⟩ := sat_c hI hc hL hm em' hs hg m 0 2000 A1 (by omega) (by omega) a2 a3
    obtain ⟨B1, b1, b2, b3, b4⟩ := turns_m T hg
    obtain ⟨B2, w1, w2⟩ := sat_m (L := L) (g := g) hd hm em hs m 0 2000 B1 (by omega) (by omega) b2 b3
    rw [nI_0] at q1 w1
    have q1' : fc_LB_showsAsTold s A1 = some (shB L D s g m 0, A2) := q1
    have w1' : fm_isShown (nI s) B1 = some (shB L D s g m 0, B2) := w1
    have ty2 : TY 0 g A2 B2 := fun k hk => by
      rw [q2 51 (by omega), a4 51 (by omega), w2.1 10 (by decide), b4]; exact ty k hk
    rw [fc_LB_tellsMost_L56_s, fm_tellsMost_L89_s]
    simp only [if_neg (show ¬ (600 : Int32) ≤ nI g from nI_ge (b := 600) (by omega) (by omega)), a1, b1, bv_n, ni_f hs (show 4 < 2 ^ 31 by omega), if_false, nI_clamp (show s < 2 ^ 31 by omega), q1', w1', bi_n]
    by_cases c : shB L D s g m 0 = 0
    · simp only [if_pos c, nI_1]
      refine ih (g + 1) f f2 A2 B2 (by omega) (by omega) (by omega) (a2.k hm q2 q3) (b2.j w2) (fun k hk => ?_)
      obtain ⟨t1, t, t2, t3⟩ := ty2 k hk
      rw [if_neg (by omega)] at t2
      exact ⟨t1, t, by rw [if_neg (by omega)]; omega, t3⟩
    · simp only [if_neg c]
      obtain ⟨A3, B3, z1, z2, z3, z4, z5⟩ := tally_b hI hc hd hL hm em em' hg (fm_tellsMost_L89 f2) (nI s) (nI g) m 0 2000 2000 A2 B2 (by omega) (by omega) (by omega) (a2.k hm q2 q3) (a3.k q2) (b2.j w2) (b3.j w2) ty2
      rw [nI_0] at z1 z2
      have z1' : fc_LB_tallyAll A2 = some A3 := z1
      rw [z1', bv_n, z2, nI_1]
      refine ih (g + 1) f f2 A3 B3 (by omega) (by omega) (by omega) z3 z4 (fun k hk => ?_)
      obtain ⟨t1, t, t2, t3⟩ := z5 k hk
      exact ⟨t1, t, by rw [if_neg (by omega)]; split at t2 <;> omega, t3⟩
def mx (T : Nat → Nat) (c : Nat) : Nat := max (max (max (max (max 0 (T (5 * c + 0))) (T (5 * c + 1))) (T (5 * c + 2))) (T (5 * c + 3))) (T (5 * c + 4))
theorem mx_le {T : Nat → Nat} {N c : Nat} (h : ∀ k, k < 30 → T k ≤ N) (hc : c < 6) : mx T c ≤ N := by
  unfold mx
  have h0 := h (5 * c + 0) (by omega)
  have h1 := h (5 * c + 1) (by omega)
  have h2 := h (5 * c + 2) (by omega)
  have h3 := h (5 * c + 3) (by omega)
  have h4 := h (5 * c + 4) (by omega)
  omega
theorem gt_s {T : Nat → Nat} {A : aw_M} (hT : ∀ k, k < 30 → A 51 k = nI (T k) ∧ T k ≤ 600) {c : Nat} (hc : c < 6) (n p v : Nat) (hv : v < 5) (hp : p ≤ 600) : fc_LB_greatestTally_L4 (n + 1) (nI c) (nI p) (nI v) A = fc_LB_greatestTally_L4 n (nI c) (nI (max p (T (5 * c + v)))) (nI (v + 1)) A := by
  have i1 : (nI c * 5 + nI v : Int32) = nI (5 * c + v) := by rw [show (nI c * 5 : Int32) = nI (c * 5) from nI_mul c 5, nI_add, Nat.mul_comm]
  obtain ⟨e, hle⟩ := hT (5 * c + v) (by omega)
  have m1 : aw_max (nI p) (nI (T (5 * c + v))) = nI (max p (T (5 * c + v))) := by
    unfold aw_max
    by_cases q : p < T (5 * c + v)
    · rw [if_pos (nI_lt q (by omega)), Nat.max_eq_right (by omega)]
    · rw [if_neg (nI_nlt (by omega) (by omega)), Nat.max_eq_left (by omega)]
  rw [fc_LB_greatestTally_L4_s]
  simp only [if_neg (show ¬ (5 : Int32) ≤ nI v from nI_ge (b := 5) (by omega) (by omega)), i1, ni_f (show 5 * c + v < 30 by omega) (show 30 < 2 ^ 31 by omega), if_false, nI_clamp (show 5 * c + v < 2 ^ 31 by omega), e, m1, nI_1]
theorem gt_c {T : Nat → Nat} {A : aw_M} (hT : ∀ k, k < 30 → A 51 k = nI (T k) ∧ T k ≤ 600) {c : Nat} (hc : c < 6) : fc_LB_greatestTally (nI c) A = some (nI (mx T c), A) := by
  show fc_LB_greatestTally_L4 (1994 + 1 + 1 + 1 + 1 + 1 + 1) (nI c) (nI 0) (nI 0) A = _
  have h0 := (hT (5 * c + 0) (by omega)).2
  have h1 := (hT (5 * c + 1) (by omega)).2
  have h2 := (hT (5 * c + 2) (by omega)).2
  have h3 := (hT (5 * c + 3) (by omega)).2
  rw [gt_s hT hc _ 0 0 (by omega) (by omega), gt_s hT hc _ _ 1 (by omega) (by omega), gt_s hT hc _ _ 2 (by omega) (by omega), gt_s hT hc _ _ 3 (by omega) (by omega), gt_s hT hc _ _ 4 (by omega) (by omega), fc_LB_greatestTally_L4_s, if_pos (by decide)]
  rfl
theorem gt_t {T : Nat → Nat} {B : aw_M} (hT : ∀ k, k < 30 → B 10 k = nI (T k) ∧ T k ≤ 600) {c : Nat} (hc : c < 6) (K : Int32 → Int32 → Int32 → aw_M → Option (Int32 × aw_M)) (p2 p3 : Int32) (n p v : Nat) (hv : v < 5) (hp : p ≤ 600) : fm_tellsMost_L189 K (n + 1) p2 p3 (nI c) (nI p) (nI v) B = fm_tellsMost_L189 K n p2 p3 (nI c) (nI (max p (T (5 * c + v)))) (nI (v + 1)) B := by
  have i2 : (5 * nI c + nI v : Int32) = nI (5 * c + v) := by rw [show (5 * nI c : Int32) = nI (5 * c) from nI_mul 5 c, nI_add]
  obtain ⟨e, hle⟩ := hT (5 * c + v) (by omega)
  rw [fm_tellsMost_L189_s]
  simp only [if_neg (show ¬ (5 : Int32) ≤ nI v from nI_ge (b := 5) (by omega) (by omega)), i2, ni_f (show 5 * c + v < 30 by omega) (show 30 < 2 ^ 31 by omega), if_false, nI_clamp (show 5 * c + v < 2 ^ 31 by omega), e, nI_1]
  by_cases q : T (5 * c + v) ≤ p
  · rw [if_pos (nI_le q (by omega)), Nat.max_eq_left q]
  · rw [if_neg (nI_ge (by omega) (by omega)), Nat.max_eq_right (by omega)]
theorem gt_m {T : Nat → Nat} {B : aw_M} (hT : ∀ k, k < 30 → B 10 k = nI (T k) ∧ T k ≤ 600) {c : Nat} (hc : c < 6) (K : Int32 → Int32 → Int32 → aw_M → Option (Int32 × aw_M)) (p2 p3 : Int32) : fm_tellsMost_L189 K 2000 p2 p3 (nI c) 0 0 B = if p3 ≤ nI (mx T c) then K p2 p3 (nI (c + 1)) B else K (nI c) (nI (mx T c)) (nI (c + 1)) B := by
  show fm_tellsMost_L189 K (1994 + 1 + 1 + 1 + 1 + 1 + 1) p2 p3 (nI c) (nI 0) (nI 0) B = _
  have h0 := (hT (5 * c + 0) (by omega)).2
  have h1 := (hT (5 * c + 1) (by omega)).2
  have h2 := (hT (5 * c + 2) (by omega)).2
  have h3 := (hT (5 * c + 3) (by omega)).2
  rw [gt_t hT hc K p2 p3 _ 0 0 (by omega) (by omega), gt_t hT hc K p2 p3 _ _ 1 (by omega) (by omega), gt_t hT hc K p2 p3 _ _ 2 (by omega) (by omega), gt_t hT hc K p2 p3 _ _ 3 (by omega) (by omega), gt_t hT hc K p2 p3 _ _ 4 (by omega) (by omega), fm_tellsMost_L189_s, if_pos (by decide), nI_1]
  show (if p3 ≤ nI (mx T c) then (if p3 ≤ nI (mx T c) then K p2 p3 (nI (c + 1)) B else K p2 (nI (mx T c)) (nI (c + 1)) B) else (if p3 ≤ nI (mx T c) then K (nI c) p3 (nI (c + 1)) B else K (nI c) (nI (mx T c)) (nI (c + 1)) B)) = _
  by_cases q : p3 ≤ nI (mx T c)
  · rw [if_pos q, if_pos q, if_pos q]
  · rw [if_neg q, if_neg q, if_neg q]
theorem best_b {T : Nat → Nat} {m : Nat} {A B : aw_M} (hA : ∀ k, k < 30 → A 51 k = nI (T k) ∧ T k ≤ 600) (hB : ∀ k, k < 30 → B 10 k = nI (T k) ∧ T k ≤ 600) (hm : m ≤ 6) (em : B 1 2 = nI m) (em' : A 1 5 = nI m) : ∀ (d i f f2 b : Nat), i + d = m → d < f → d < f2 → b < 6 → ∃ r, fc_LB_tellsMost_L98 f (nI b) (nI i) A = some (r, A) ∧ fm_tellsMost_L172 f2 (nI b) (nI (mx T b)) (nI i) B = some (r, B) := by
  intro d
  induction d with
  | zero =>
    intro i f f2 b h hf hf2 hb
    obtain ⟨f, rfl⟩ : ∃ g, f = g + 1 := ⟨f - 1, by omega⟩
    obtain ⟨f2, rfl⟩ : ∃ g, f2 = g + 1 := ⟨f2 - 1, by omega⟩
    refine ⟨nI b, ?_, ?_⟩
    · rw [fc_LB_tellsMost_L98_s, if_pos (by rw [em']; exact nI_le (by omega) (by omega))]
    · rw [fm_tellsMost_L172_s, if_pos (by rw [em]; exact nI_le (by omega) (by omega))]
  | succ d ih =>
    intro i f f2 b h hf hf2 hb
    obtain ⟨f, rfl⟩ : ∃ g, f = g + 1 := ⟨f - 1, by omega⟩
    obtain ⟨f2, rfl⟩ : ∃ g, f2 = g + 1 := ⟨f2 - 1, by omega⟩
    rw [fc_LB_tellsMost_L98_s, fm_tellsMost_L172_s]
    simp only [em, em', if_neg (nI_ge (show i < m by omega) (by omega)), gt_c hA (show i < 6 by omega), gt_c hA hb, bi_n, gt_m hB (show i < 6 by omega), nI_1]
    by_cases q : nI (mx T b) ≤ nI (mx T i)
    · simp only [if_pos q]
      exact ih (i + 1) f f2 b (by omega) (by omega) (by omega) hb
    · simp only [if_neg q]
      exact ih (i + 1) f f2 i (by omega) (by omega) (by omega) (by omega)
theorem fillT_m {s : Int32} : ∀ (d k f : Nat) (M : aw_M), k + d = 30 → d < f → ∃ M', fm_tellsMost_L56 f s (nI k) M = (aw_bv (fm_moveAll 1 3 M') fun M_12 => fm_tellsMost_L89 2000 s 0 M_12) ∧ (∀ o, o ≠ 10 → M' o = M o) ∧ (∀ q, q < k → M' 10 q = M 10 q) ∧ ∀ q, k ≤ q → q < 30 → M' 10 q = 0 := by
  intro d
  induction d with
  | zero =>
    intro k f M h hf
    obtain ⟨f, rfl⟩ : ∃ g, f = g + 1 := ⟨f - 1, by omega⟩
    obtain rfl : k = 30 := by omega
    refine ⟨M, ?_, fun _ _ => rfl, fun _ _ => rfl, fun q a b => by omega⟩
    rw [fm_tellsMost_L56_s, if_pos (by decide)]
  | succ d ih =>
    intro k f M h hf
    obtain ⟨f, rfl⟩ : ∃ g, f = g + 1 := ⟨f - 1, by omega⟩
    obtain ⟨M', e1, e2, e3, e4⟩ := ih (k + 1) f (aw_u M 10 k 0) (by omega) (by omega)
    refine ⟨M', ?_, fun o ho => by rw [e2 o ho, aw_u_row ho], fun q hq => by rw [e3 q (by omega), aw_u_j _ (by omega)], fun q a b => ?_⟩
    · rw [fm_tellsMost_L56_s]
      simp only [if_neg (show ¬ (30 : Int32) ≤ nI k from nI_ge (b := 30) (by omega) (by omega)), ni_f (show k < 30 by omega) (show 30 < 2 ^ 31 by omega), if_false, nI_clamp (show k < 2 ^ 31 by omega), nI_1]
      exact e1
    · by_cases c : q = k
      · subst c; rw [e3 q (by omega), aw_u_s]
      · exact e4 q (by omega) b
theorem eq_tellsMost (a : Int32) : op_ok Inv (fc_LB_tellsMost a) (fm_tellsMost a) := by
  intro n C D hn hI
  rcases (Classical.em (0 ≤ a ∧ a ≤ 3)).symm with h | h
  · exact go1 hI (sb (sh_c a C) (sp (if_neg h) rfl)) (sb (sh_m a D) (sp (if_neg h) rfl))
  obtain ⟨s, -, hs, rfl⟩ := rng 0 3 h
  have hs : s < 4 := by omega
  obtain ⟨m, hm, e, e'⟩ := hI.many
  have c1 : (nI s).toNatClampNeg = s := nI_clamp (by omega)
  have hin := ni_f (k := s) (N := 4) hs (by omega)
  simp only [fc_LB_tellsMost, fm_tellsMost, sh_c, sh_m, if_pos h, bi_n, i10, if_false, hin, c1, all_c hI e e' hs, e, e']
  by_cases h0 : D 6 s = 0
  · simp only [if_pos h0, i00, if_true]; exact er2 hI
  by_cases h7 : D 7 s = nI m
  · simp only [if_neg h0, if_pos h7, i10, if_false]
    by_cases hz : m = 0
    · subst hz
      simp only [if_pos nI_0]; exact er2 hI
    simp only [if_neg (nI_ne0 (show 0 < m by omega) (by omega))]
    obtain ⟨L, l1, l2, l3⟩ := laws_L hI.2.2.2.2.1
    obtain ⟨A, a1, a2⟩ := prep_c hI l1 hm e'
    obtain ⟨D0, f1, f2, -, f4⟩ := fillT_m (s := nI s) 30 0 2000 D (by omega) (by omega)
    obtain ⟨D1, k1, k2, k3⟩ := keep_w D D0 f2
    rw [nI_0] at f1
    rw [a1, bv_n, fill_c (by omega), bv_n, f1, k1, bv_n]
    have G1 : GC L m C D (aw_un A 51 (fun k => if k < 30 then 0 else A 51 k)) := by
      have X : ∀ o, o ≠ 51 → (aw_un A 51 (fun k => if k < 30 then 0 else A 51 k)) o = A o := fun o ho => aw_un_o ho
      refine ⟨a2.1.tr ⟨fun o ho => X o (by omega), by rw [X 56 (by omega)]⟩, fun q hq => ?_, ?_, ?_⟩
      · exact (a2.2.1 q hq).cg (X _ (by omega)) (by rw [X _ (by omega)]) (by rw [X _ (by omega)]) (by rw [X _ (by omega)]) (X _ (by omega))
      · rw [X 5 (by omega)]; exact a2.2.2.1
      · rw [X 5 (by omega)]; exact a2.2.2.2
    obtain ⟨A', B', z1, z2, z3, z4, z5⟩ := tells_l hI l1 l2 l3 hm e e' hs 600 0 2000 2000 _ D1 (by omega) (by omega) (by omega) G1 k2 (fun k hk => by
      rw [aw_un_s, if_pos hk, k3, f4 k (by omega) hk]; exact ⟨rfl, 0, by omega, rfl⟩)
    rw [nI_0] at z1 z2
    rw [z1, z2]
    have hB : ∀ k, k < 30 → B' 10 k = nI ((B' 10 k).toNatClampNeg) ∧ (B' 10 k).toNatClampNeg ≤ 600 := fun k hk => by
      obtain ⟨-, t, t1, t2⟩ := z5 k hk
      rw [if_neg (by omega)] at t1
      rw [t2, nI_clamp (by omega)]; exact ⟨rfl, t1⟩
    have hA : ∀ k, k < 30 → A' 51 k = nI ((B' 10 k).toNatClampNeg) ∧ (B' 10 k).toNatClampNeg ≤ 600 := fun k hk => by
      rw [(z5 k hk).1]; exact hB k hk
    have eA : A' 1 5 = nI m := by rw [z3.1 1 (by omega)]; exact e'
    have eB : B' 1 2 = nI m := by rw [z4.1 2 (by omega)]; exact e
    obtain ⟨r, r1, r2⟩ := best_b (T := fun k => (B' 10 k).toNatClampNeg) hA hB hm eB eA (m - 1) 1 2000 1999 0 (by omega) (by omega) (by omega) (by omega)
    rw [nI_0] at r1 r2
    refine go0e (hI.same z3 z4) r1 ?_ rfl
    rw [show (2000 : Nat) = 1999 + 1 from rfl, fm_tellsMost_L172_s, eB, if_neg (nI_nle (by omega) (by omega))]
    have gm := gt_m (T := fun k => (B' 10 k).toNatClampNeg) hB (c := 0) (by omega) (fm_tellsMost_L172 1999) 0 601
    rw [nI_0] at gm
    rw [gm, if_neg (show ¬ (601 : Int32) ≤ nI (mx (fun k => (B' 10 k).toNatClampNeg) 0) from nI_ge (b := 601) (by have := mx_le (T := fun k => (B' 10 k).toNatClampNeg) (N := 600) (c := 0) (fun k hk => (hB k hk).2) (by omega); omega) (by omega))]
    exact r2
  · simp only [if_neg h0, if_neg h7, i00, if_true]; exact er2 hI
