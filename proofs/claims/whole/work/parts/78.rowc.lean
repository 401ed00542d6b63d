-- rows of cloths at the class
def XR (L : Lw) (m n y : Nat) (C D : aw_M) (b : Nat × Nat) (p : Nat) (M : aw_M) : Prop := SC C M ∧ (∀ q, q < m → GV L M q) ∧ (∀ j, j < 6 → j ≠ 4 → M 5 j = D 1 (7 + j)) ∧ M 5 4 = nI p ∧ M 52 2 = nI m ∧ M 52 3 = nI n ∧ M 52 4 = nI y ∧ M 52 5 = nI b.1 ∧ M 52 6 = nI b.2
theorem XR.k {L : Lw} {m n y : Nat} {C D : aw_M} {b : Nat × Nat} {p : Nat} {A B : aw_M} (h : XR L m n y C D b p A) (hm : m ≤ 6) (k : KC A B) (gk : GK L A B) : XR L m n y C D b p B := by
  obtain ⟨h1, h2, h3⟩ := h
  refine ⟨h1.tr k.sc, fun q hq => gk q (by omega) (h2 q hq), ?_⟩
  rw [k 5 (by omega), k 52 (by omega)]; exact h3
theorem XR.l {L : Lw} {m n y : Nat} {C D : aw_M} {b : Nat × Nat} {p : Nat} {A : aw_M} (h : XR L m n y C D b p A) (p' : Nat) : XR L m n y C D b p' (aw_u A 5 4 (nI p')) := by
  obtain ⟨h1, h2, h3, h4, h5⟩ := h
  have X : ∀ o, o ≠ 5 → aw_u A 5 4 (nI p') o = A o := fun o ho => aw_u_row ho
  refine ⟨h1.tr ⟨fun o ho => X o (by omega), by rw [X 56 (by omega)]⟩, fun q hq => (h2 q hq).x X, fun j hj h4 => by rw [aw_u_j 5 h4]; exact h3 j hj h4, aw_u_s _ _ _ _, ?_⟩
  rw [X 52 (by omega)]; exact h5
theorem XR.b {L : Lw} {m n y : Nat} {C D : aw_M} {b : Nat × Nat} {p : Nat} {A : aw_M} (hm : m ≤ 6) (h : XR L m n y C D b p A) (b' : Nat × Nat) : XR L m n y C D b' p (aw_u (aw_u A 52 5 (nI b'.1)) 52 6 (nI b'.2)) := by
  obtain ⟨h1, h2, h3, h4, h5, h6, h7, -⟩ := h
  have X : ∀ o, o ≠ 52 → aw_u (aw_u A 52 5 (nI b'.1)) 52 6 (nI b'.2) o = A o := fun o ho => by rw [aw_u_row ho, aw_u_row ho]
  refine ⟨h1.tr ⟨fun o ho => X o (by omega), by rw [X 56 (by omega)]⟩, fun q hq => ?_, fun j hj h4 => by rw [X 5 (by omega)]; exact h3 j hj h4, by rw [X 5 (by omega)]; exact h4, ?_, ?_, ?_, ?_, ?_⟩
  · exact (h2 q hq).cg (X _ (by omega)) (by rw [X _ (by omega)]) (by rw [X _ (by omega)]) (by rw [X _ (by omega)]) (X _ (by omega))
  · rw [aw_u_j 52 (by decide), aw_u_j 52 (by decide)]; exact h5
  · rw [aw_u_j 52 (by decide), aw_u_j 52 (by decide)]; exact h6
  · rw [aw_u_j 52 (by decide), aw_u_j 52 (by decide)]; exact h7
  · rw [aw_u_j 52 (by decide), aw_u_s]
  · rw [aw_u_s]
theorem sewOn_l {L : Lw} {N m n y i : Nat} {C D : aw_M} (hI : Inv N C D) (hc : CL L C) (hL : LR L) (hm : m ≤ 6) (hi : i < m) (hy : y ≤ 20) {b : Nat × Nat} : ∀ (d j f s p : Nat) (M : aw_M), j + d = y → d < f → p ≤ 99 → XR L m n y C D b p M → ∃ M', fc_Ro_sewOn_L4 f i (nI s) (nI j) M = some (nI (s + wc L D i d p), M') ∧ XR L m n y C D b (nlt D i d p) M' := by
  obtain ⟨k, hk, ek, ek'⟩ := hI.kind (i := i) (by omega)
  have ly : lyD D i = lyN k := by unfold lyD; rw [ek, nI_clamp (by omega)]
  have l2 := lyN_2 k
  intro d
  induction d with
  | zero =>
    intro j f s p M h hf hp X
    obtain ⟨f, rfl⟩ : ∃ g, f = g + 1 := ⟨f - 1, by omega⟩
    refine ⟨M, ?_, X⟩
    rw [fc_Ro_sewOn_L4_s, X.2.2.2.2.2.2.1, if_pos (nI_le (by omega) (by omega))]
    rfl
  | succ d ih =>
    intro j f s p M h hf hp X
    obtain ⟨f, rfl⟩ : ∃ g, f = g + 1 := ⟨f - 1, by omega⟩
    obtain ⟨M1, a1, a2, a3⟩ := shows_c (hc.s X.1) hL (i := i) (mo := 2) (by omega) (by omega) (by rw [show (3 + 2 : Nat) = 5 from rfl, X.2.2.1 0 (by omega) (by omega)]; exact hI.th.1) hp X.2.2.2.1 (X.2.1 i hi)
    have E : cS L M i 2 = shw L D i p := by
      unfold cS shw
      have E1 : ∀ q, q < 3 → M (14 + i) q = D 1 (13 + 5 * i + q) := fun q hq => by
        rw [X.1.1 (14 + i) (by omega)]
        exact hI.1 _ _ _ _ (lk_cl (by omega) (by omega))
      rw [E1 0 (by omega), E1 1 (by omega), E1 2 (by omega), show (3 + 2 : Nat) = 5 from rfl, X.2.2.1 0 (by omega) (by omega), X.2.2.1 1 (by omega) (by omega), X.2.2.1 2 (by omega) (by omega), X.2.2.1 3 (by omega) (by omega), X.2.2.1 5 (by omega) (by omega), X.2.2.2.1]
    rw [E] at a1
    have X1 := X.k hm a2 a3
    have K1 : M1 (14 + i) 0 = nI k := by rw [X1.1.1 (14 + i) (by omega)]; exact ek'
    have gth : fc_Ma_gather 2 (nI (lyN k)) M1 = some (aw_u M1 5 4 (nI (min 99 (p + lyN k)))) := by
      unfold fc_Ma_gather
      rw [show (3 + 2 : Nat) = 5 from rfl, X1.2.2.2.1, min99 (by omega) (by omega) (by omega)]
    have X2 := X1.l (min 99 (p + lyN k))
    rw [fc_Ro_sewOn_L4_s, X.2.2.2.2.2.2.1]
    simp only [if_neg (nI_ge (show j < y by omega) (by omega)), a1, bi_n, ly_c hk K1, gth, bv_n, nI_1]
    unfold wc nlt
    rw [ly]
    by_cases c : shw L D i p = 0
    · rw [if_pos c, if_pos c, Nat.zero_add]
      exact ih (j + 1) f s _ _ (by omega) (by omega) (by omega) X2
    · rw [if_neg c, if_neg c, ← Nat.add_assoc]
      exact ih (j + 1) f (s + 1) _ _ (by omega) (by omega) (by omega) X2
theorem ex_le {L : Lw} {D : aw_M} {m y p0 : Nat} : ∀ r k c b, (ex L D m y p0 r k c b).1 ≤ b.1 := by
  intro r
  induction r with
  | zero => intro k c b; exact up_le _ _
  | succ r ih => intro k c b; exact it_le (fun j b => ih (k + 1) (c * 6 + j) b) 6 0 b
theorem ext_c {L : Lw} {N m n y p0 : Nat} {C D : aw_M} (hI : Inv N C D) (hc : CL L C) (hL : LR L) (hm : m ≤ 6) (hn : n ≤ 4) (hy : y ≤ 20) (hp0 : p0 ≤ 99) : ∀ (r f k c : Nat) (t : Q4) (b : Nat × Nat) (M : aw_M), k + r = n → r < f → ev L D m y p0 k c = some t → b.1 ≤ 1000000 → XR L m n y C D b t.2.2.1 M → ∃ p' M', p' ≤ 99 ∧ FX_fc_Ro_extend f (nI k) (nI t.1) (nI t.2.1) (nI t.2.2.2) M = some M' ∧ XR L m n y C D (ex L D m y p0 r k c b) p' M' := by
  intro r
  induction r with
  | zero =>
    intro f k c t b M h hf et hb X
    obtain ⟨f, rfl⟩ : ∃ g, f = g + 1 := ⟨f - 1, by omega⟩
    obtain ⟨t1, t2, t3, t4⟩ := ev_b hm hp0 k c t et
    have tb : t.2.1 ≤ 80 := Nat.le_trans t2 (Nat.le_trans (Nat.mul_le_mul hy (show k ≤ 4 by omega)) (by omega))
    obtain rfl : k = n := by omega
    show ∃ p' M', p' ≤ 99 ∧ fc_Ro_extend (FX_fc_Ro_extend f) (nI k) (nI t.1) (nI t.2.1) (nI t.2.2.2) M = some M' ∧ _
    unfold fc_Ro_extend
    by_cases c1 : t.2.1 < b.1
    · rw [X.2.2.2.2.2.2.2.1, if_pos (nI_lt c1 (by omega)), X.2.2.2.2.2.1, if_neg (nI_nlt (by omega) (by omega))]
      refine ⟨t.2.2.1, _, t3, rfl, ?_⟩
      have e1 : ex L D m y p0 0 k c b = (t.2.1, t.2.2.2) := by
        unfold ex up
        rw [et]
        show (if t.2.1 < b.1 then (t.2.1, t.2.2.2) else b) = _
        rw [if_pos c1]
      rw [e1]
      exact X.b hm (t.2.1, t.2.2.2)
    · rw [X.2.2.2.2.2.2.2.1, if_neg (nI_nlt (by omega) (by omega))]
      refine ⟨t.2.2.1, M, t3, rfl, ?_⟩
      rw [ex_prune 0 k c b t et (by omega)]; exact X
  | succ r ih =>
    intro f k c t b M h hf et hb X
    obtain ⟨f, rfl⟩ : ∃ g, f = g + 1 := ⟨f - 1, by omega⟩
    obtain ⟨t1, t2, t3, t4⟩ := ev_b hm hp0 k c t et
    have tb : t.2.1 ≤ 80 := Nat.le_trans t2 (Nat.le_trans (Nat.mul_le_mul hy (show k ≤ 4 by omega)) (by omega))
    show ∃ p' M', p' ≤ 99 ∧ fc_Ro_extend (FX_fc_Ro_extend f) (nI k) (nI t.1) (nI t.2.1) (nI t.2.2.2) M = some M' ∧ _
    unfold fc_Ro_extend
    by_cases c1 : t.2.1 < b.1
    case neg =>
      rw [X.2.2.2.2.2.2.2.1, if_neg (nI_nlt (by omega) (by omega))]
      refine ⟨t.2.2.1, M, t3, rfl, ?_⟩
      rw [ex_prune (r + 1) k c b t et (by omega)]; exact X
    rw [X.2.2.2.2.2.2.2.1, if_pos (nI_lt c1 (by omega)), X.2.2.2.2.2.1, if_pos (nI_lt (by omega) (by omega)), X.2.2.2.1]
    have loop : ∀ (d j fu p1 : Nat) (b : Nat × Nat) (M : aw_M), j + d = m → d < fu → b.1 ≤ 1000000 → p1 ≤ 99 → XR L m n y C D b p1 M → ∃ p' M', p' ≤ 99 ∧ fc_Ro_extend_L41 (FX_fc_Ro_extend f) fu (nI k) (nI t.1) (nI t.2.1) (nI t.2.2.2) (nI t.2.2.1) (nI j) M = some M' ∧ XR L m n y C D (it (fun j b => ex L D m y p0 r (k + 1) (c * 6 + j) b) d j b) p' M' := by
      intro d
      induction d with
      | zero =>
        intro j fu p1 b M h hf hb hp1 X
        obtain ⟨fu, rfl⟩ : ∃ g, fu = g + 1 := ⟨fu - 1, by omega⟩
        refine ⟨p1, M, hp1, ?_, X⟩
        rw [fc_Ro_extend_L41_s, X.2.2.2.2.1, if_pos (nI_le (by omega) (by omega))]
      | succ d ihd =>
        intro j fu p1 b M h hf hb hp1 X
        obtain ⟨fu, rfl⟩ : ∃ g, fu = g + 1 := ⟨fu - 1, by omega⟩
        have hj6 : j < 6 := by omega
        obtain ⟨o1, o2, o3⟩ := or_64 t.1 t1 j hj6
        have e1 : ev L D m y p0 (k + 1) (c * 6 + j) = evs L D m y k j t := by rw [ev_s hj6, et]; rfl
        rw [fc_Ro_extend_L41_s, X.2.2.2.2.1, if_neg (nI_ge (show j < m by omega) (by omega))]
        by_cases bt : t.1 / 2 ^ j % 2 = 0
        · have e2 : evs L D m y k j t = some (t.1 ||| 2 ^ j, t.2.1 + wc L D j y t.2.2.1, nlt D j y t.2.2.1, if k = 0 then j else t.2.2.2) := by
            unfold evs; rw [if_pos ⟨by omega, bt⟩]
          obtain ⟨M1, s1, s2⟩ := sewOn_l hI hc hL hm (i := j) (by omega) hy y 0 2000 0 t.2.2.1 _ (by omega) (by omega) t3 (X.l t.2.2.1)
          rw [nI_0, Nat.zero_add] at s1
          have s1' : fc_Ro_sewOn j (aw_u M 5 4 (nI t.2.2.1)) = some (nI (wc L D j y t.2.2.1), M1) := s1
          obtain ⟨p2, M2, z1, z2, z3⟩ := ih f (k + 1) (c * 6 + j) _ b M1 (by omega) (by omega) (e1.trans e2) hb s2
          obtain ⟨p3, M3, y1, y2, y3⟩ := ihd (j + 1) fu p2 _ M2 (by omega) (by omega) (Nat.le_trans (ex_le r (k + 1) (c * 6 + j) b) hb) z1 z3
          refine ⟨p3, M3, y1, ?_, y3⟩
          simp only [if_pos (o3.mpr bt), ni_f hj6 (show 6 < 2 ^ 31 by omega), if_false, nI_clamp (show j < 2 ^ 31 by omega), s1', bi_n, o2, nI_1, nI_add]
          by_cases k0 : k = 0
          · subst k0
            rw [if_pos nI_0]
            rw [if_pos rfl] at z2
            rw [z2, bv_n]; exact y2
          · rw [if_neg (nI_ne0 (by omega) (by omega))]
            rw [if_neg k0] at z2
            rw [z2, bv_n]; exact y2
        · have e2 : evs L D m y k j t = none := by
            unfold evs; rw [if_neg (fun q => bt q.2)]
          simp only [if_neg (fun q => bt (o3.mp q)), nI_1]
          obtain ⟨p3, M3, y1, y2, y3⟩ := ihd (j + 1) fu p1 b M (by omega) (by omega) hb hp1 X
          refine ⟨p3, M3, y1, y2, ?_⟩
          have : it (fun j b => ex L D m y p0 r (k + 1) (c * 6 + j) b) (d + 1) j b = it (fun j b => ex L D m y p0 r (k + 1) (c * 6 + j) b) d (j + 1) b := by
            show it _ d (j + 1) (ex L D m y p0 r (k + 1) (c * 6 + j) b) = _
            rw [ex_none r _ _ b (e1.trans e2)]
          rw [this]; exact y3
    obtain ⟨p', M', w1, w2, w3⟩ := loop m 0 2000 t.2.2.1 b M (by omega) (by omega) hb t3 X
    rw [nI_0] at w2
    refine ⟨p', M', w1, w2, ?_⟩
    have e6 : ex L D m y p0 (r + 1) k c b = it (fun j b => ex L D m y p0 r (k + 1) (c * 6 + j) b) m 0 b := by
      show it (fun j b => ex L D m y p0 r (k + 1) (c * 6 + j) b) 6 0 b = _
      have ia := it_add (fun j b => ex L D m y p0 r (k + 1) (c * 6 + j) b) m (6 - m) 0 b
      rw [show m + (6 - m) = 6 by omega] at ia
      rw [ia]
      refine it_fix _ _ (fun q a1 a2 => ?_)
      refine ex_none r _ _ _ ?_
      rw [ev_s (by omega), et]
      show evs L D m y k q t = none
      unfold evs
      rw [if_neg (fun w => by omega)]
    rw [e6]; exact w3
