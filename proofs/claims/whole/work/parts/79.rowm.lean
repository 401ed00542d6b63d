-- .. and at the reference
theorem sews_w {L : Lw} {N y i : Nat} {C D E : aw_M} (hI : Inv N C D) (hd : DL L E) (hE : ∀ k, k < 213 → E 1 k = D 1 k) (hi : i < 6) (hy : y ≤ 20) : ∀ (d j f s p : Nat) (A : aw_M), j + d = y → d < f → p ≤ 99 → TD E A → A 1 11 = nI p → (∀ q, 7 ≤ q → q ≤ 12 → q ≠ 11 → A 1 q = D 1 q) → ∃ A', fm_sews_L5 f (nI i) (nI y) (nI s) (nI j) A = some (nI (s + wc L D i d p), A') ∧ TD E A' ∧ A' 1 11 = nI (nlt D i d p) ∧ ∀ q, 7 ≤ q → q ≤ 12 → q ≠ 11 → A' 1 q = D 1 q := by
  obtain ⟨k, hk, ek, -⟩ := hI.kind (i := i) hi
  have ly : lyD D i = lyN k := by unfold lyD; rw [ek, nI_clamp (by omega)]
  intro d
  induction d with
  | zero =>
    intro j f s p A h hf hp td ea mc
    obtain ⟨f, rfl⟩ : ∃ g, f = g + 1 := ⟨f - 1, by omega⟩
    refine ⟨A, ?_, td, ea, mc⟩
    rw [fm_sews_L5_s, if_pos (nI_le (by omega) (by omega))]; rfl
  | succ d ih =>
    intro j f s p A h hf hp td ea mc
    obtain ⟨f, rfl⟩ : ∃ g, f = g + 1 := ⟨f - 1, by omega⟩
    obtain ⟨A1, y1, y2, y3, y4⟩ := yard_t hd td hi hk (by rw [hE _ (by omega)]; exact ek) hp ea
    have cl : ∀ q, q < 3 → A 1 (13 + 5 * i + q) = D 1 (13 + 5 * i + q) := fun q hq => by
      rw [td.2.2.2 _ (by omega) (by unfold mv; omega), hE _ (by omega)]
    have eM : mS L A i = shw L D i p := by
      unfold mS shw
      rw [cl 0 (by omega), cl 1 (by omega), cl 2 (by omega), mc 7 (by omega) (by omega) (by omega), mc 8 (by omega) (by omega) (by omega), mc 9 (by omega) (by omega) (by omega), mc 10 (by omega) (by omega) (by omega), mc 12 (by omega) (by omega) (by omega), ea]
    have eS : spo (mS L A i) = nI (if shw L D i p = 0 then 0 else 1) := by
      unfold spo
      rw [eM]
      by_cases c : shw L D i p = 0
      · rw [if_pos c, if_pos c]; rfl
      · rw [if_neg c, if_neg c]; rfl
    rw [eS] at y1
    obtain ⟨A2, z1, z2, z3, z4⟩ := ih (j + 1) f (s + (if shw L D i p = 0 then 0 else 1)) (min 99 (p + lyN k)) A1 (by omega) (by omega) (by omega) y2 y3 (fun q a b c => by rw [y4 q a b c]; exact mc q a b c)
    refine ⟨A2, ?_, z2, ?_, z4⟩
    · rw [fm_sews_L5_s, if_neg (nI_ge (by omega) (by omega)), y1, bi_n, nI_1, nI_add, z1]
      show _ = some (nI (s + ((if shw L D i p = 0 then 0 else 1) + wc L D i d (min 99 (p + lyD D i)))), A2)
      rw [ly, Nat.add_assoc]
    · rw [z3]
      show nI (nlt D i d (min 99 (p + lyN k))) = nI (nlt D i d (min 99 (p + lyD D i)))
      rw [ly]
def lf : Nat → Nat
  | 0 => 0
  | d + 1 => 6 ^ d
theorem lf_6 : ∀ d, d < 4 → (nI (lf (d + 1)) / 6 : Int32) = nI (lf d) := by decide
theorem pw6 {d : Nat} (h : d ≤ 4) : 0 < 6 ^ d ∧ 6 ^ d ≤ 1296 := by
  rcases (show d = 0 ∨ d = 1 ∨ d = 2 ∨ d = 3 ∨ d = 4 by omega) with rfl | rfl | rfl | rfl | rfl <;> decide
theorem tries_l {L : Lw} {N m n y p0 : Nat} {C D E : aw_M} (hI : Inv N C D) (hd : DL L E) (hE : ∀ k, k < 213 → E 1 k = D 1 k) (hm : m ≤ 6) (em : D 1 2 = nI m) (hn : n ≤ 4) (hy : y ≤ 20) (hp0 : p0 ≤ 99) (c : Nat) (hc : c < 1296) (p5 : Int32) : ∀ (d k fu : Nat) (t : Q4) (A : aw_M), k + d = n → d + 1 < fu → ev L D m y p0 k (c / 6 ^ d) = some t → TD E A → A 1 11 = nI t.2.2.1 → (∀ q, 7 ≤ q → q ≤ 12 → q ≠ 11 → A 1 q = D 1 q) → ∃ A' fl sp', fm_triesRow_L65 fu (nI c) (nI y) p5 (nI t.1) (nI t.2.1) 1 (nI (lf d)) A = fm_triesRow_J150 p5 sp' fl A' ∧ TD E A' ∧ ((∃ t', ev L D m y p0 n c = some t' ∧ fl = 1 ∧ sp' = nI t'.2.1) ∨ (ev L D m y p0 n c = none ∧ fl = 0)) := by
  intro d
  induction d with
  | zero =>
    intro k fu t A h hf et td ea mc
    obtain ⟨fu, rfl⟩ : ∃ g, fu = g + 1 := ⟨fu - 1, by omega⟩
    obtain rfl : k = n := by omega
    rw [Nat.pow_zero, Nat.div_one] at et
    refine ⟨A, 1, nI t.2.1, ?_, td, Or.inl ⟨t, et, rfl, rfl⟩⟩
    rw [fm_triesRow_L65_s, if_pos (show nI (lf 0) ≤ 0 by decide)]
  | succ d ih =>
    intro k fu t A h hf et td ea mc
    obtain ⟨fu, rfl⟩ : ∃ g, fu = g + 1 := ⟨fu - 1, by omega⟩
    obtain ⟨t1, t2, t3, t4⟩ := ev_b hm hp0 k _ t et
    obtain ⟨w1, w2⟩ := pw6 (d := d) (by omega)
    have l1 : ¬ nI (lf (d + 1)) ≤ 0 := nI_nle (show 0 < 6 ^ d from w1) (show 6 ^ d < 2 ^ 31 by omega)
    have l2 : ¬ nI (lf (d + 1)) = 0 := nI_ne0 (show 0 < 6 ^ d from w1) (show 6 ^ d < 2 ^ 31 by omega)
    have q1 : nI c / nI (lf (d + 1)) = nI (c / 6 ^ d) := div_n (by omega) (show 6 ^ d < 2 ^ 31 by omega)
    have cq : c / 6 ^ d ≤ c := Nat.div_le_self _ _
    have q2 : aw_rem (nI (c / 6 ^ d)) 6 = nI (c / 6 ^ d % 6) := rem_n (b := 6) (by omega) (by omega)
    have ev1 : ev L D m y p0 (k + 1) (c / 6 ^ d) = evs L D m y k (c / 6 ^ d % 6) t := by
      show (ev L D m y p0 k (c / 6 ^ d / 6)).bind _ = _
      rw [Nat.div_div_eq_div_mul, ← Nat.pow_succ, et]; rfl
    have hj : c / 6 ^ d % 6 < 6 := Nat.mod_lt _ (by omega)
    generalize hjj : c / 6 ^ d % 6 = j at q2 ev1 hj
    obtain ⟨o1, o2, o3⟩ := or_64 t.1 t1 j hj
    have em' : A 1 2 = nI m := by rw [td.2.2.2 2 (by omega) (by unfold mv; omega), hE 2 (by omega)]; exact em
    have okj : okC (nI j) A ↔ j < m := by
      rw [okC_i hm em']
      constructor
      · rintro ⟨i, hi, e⟩
        have := (nI_eq (by omega) (by omega)).mp e
        omega
      · intro q; exact ⟨j, q, rfl⟩
    -- when it isn't to be sewn
    have bad : evs L D m y k j t = none → ∃ A' fl sp', fm_triesRow_J108 (fm_triesRow_L65 fu) (nI c) (nI y) p5 (nI t.1) (nI t.2.1) (nI (lf (d + 1))) (nI j) 0 A = fm_triesRow_J150 p5 sp' fl A' ∧ TD E A' ∧ ((∃ t', ev L D m y p0 n c = some t' ∧ fl = 1 ∧ sp' = nI t'.2.1) ∨ (ev L D m y p0 n c = none ∧ fl = 0)) := fun hb => by
      obtain ⟨fu, rfl⟩ : ∃ g, fu = g + 1 := ⟨fu - 1, by omega⟩
      refine ⟨A, 0, nI t.2.1 + 0, ?_, td, Or.inr ⟨?_, rfl⟩⟩
      · unfold fm_triesRow_J108
        rw [if_pos rfl, fm_triesRow_L65_s, if_pos (show (0 : Int32) = 0 from rfl)]
        exact ite_self _
      · have := ev_n (L := L) (D := D) (m := m) (y := y) (p0 := p0) d (k + 1) c (ev1.trans hb)
        rw [show k + 1 + d = n by omega] at this
        exact this
    rw [fm_triesRow_L65_s]
    simp only [if_neg l1, i10, if_false, if_neg l2, q1, q2, ic_m, bi_n]
    by_cases jm : j < m
    · rw [if_pos (okj.mpr jm), if_neg (show ¬ (1 : Int32) = 0 by decide)]
      by_cases bt : t.1 / 2 ^ j % 2 = 0
      · rw [if_pos (o3.mpr bt)]
        have e2 : evs L D m y k j t = some (t.1 ||| 2 ^ j, t.2.1 + wc L D j y t.2.2.1, nlt D j y t.2.2.1, if k = 0 then j else t.2.2.2) := by
          unfold evs; rw [if_pos ⟨jm, bt⟩]
        obtain ⟨A1, s1, s2, s3, s4⟩ := sews_w hI hd hE (i := j) hj hy y 0 2000 0 t.2.2.1 A (by omega) (by omega) t3 td ea mc
        rw [nI_0, Nat.zero_add] at s1
        have s1' : fm_sews (nI j) (nI y) A = some (nI (wc L D j y t.2.2.1), A1) := s1
        obtain ⟨A2, fl, sp', z1, z2⟩ := ih (k + 1) fu _ A1 (by omega) (by omega) (ev1.trans e2) s2 s3 s4
        refine ⟨A2, fl, sp', ?_, z2⟩
        unfold fm_triesRow_J108
        rw [if_neg (by decide), s1', bi_n, o2, nI_add, lf_6 d (by omega)]
        exact z1
      · rw [if_neg (fun q => bt (o3.mp q))]
        exact bad (by unfold evs; rw [if_neg (fun q => bt q.2)])
    · rw [if_neg (fun q => jm (okj.mp q)), if_pos rfl]
      exact bad (by unfold evs; rw [if_neg (fun q => jm q.1)])
def BR (b : Nat × Nat) (E : aw_M) : Prop := (b.1 = 1000000 ∧ E 0 20 = -1) ∨ (b.1 ≤ 80 ∧ E 0 20 = nI b.1 ∧ E 0 21 = nI b.2)
theorem tries_m {L : Lw} {N m n y p0 : Nat} {C D E : aw_M} (hI : Inv N C D) (hd : DL L D) (hm : m ≤ 6) (em : D 1 2 = nI m) (hn1 : 1 ≤ n) (hn : n ≤ 4) (hy : y ≤ 20) (hp0 : p0 ≤ 99) (ep : D 1 11 = nI p0) (sd : SD D E) {b : Nat × Nat} (br : BR b E) (c : Nat) (hc : c < 6 ^ n) : ∃ E', fm_triesRow (nI c) (nI n) (nI y) E = some E' ∧ SD D E' ∧ BR (up (ev L D m y p0 n c) b) E' := by
  have hE : ∀ k, k < 213 → E 1 k = D 1 k := fun k hk => sd.1 k hk
  have hdE : DL L E := hd.cg (fun k hk => hE k (by omega))
  obtain ⟨w1, w2⟩ := pw6 hn
  obtain ⟨v1, v2⟩ := pw6 (d := n - 1) (by omega)
  obtain ⟨A, a1, a2, a3⟩ := keep_m E
  have lfn : lf n = 6 ^ (n - 1) := by
    obtain ⟨q, rfl⟩ : ∃ q, n = q + 1 := ⟨n - 1, by omega⟩
    rfl
  have t0 : fm_triesRow (nI c) (nI n) (nI y) E = fm_triesRow_L65 2000 (nI c) (nI y) (nI (c / 6 ^ (n - 1))) 0 0 1 (nI (lf n)) A := by
    have J : fm_triesRow_J32 (nI c) (nI y) (nI (6 ^ (n - 1))) E = fm_triesRow_L65 2000 (nI c) (nI y) (nI (c / 6 ^ (n - 1))) 0 0 1 (nI (lf n)) A := by
      unfold fm_triesRow_J32
      rw [if_neg (nI_ne0 v1 (by omega)), a1, bv_n, div_n (by omega) (by omega), lfn]
    rw [← J]
    unfold fm_triesRow
    rcases (show n = 1 ∨ n = 2 ∨ n = 3 ∨ n = 4 by omega) with rfl | rfl | rfl | rfl
    · rw [if_pos (show nI 1 = 1 by decide), show nI (6 ^ (1 - 1)) = 1 by decide]
    · rw [if_neg (show ¬ nI 2 = 1 by decide), if_pos (show nI 2 = 2 by decide), show nI (6 ^ (2 - 1)) = 6 by decide]
    · rw [if_neg (show ¬ nI 3 = 1 by decide), if_neg (show ¬ nI 3 = 2 by decide), if_pos (show nI 3 = 3 by decide), show nI (6 ^ (3 - 1)) = 36 by decide]
    · rw [if_neg (show ¬ nI 4 = 1 by decide), if_neg (show ¬ nI 4 = 2 by decide), if_neg (show ¬ nI 4 = 3 by decide), show nI (6 ^ (4 - 1)) = 216 by decide]
  obtain ⟨A', fl, sp', z1, z2, z3⟩ := tries_l (L := L) (p0 := p0) hI hdE hE hm em hn hy hp0 c (by omega) (nI (c / 6 ^ (n - 1))) n 0 2000 (0, 0, p0, 0) A (by omega) (by omega) rfl a2 (by rw [a3, hE 11 (by omega)]; exact ep) (fun q h1 h2 h3 => by rw [a3, hE q (by omega)])
  dsimp only at z1
  rw [nI_0] at z1
  rw [t0, z1]
  obtain ⟨E1, b1, b2, b3, b4⟩ := back_m z2
  have e20 : E1 0 20 = E 0 20 := b4.2.1 20 (by unfold jR; omega)
  have e21 : E1 0 21 = E 0 21 := b4.2.1 21 (by unfold jR; omega)
  have sd1 := sd.tr b2
  have sdu : ∀ v w, SD D (aw_u (aw_u E1 0 20 v) 0 21 w) := fun v w => sd1.tr ⟨fun k _ => by rw [aw_u_o _ (by decide), aw_u_o _ (by decide)], fun k _ => by rw [aw_u_o _ (by decide), aw_u_o _ (by decide)], fun o ho => by rw [aw_u_row (by omega), aw_u_row (by omega)], fun j hj => by rw [aw_u_j 0 (by omega), aw_u_j 0 (by omega)]⟩
  unfold fm_triesRow_J150
  rw [b1, bv_n]
  rcases z3 with ⟨t', f1, rfl, rfl⟩ | ⟨f1, rfl⟩
  · obtain ⟨s1, s2, s3, s4⟩ := ev_b hm hp0 n c t' f1
    have tb : t'.2.1 ≤ 80 := Nat.le_trans s2 (Nat.le_trans (Nat.mul_le_mul hy hn) (by omega))
    have tf : t'.2.2.2 = c / 6 ^ (n - 1) := by
      have := ev_f (L := L) (D := D) (m := m) (y := y) (p0 := p0) (n - 1) c t' (by rw [show n - 1 + 1 = n by omega]; exact hc) (by rw [show n - 1 + 1 = n by omega]; exact f1)
      exact this
    have hup : up (ev L D m y p0 n c) b = if t'.2.1 < b.1 then (t'.2.1, t'.2.2.2) else b := by rw [f1]; rfl
    rw [if_neg (show ¬ (1 : Int32) = 0 by decide), e20, hup, ← tf]
    have newb : BR (t'.2.1, t'.2.2.2) (aw_u (aw_u E1 0 20 (nI t'.2.1)) 0 21 (nI t'.2.2.2)) := Or.inr ⟨tb, by rw [aw_u_j 0 (by decide), aw_u_s], by rw [aw_u_s]⟩
    rcases br with ⟨r1, r2⟩ | ⟨r1, r2, r3⟩
    · rw [r2, if_pos (by decide), if_pos (by omega)]
      exact ⟨_, rfl, sdu _ _, newb⟩
    · rw [r2, if_neg (nI_pos (by omega))]
      by_cases q : t'.2.1 < b.1
      · rw [if_pos q, if_neg (nI_ge q (by omega))]
        exact ⟨_, rfl, sdu _ _, newb⟩
      · rw [if_neg q, if_pos (nI_le (by omega) (by omega))]
        exact ⟨E1, rfl, sd1, Or.inr ⟨r1, e20.trans r2, e21.trans r3⟩⟩
  · rw [if_pos rfl, f1]
    refine ⟨E1, rfl, sd1, ?_⟩
    show BR b E1
    rcases br with ⟨r1, r2⟩ | ⟨r1, r2, r3⟩
    · exact Or.inl ⟨r1, e20.trans r2⟩
    · exact Or.inr ⟨r1, e20.trans r2, e21.trans r3⟩
theorem rows_l {L : Lw} {N m n y p0 : Nat} {C D : aw_M} (hI : Inv N C D) (hd : DL L D) (hm : m ≤ 6) (em : D 1 2 = nI m) (hn1 : 1 ≤ n) (hn : n ≤ 4) (hy : y ≤ 20) (hp0 : p0 ≤ 99) (ep : D 1 11 = nI p0) (p3 : Int32) : ∀ (d c fu : Nat) (b : Nat × Nat) (E : aw_M), c + d = 6 ^ n → d < fu → SD D E → BR b E → ∃ E', fm_row_L89 fu (nI n) (nI y) p3 (nI (6 ^ n)) (nI c) E = (if p3 = 0 then some (E' 0 20, E') else some (E' 0 21, E')) ∧ SD D E' ∧ BR (it (fun c b => up (ev L D m y p0 n c) b) d c b) E' := by
  obtain ⟨w1, w2⟩ := pw6 hn
  intro d
  induction d with
  | zero =>
    intro c fu b E h hf sd br
    obtain ⟨fu, rfl⟩ : ∃ g, fu = g + 1 := ⟨fu - 1, by omega⟩
    refine ⟨E, ?_, sd, br⟩
    rw [fm_row_L89_s, if_pos (nI_le (by omega) (by omega))]
  | succ d ih =>
    intro c fu b E h hf sd br
    obtain ⟨fu, rfl⟩ : ∃ g, fu = g + 1 := ⟨fu - 1, by omega⟩
    obtain ⟨E1, a1, a2, a3⟩ := tries_m (L := L) hI hd hm em hn1 hn hy hp0 ep sd br c (by omega)
    obtain ⟨E2, z1, z2, z3⟩ := ih (c + 1) fu _ E1 (by omega) (by omega) a2 a3
    refine ⟨E2, ?_, z2, z3⟩
    rw [fm_row_L89_s, if_neg (nI_ge (by omega) (by omega)), a1, bv_n, nI_1]
    exact z1
