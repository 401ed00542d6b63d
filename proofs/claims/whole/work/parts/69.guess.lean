-- guesses of the machine
def gS (L : Lw) (D : aw_M) (g i : Nat) : Int32 := sS L (D 1 (13 + 5 * i + 0)) (D 1 (13 + 5 * i + 1)) (D 1 (13 + 5 * i + 2)) (nI (g / 300)) (nI (g / 10 % 10)) (nI (g % 10)) (nI (g / 100 % 3)) (D 1 11) (D 1 12)
theorem sS_rg (L : Lw) (k m t th kn sc ne li sp : Int32) : ∃ v, v < 5 ∧ sS L k m t th kn sc ne li sp = nI v := by
  unfold sS sT
  by_cases h1 : th = 1
  · exact ⟨4, by omega, by rw [if_pos h1]; rfl⟩
  rw [if_neg h1]
  by_cases h2 : ne = 2
  · exact ⟨3, by omega, by rw [if_pos h2]; rfl⟩
  rw [if_neg h2]
  by_cases h3 : ne = 1 ∧ ¬ sp ≤ L 1 t m li
  · exact ⟨3, by omega, by rw [if_pos h3]; rfl⟩
  rw [if_neg h3]
  by_cases h4 : -(sB k m) ≤ sO L k m t kn sc li
  · rw [if_pos h4]
    by_cases h5 : sO L k m t kn sc li ≤ sB k m
    · exact ⟨0, by omega, by rw [if_pos h5]; rfl⟩
    · exact ⟨2, by omega, by rw [if_neg h5]; rfl⟩
  · exact ⟨1, by omega, by rw [if_neg h4]; rfl⟩
def shB (L : Lw) (D : aw_M) (s g : Nat) : Nat → Nat → Int32
  | 0, _ => 1
  | d + 1, c => if D 8 (40 * s + c) < 0 then shB L D s g d (c + 1) else if gS L D g c = D 8 (40 * s + c) then shB L D s g d (c + 1) else 0
def GC (L : Lw) (m : Nat) (C D C' : aw_M) : Prop := SC C C' ∧ (∀ q, q < m → GV L C' q) ∧ C' 5 4 = D 1 11 ∧ C' 5 5 = D 1 12
def Gg (g : Nat) (C' : aw_M) : Prop := C' 5 0 = nI (g / 300) ∧ C' 5 1 = nI (g / 10 % 10) ∧ C' 5 2 = nI (g % 10) ∧ C' 5 3 = nI (g / 100 % 3)
theorem CL.s {L : Lw} {C C' : aw_M} (h : CL L C) (k : SC C C') : CL L C' := h.cg (by rw [k.1 26 (by omega)]) (by rw [k.1 27 (by omega)]) (k.1 30 (by omega)) (k.1 31 (by omega))
theorem GC.k {L : Lw} {m : Nat} {C D A B : aw_M} (h : GC L m C D A) (hm : m ≤ 6) (k : KC A B) (gk : GK L A B) : GC L m C D B :=
  ⟨h.1.tr k.sc, fun q hq => gk q (by omega) (h.2.1 q hq), by rw [k 5 (by omega)]; exact h.2.2.1, by rw [k 5 (by omega)]; exact h.2.2.2⟩
theorem Gg.k {g : Nat} {A B : aw_M} (h : Gg g A) (k : KC A B) : Gg g B := by
  unfold Gg
  rw [k 5 (by omega)]; exact h
theorem gs_c {L : Lw} {n m g i : Nat} {C D A : aw_M} (hI : Inv n C D) (hc : CL L C) (hL : LR L) (hm : m ≤ 6) (G : GC L m C D A) (gg : Gg g A) (hg : g < 600) (hi : i < m) : ∃ B, fc_Ga_shows i 2 A = some (gS L D g i, B) ∧ KC A B ∧ GK L A B := by
  obtain ⟨p, hp, ep, -⟩ := hI.lint
  have t2 : ∀ x, x < 2 → nI x = 0 ∨ nI x = 1 := by decide
  obtain ⟨B, h1, h2, h3⟩ := shows_c (hc.s G.1) hL (i := i) (mo := 2) (by omega) (by omega) (by rw [show (3 + 2 : Nat) = 5 from rfl, gg.1]; exact t2 _ (by omega)) hp (G.2.2.1.trans ep) (G.2.1 i hi)
  refine ⟨B, ?_, h2, h3⟩
  rw [h1]
  unfold cS gS
  have E1 : ∀ j, j < 3 → A (14 + i) j = D 1 (13 + 5 * i + j) := fun j hj => by
    rw [G.1.1 (14 + i) (by omega)]
    exact hI.1 _ _ _ _ (lk_cl (by omega) (by omega))
  rw [E1 0 (by omega), E1 1 (by omega), E1 2 (by omega), show (3 + 2 : Nat) = 5 from rfl, gg.1, gg.2.1, gg.2.2.1, gg.2.2.2, G.2.2.1, G.2.2.2]
theorem GK.rf (L : Lw) (A : aw_M) : GK L A A := fun _ _ g => g
theorem sat_c {L : Lw} {n m g s : Nat} {C D : aw_M} (hI : Inv n C D) (hc : CL L C) (hL : LR L) (hm : m ≤ 6) (em : C 1 5 = nI m) (hs : s < 4) (hg : g < 600) : ∀ (d c f : Nat) (A : aw_M), c + d = m → d < f → GC L m C D A → Gg g A → ∃ B, fc_LB_showsAsTold_L2 f s (nI c) A = some (shB L D s g d c, B) ∧ KC A B ∧ GK L A B := by
  intro d
  induction d with
  | zero =>
    intro c f A h hf G gg
    obtain ⟨f, rfl⟩ : ∃ g, f = g + 1 := ⟨f - 1, by omega⟩
    refine ⟨A, ?_, KC.rf A, GK.rf L A⟩
    rw [fc_LB_showsAsTold_L2_s, if_pos (by rw [G.1.1 1 (by omega), em]; exact nI_le (by omega) (by omega))]
    rfl
  | succ d ih =>
    intro c f A h hf G gg
    obtain ⟨f, rfl⟩ : ∃ g, f = g + 1 := ⟨f - 1, by omega⟩
    have e1 : A 1 5 = nI m := by rw [G.1.1 1 (by omega), em]
    have E : A (63 + s) c = D 8 (40 * s + c) := by rw [G.1.1 (63 + s) (by omega)]; exact hI.1 _ _ _ _ (lk_num hs (by omega))
    obtain ⟨B, b1, b2, b3⟩ := gs_c hI hc hL hm G gg hg (i := c) (by omega)
    have E2 : B (63 + s) c = D 8 (40 * s + c) := by rw [b2 (63 + s) (by omega)]; exact E
    rw [fc_LB_showsAsTold_L2_s]
    unfold shB
    simp only [e1, if_neg (nI_ge (show c < m by omega) (by omega)), ni_f (show c < 40 by omega) (show 40 < 2 ^ 31 by omega), ni_f (show c < 6 by omega) (show 6 < 2 ^ 31 by omega), if_false, nI_clamp (show c < 2 ^ 31 by omega), E, b1, bi_n, E2, nI_1]
    by_cases c1 : D 8 (40 * s + c) < 0
    · rw [if_pos c1, if_pos c1]
      exact ih (c + 1) f A (by omega) (by omega) G gg
    · rw [if_neg c1, if_neg c1]
      by_cases c2 : gS L D g c = D 8 (40 * s + c)
      · rw [if_pos c2, if_pos c2]
        obtain ⟨B', q1, q2, q3⟩ := ih (c + 1) f B (by omega) (by omega) (G.k hm b2 b3) (gg.k b2)
        exact ⟨B', q1, b2.tr q2, b3.tr q3⟩
      · rw [if_neg c2, if_neg c2]
        exact ⟨B, rfl, b2, b3⟩
theorem guess_c {L : Lw} {m g : Nat} {C D A : aw_M} (hm : m ≤ 6) (G : GC L m C D A) (hg : g < 600) : ∃ B, fc_Ma_guess 2 (nI g) A = some B ∧ GC L m C D B ∧ Gg g B ∧ ∀ o, o ≠ 5 → B o = A o := by
  have d1 : nI g / 300 = nI (g / 300) := div_n (b := 300) (by omega) (by omega)
  have d2 : nI g / 100 = nI (g / 100) := div_n (b := 100) (by omega) (by omega)
  have d3 : nI g / 10 = nI (g / 10) := div_n (b := 10) (by omega) (by omega)
  have r2 : aw_rem (nI (g / 100)) 3 = nI (g / 100 % 3) := rem_n (b := 3) (by omega) (by omega)
  have r3 : aw_rem (nI (g / 10)) 10 = nI (g / 10 % 10) := rem_n (b := 10) (by omega) (by omega)
  have r1 : aw_rem (nI g) 10 = nI (g % 10) := rem_n (b := 10) (by omega) (by omega)
  unfold fc_Ma_guess
  rw [d1, d2, d3, r1, r2, r3, show (3 + 2 : Nat) = 5 from rfl]
  have X : ∀ o, o ≠ 5 → (aw_u (aw_u (aw_u (aw_u A 5 0 (nI (g / 300))) 5 3 (nI (g / 100 % 3))) 5 1 (nI (g / 10 % 10))) 5 2 (nI (g % 10))) o = A o := fun o ho => by
    rw [aw_u_row ho, aw_u_row ho, aw_u_row ho, aw_u_row ho]
  refine ⟨_, rfl, ⟨G.1.tr ⟨fun o ho => X o (by omega), by rw [X 56 (by omega)]⟩, fun q hq => (G.2.1 q hq).x X, ?_, ?_⟩, ⟨?_, ?_, ?_, ?_⟩, X⟩
  · rw [aw_u_j 5 (by decide), aw_u_j 5 (by decide), aw_u_j 5 (by decide), aw_u_j 5 (by decide)]; exact G.2.2.1
  · rw [aw_u_j 5 (by decide), aw_u_j 5 (by decide), aw_u_j 5 (by decide), aw_u_j 5 (by decide)]; exact G.2.2.2
  · rw [aw_u_j 5 (by decide), aw_u_j 5 (by decide), aw_u_j 5 (by decide), aw_u_s]
  · rw [aw_u_j 5 (by decide), aw_u_s]
  · rw [aw_u_s]
  · rw [aw_u_j 5 (by decide), aw_u_j 5 (by decide), aw_u_s]
-- .. at the reference
def TW (D A : aw_M) : Prop := (∀ o, o ≠ 0 → o ≠ 1 → o ≠ 3 → o ≠ 10 → A o = D o) ∧ (∀ j, ¬ jR j → A 0 j = D 0 j) ∧ (∀ k, k < 213 → A 3 k = D 1 k) ∧ ∀ k, k < 213 → ¬ (7 ≤ k ∧ k ≤ 10) → A 1 k = D 1 k
def Hg (g : Nat) (A : aw_M) : Prop := A 1 7 = nI (g / 300) ∧ A 1 8 = nI (g / 10 % 10) ∧ A 1 9 = nI (g % 10) ∧ A 1 10 = nI (g / 100 % 3)
theorem TW.j {D A B : aw_M} (h : TW D A) (j : JD A B) : TW D B := ⟨fun o h0 h1 h3 h10 => (j.1 o h0).trans (h.1 o h0 h1 h3 h10), fun k hk => (j.2 k hk).trans (h.2.1 k hk), fun k hk => by rw [j.1 3 (by decide)]; exact h.2.2.1 k hk, fun k hk hm => by rw [j.r1]; exact h.2.2.2 k hk hm⟩
theorem Hg.j {g : Nat} {A B : aw_M} (h : Hg g A) (j : JD A B) : Hg g B := by
  unfold Hg
  rw [j.r1]; exact h
theorem TW.u {D A : aw_M} (h : TW D A) {b : Nat} (v : Int32) (hb : 7 ≤ b ∧ b ≤ 10) : TW D (aw_u A 1 b v) := ⟨fun o h0 h1 h3 h10 => by rw [aw_u_row h1]; exact h.1 o h0 h1 h3 h10, fun k hk => by rw [aw_u_o k (by decide)]; exact h.2.1 k hk, fun k hk => by rw [aw_u_o k (by decide)]; exact h.2.2.1 k hk, fun k hk hm => by rw [aw_u_j 1 (show k ≠ b from fun q => hm (by rw [q]; exact hb))]; exact h.2.2.2 k hk hm⟩
theorem TW.t {D A : aw_M} (h : TW D A) {b : Nat} (v : Int32) : TW D (aw_u A 10 b v) := ⟨fun o h0 h1 h3 h10 => by rw [aw_u_row h10]; exact h.1 o h0 h1 h3 h10, fun k hk => by rw [aw_u_o k (by decide)]; exact h.2.1 k hk, fun k hk => by rw [aw_u_o k (by decide)]; exact h.2.2.1 k hk, fun k hk hm => by rw [aw_u_o k (by decide)]; exact h.2.2.2 k hk hm⟩
theorem TW.back {D A : aw_M} (h : TW D A) : ∃ D', fm_moveAll 3 1 A = some D' ∧ SD D D' ∧ D' 10 = A 10 := by
  have e1 : ∀ k, k < 213 → (aw_un A 1 (fun k => if k < 213 then A 3 k else A 1 k)) 1 k = D 1 k := fun k hk => by rw [aw_un_s, if_pos hk]; exact h.2.2.1 k hk
  refine ⟨_, moveAll_m (by decide) A, ⟨e1, fun k hk => ?_, fun o ho => ?_, fun j hj => ?_⟩, aw_un_o (by decide)⟩
  · rw [aw_un_o (by decide), h.1 2 (by decide) (by decide) (by decide) (by decide)]
  · rw [aw_un_o (by omega), h.1 o (by omega) (by omega) (by omega) (by omega)]
  · rw [aw_un_o (by decide)]; exact h.2.1 j (by unfold jR; omega)
theorem gs_m {L : Lw} {g i : Nat} {D A : aw_M} (hd : DL L D) (T : TW D A) (hh : Hg g A) (hi : i < 6) : ∃ B, fm_shows (nI i) A = some (gS L D g i, B) ∧ JD A B := by
  obtain ⟨B, h1, h2⟩ := shows_m (M := A) (hd.cg (fun k hk => T.2.2.2 k (by omega) (by omega))) hi
  refine ⟨B, ?_, h2⟩
  rw [h1]
  unfold mS gS
  rw [hh.1, hh.2.1, hh.2.2.1, hh.2.2.2, T.2.2.2 11 (by omega) (by omega), T.2.2.2 12 (by omega) (by omega), T.2.2.2 (13 + 5 * i + 0) (by omega) (by omega), T.2.2.2 (13 + 5 * i + 1) (by omega) (by omega), T.2.2.2 (13 + 5 * i + 2) (by omega) (by omega)]
theorem sat_m {L : Lw} {m g s : Nat} {D : aw_M} (hd : DL L D) (hm : m ≤ 6) (em : D 1 2 = nI m) (hs : s < 4) : ∀ (d c f : Nat) (A : aw_M), c + d = m → d + 1 < f → TW D A → Hg g A → ∃ B, fm_isShown_L4 f (nI s) 1 (nI c) A = some (shB L D s g d c, B) ∧ JD A B := by
  intro d
  induction d with
  | zero =>
    intro c f A h hf T hh
    obtain ⟨f, rfl⟩ : ∃ g, f = g + 1 := ⟨f - 1, by omega⟩
    refine ⟨A, ?_, JD.rf A⟩
    rw [fm_isShown_L4_s, if_pos (by rw [T.2.2.2 2 (by omega) (by omega), em]; exact nI_le (by omega) (by omega)), if_neg (by decide)]
    rfl
  | succ d ih =>
    intro c f A h hf T hh
    obtain ⟨f, rfl⟩ : ∃ g, f = g + 1 := ⟨f - 1, by omega⟩
    have e1 : A 1 2 = nI m := by rw [T.2.2.2 2 (by omega) (by omega), em]
    have E : A 8 (40 * s + c) = D 8 (40 * s + c) := by rw [T.1 8 (by omega) (by omega) (by omega) (by omega)]
    obtain ⟨B, b1, b2⟩ := gs_m hd T hh (i := c) (by omega)
    rw [fm_isShown_L4_s]
    unfold shB
    simp only [e1, if_neg (nI_ge (show c < m by omega) (by omega)), i10, if_false, n40 hs (show c < 40 by omega), ni_f (show 40 * s + c < 160 by omega) (show 160 < 2 ^ 31 by omega), nI_clamp (show 40 * s + c < 2 ^ 31 by omega), E, b1, bi_n, nI_1]
    by_cases c1 : D 8 (40 * s + c) < 0
    · rw [if_pos c1, if_pos c1]
      exact ih (c + 1) f A (by omega) (by omega) T hh
    · rw [if_neg c1, if_neg c1]
      by_cases c2 : gS L D g c = D 8 (40 * s + c)
      · rw [if_pos c2, if_pos c2.symm]
        obtain ⟨B', q1, q2⟩ := ih (c + 1) f B (by omega) (by omega) (T.j b2) (hh.j b2)
        exact ⟨B', q1, b2.tr q2⟩
      · rw [if_neg c2, if_neg (fun q => c2 q.symm)]
        obtain ⟨f, rfl⟩ : ∃ g, f = g + 1 := ⟨f - 1, by omega⟩
        refine ⟨B, ?_, b2⟩
        rw [fm_isShown_L4_s]
        simp only [i00, true_or, not_true_eq_false, if_true, if_false, ite_self]
theorem turns_m {g : Nat} {D A : aw_M} (T : TW D A) (hg : g < 600) : ∃ B, fm_turnsTo (nI g) A = some B ∧ TW D B ∧ Hg g B ∧ B 10 = A 10 := by
  have d1 : nI g / 300 = nI (g / 300) := div_n (b := 300) (by omega) (by omega)
  have d2 : nI g / 100 = nI (g / 100) := div_n (b := 100) (by omega) (by omega)
  have d3 : nI g / 10 = nI (g / 10) := div_n (b := 10) (by omega) (by omega)
  have r2 : aw_rem (nI (g / 100)) 3 = nI (g / 100 % 3) := rem_n (b := 3) (by omega) (by omega)
  have r3 : aw_rem (nI (g / 10)) 10 = nI (g / 10 % 10) := rem_n (b := 10) (by omega) (by omega)
  have r1 : aw_rem (nI g) 10 = nI (g % 10) := rem_n (b := 10) (by omega) (by omega)
  unfold fm_turnsTo
  rw [d1, d2, d3, r1, r2, r3]
  refine ⟨_, rfl, (((T.u _ (by omega)).u _ (by omega)).u _ (by omega)).u _ (by omega), ⟨?_, ?_, ?_, ?_⟩, by rw [aw_u_row (by decide), aw_u_row (by decide), aw_u_row (by decide), aw_u_row (by decide)]⟩
  · rw [aw_u_j 1 (by decide), aw_u_j 1 (by decide), aw_u_j 1 (by decide), aw_u_s]
  · rw [aw_u_j 1 (by decide), aw_u_s]
  · rw [aw_u_s]
  · rw [aw_u_j 1 (by decide), aw_u_j 1 (by decide), aw_u_s]
-- counting
def cnt (Q : Nat → Int32) : Nat → Nat → Nat
  | _, 0 => 0
  | g, d + 1 => (if Q g = 0 then 0 else 1) + cnt Q (g + 1) d
theorem cnt_le (Q : Nat → Int32) : ∀ d g, cnt Q g d ≤ d := by
  intro d
  induction d with
  | zero => intro g; exact Nat.le_refl 0
  | succ d ih => intro g; unfold cnt; have := ih (g + 1); split <;> omega
theorem cnt_z (Q : Nat → Int32) : ∀ d g, (∀ h, g ≤ h → h < g + d → Q h = 0) → cnt Q g d = 0 := by
  intro d
  induction d with
  | zero => intro g _; rfl
  | succ d ih => intro g h; unfold cnt; rw [if_pos (h g (by omega) (by omega)), ih (g + 1) (fun x a b => h x (by omega) (by omega))]
theorem cnt_p (Q : Nat → Int32) : ∀ d g x, g ≤ x → x < g + d → Q x ≠ 0 → 0 < cnt Q g d := by
  intro d
  induction d with
  | zero => intro g x a b; omega
  | succ d ih =>
    intro g x a b q
    unfold cnt
    by_cases c : x = g
    · subst c; rw [if_neg q]; omega
    · have := ih (g + 1) x (by omega) (by omega) q; omega
/-- the least of those from g on, by its number -/
def LCn (Q : Nat → Int32) (g : Nat) (v : Int32) : Prop := (∀ h, g ≤ h → h < 600 → Q h = 0) ∨ ∃ h, g ≤ h ∧ h < 600 ∧ Q h ≠ 0 ∧ (∀ x, g ≤ x → x < h → Q x = 0) ∧ v = nI (1000 * (h / 300) + h % 300)
theorem can_c0 {L : Lw} {n m s : Nat} {C D : aw_M} (hI : Inv n C D) (hc : CL L C) (hL : LR L) (hm : m ≤ 6) (em : C 1 5 = nI m) (hs : s < 4) : ∀ (d g f p : Nat) (A : aw_M), g + d = 600 → d < f → GC L m C D A → ∃ B, fc_LB_canBe_L48 f (nI s) 0 (nI p) (nI g) A = some (nI (p + cnt (fun g => shB L D s g m 0) g d), B) ∧ SC C B := by
  intro d
  induction d with
  | zero =>
    intro g f p A h hf G
    obtain ⟨f, rfl⟩ : ∃ g, f = g + 1 := ⟨f - 1, by omega⟩
    obtain rfl : g = 600 := by omega
    refine ⟨A, ?_, G.1⟩
    rw [fc_LB_canBe_L48_s, if_pos (by decide), if_neg (by decide)]
    rfl
  | succ d ih =>
    intro g f p A h hf G
    obtain ⟨f, rfl⟩ : ∃ g, f = g + 1 := ⟨f - 1, by omega⟩
    obtain ⟨B, b1, b2, b3, -⟩ := guess_c hm G (show g < 600 by omega)
    obtain ⟨B2, q1, q2, q3⟩ := sat_c hI hc hL hm em hs (show g < 600 by omega) m 0 2000 B (by omega) (by omega) b2 b3
    have G2 := b2.k hm q2 q3
    rw [nI_0] at q1
    have q1' : fc_LB_showsAsTold s B = some (shB L D s g m 0, B2) := q1
    rw [fc_LB_canBe_L48_s]
    simp only [if_neg (show ¬ (600 : Int32) ≤ nI g from nI_ge (b := 600) (by omega) (by omega)), b1, bv_n, ni_f hs (show 4 < 2 ^ 31 by omega), if_false, nI_clamp (show s < 2 ^ 31 by omega), q1', bi_n, if_neg (show ¬ (0 : Int32) = 1 by decide), nI_1]
    unfold cnt
    by_cases c : shB L D s g m 0 = 0
    · rw [if_pos c]
      simp only [if_pos c, Nat.zero_add]
      exact ih (g + 1) f p B2 (by omega) (by omega) G2
    · rw [if_neg c]
      simp only [if_neg c]
      rw [← Nat.add_assoc]
      exact ih (g + 1) f (p + 1) B2 (by omega) (by omega) G2
theorem can_c1 {L : Lw} {n m s : Nat} {C D : aw_M} (hI : Inv n C D) (hc : CL L C) (hL : LR L) (hm : m ≤ 6) (em : C 1 5 = nI m) (hs : s < 4) : ∀ (d g f : Nat) (p : Int32) (A : aw_M), g + d = 600 → d < f → GC L m C D A → ∃ B, SC C B ∧ (((∀ h, g ≤ h → h < 600 → shB L D s h m 0 = 0) ∧ fc_LB_canBe_L48 f (nI s) 1 p (nI g) A = fc_LB_error 2 B) ∨ ∃ h, g ≤ h ∧ h < 600 ∧ shB L D s h m 0 ≠ 0 ∧ (∀ x, g ≤ x → x < h → shB L D s x m 0 = 0) ∧ fc_LB_canBe_L48 f (nI s) 1 p (nI g) A = some (nI (1000 * (h / 300) + h % 300), B)) := by
  intro d
  induction d with
  | zero =>
    intro g f p A h hf G
    obtain ⟨f, rfl⟩ : ∃ g, f = g + 1 := ⟨f - 1, by omega⟩
    obtain rfl : g = 600 := by omega
    refine ⟨A, G.1, Or.inl ⟨fun h a b => by omega, ?_⟩⟩
    rw [fc_LB_canBe_L48_s, if_pos (by decide), if_pos rfl, bi_id]
  | succ d ih =>
    intro g f p A h hf G
    obtain ⟨f, rfl⟩ : ∃ g, f = g + 1 := ⟨f - 1, by omega⟩
    obtain ⟨B, b1, b2, b3, -⟩ := guess_c hm G (show g < 600 by omega)
    obtain ⟨B2, q1, q2, q3⟩ := sat_c hI hc hL hm em hs (show g < 600 by omega) m 0 2000 B (by omega) (by omega) b2 b3
    have G2 := b2.k hm q2 q3
    rw [nI_0] at q1
    have q1' : fc_LB_showsAsTold s B = some (shB L D s g m 0, B2) := q1
    have d1 : nI g / 300 = nI (g / 300) := div_n (b := 300) (by omega) (by omega)
    have r1 : aw_rem (nI g) 300 = nI (g % 300) := rem_n (b := 300) (by omega) (by omega)
    have e1 : (1000 * nI (g / 300) + nI (g % 300) : Int32) = nI (1000 * (g / 300) + g % 300) := by
      rw [show (1000 * nI (g / 300) : Int32) = nI (1000 * (g / 300)) from nI_mul 1000 _, nI_add]
    rw [fc_LB_canBe_L48_s]
    simp only [if_neg (show ¬ (600 : Int32) ≤ nI g from nI_ge (b := 600) (by omega) (by omega)), b1, bv_n, ni_f hs (show 4 < 2 ^ 31 by omega), if_false, nI_clamp (show s < 2 ^ 31 by omega), q1', bi_n, if_true, nI_1, d1, r1, e1]
    by_cases c : shB L D s g m 0 = 0
    · rw [if_pos c]
      obtain ⟨B3, s3, w⟩ := ih (g + 1) f p B2 (by omega) (by omega) G2
      refine ⟨B3, s3, ?_⟩
      rcases w with ⟨w1, w2⟩ | ⟨x, w1, w2, w3, w4, w5⟩
      · refine Or.inl ⟨fun x a b => ?_, w2⟩
        by_cases e : x = g
        · subst e; exact c
        · exact w1 x (by omega) b
      · refine Or.inr ⟨x, by omega, w2, w3, fun y a b => ?_, w5⟩
        by_cases e : y = g
        · subst e; exact c
        · exact w4 y (by omega) b
    · rw [if_neg c]
      exact ⟨B2, G2.1, Or.inr ⟨g, by omega, by omega, c, fun x a b => by omega, rfl⟩⟩
theorem canb_m {L : Lw} {m s : Nat} {D : aw_M} (hd : DL L D) (hm : m ≤ 6) (em : D 1 2 = nI m) (hs : s < 4) (p2 : Int32) : ∀ (g f : Nat) (v : Int32) (A : aw_M), g ≤ 600 → g < f → TW D A → LCn (fun g => shB L D s g m 0) g v → ∃ v' B, SD D B ∧ LCn (fun g => shB L D s g m 0) 0 v' ∧ fm_canBe_L76 f (nI s) p2 (nI (cnt (fun g => shB L D s g m 0) g (600 - g))) v (nI g - 1) A = (if p2 = 1 then (if nI (cnt (fun g => shB L D s g m 0) 0 600) = 0 then fm_errs (-1000000002) B else (if p2 = 0 then some (nI (cnt (fun g => shB L D s g m 0) 0 600), B) else some (v', B))) else (if p2 = 0 then some (nI (cnt (fun g => shB L D s g m 0) 0 600), B) else some (v', B))) := by
  intro g
  induction g with
  | zero =>
    intro f v A h hf T lc
    obtain ⟨f, rfl⟩ : ∃ g, f = g + 1 := ⟨f - 1, by omega⟩
    obtain ⟨B, b1, b2, -⟩ := T.back
    refine ⟨v, B, b2, lc, ?_⟩
    rw [fm_canBe_L76_s, if_pos (by decide), b1, bv_n]
  | succ g ih =>
    intro f v A h hf T lc
    obtain ⟨f, rfl⟩ : ∃ g, f = g + 1 := ⟨f - 1, by omega⟩
    obtain ⟨B, b1, b2, b3, -⟩ := turns_m T (show g < 600 by omega)
    obtain ⟨B2, q1, q2⟩ := sat_m (L := L) (g := g) hd hm em hs m 0 2000 B (by omega) (by omega) b2 b3
    rw [nI_0] at q1
    have q1' : fm_isShown (nI s) B = some (shB L D s g m 0, B2) := q1
    have hh := b3.j q2
    have e1 : ((((1000 * (B2 1 7)) + (100 * (B2 1 10))) + (10 * (B2 1 8))) + (B2 1 9) : Int32) = nI (1000 * (g / 300) + g % 300) := by
      rw [hh.1, hh.2.1, hh.2.2.1, hh.2.2.2, show (1000 * nI (g / 300) : Int32) = nI (1000 * (g / 300)) from nI_mul 1000 _, show (100 * nI (g / 100 % 3) : Int32) = nI (100 * (g / 100 % 3)) from nI_mul 100 _, show (10 * nI (g / 10 % 10) : Int32) = nI (10 * (g / 10 % 10)) from nI_mul 10 _, nI_add, nI_add, nI_add]
      congr 1
      omega
    have e2 : (nI g + (-1) : Int32) = nI g - 1 := (Int32.sub_eq_add_neg _ _).symm
    have e3 : cnt (fun g => shB L D s g m 0) g (600 - g) = (if shB L D s g m 0 = 0 then 0 else 1) + cnt (fun g => shB L D s g m 0) (g + 1) (600 - (g + 1)) := by
      rw [show 600 - g = (600 - (g + 1)) + 1 by omega]; rfl
    rw [fm_canBe_L76_s, nI_pred]
    simp only [if_neg (show ¬ nI g < 0 from nI_pos (by omega)), b1, bv_n, q1', bi_n, nI_1, e1, e2]
    by_cases c : shB L D s g m 0 = 0
    · rw [if_pos c]
      rw [if_pos c, Nat.zero_add] at e3
      rw [← e3]
      refine ih f v B2 (by omega) (by omega) (b2.j q2) ?_
      rcases lc with w | ⟨x, w1, w2, w3, w4, w5⟩
      · refine Or.inl fun x a b => ?_
        by_cases e : x = g
        · subst e; exact c
        · exact w x (by omega) b
      · refine Or.inr ⟨x, by omega, w2, w3, fun y a b => ?_, w5⟩
        by_cases e : y = g
        · subst e; exact c
        · exact w4 y (by omega) b
    · rw [if_neg c]
      rw [if_neg c, Nat.add_comm] at e3
      rw [← e3]
      exact ih f _ B2 (by omega) (by omega) (b2.j q2) (Or.inr ⟨g, by omega, by omega, c, fun x a b => by omega, rfl⟩)
/-- before the guesses -/
theorem prep_c {L : Lw} {n m : Nat} {C D : aw_M} (hI : Inv n C D) (hc : CL L C) (hm : m ≤ 6) (em : C 1 5 = nI m) : ∃ A, fc_LB_prepareGuesses C = some A ∧ GC L m C D A := by
  obtain ⟨A, a1, a2, a3, -⟩ := refr_l (L := L) hm m 0 2000 C (by omega) (by omega) hc em (fun q hq => by obtain ⟨k, hk, -, e⟩ := hI.kind hq; exact ⟨k, hk, e⟩)
  rw [nI_0] at a1
  have a1' : fc_LB_refreshGauges C = some A := a1
  obtain ⟨B, b1, b2, b3, b4⟩ := (hI.same a2.sc (SD.rf D)).think
  refine ⟨B, ?_, a2.sc.tr b2.sc, fun q hq => (a3 q (by omega) hq).x b3, b4 4 (by omega), b4 5 (by omega)⟩
  unfold fc_LB_prepareGuesses
  rw [a1', bv_n, b1, bv_n]
theorem keep_w (D D0 : aw_M) (h : ∀ o, o ≠ 10 → D0 o = D o) : ∃ A, fm_moveAll 1 3 D0 = some A ∧ TW D A ∧ A 10 = D0 10 := by
  refine ⟨_, moveAll_m (by decide) D0, ⟨fun o h0 h1 h3 h10 => by rw [aw_un_o h3]; exact h o h10, fun k hk => by rw [aw_un_o (by decide), h 0 (by decide)], fun k hk => by rw [aw_un_s, if_pos hk, h 1 (by decide)], fun k hk _ => by rw [aw_un_o (by decide), h 1 (by decide)]⟩, aw_un_o (by decide)⟩
theorem all_c {n m s : Nat} {C D : aw_M} (hI : Inv n C D) (em : D 1 2 = nI m) (em' : C 1 5 = nI m) (hs : s < 4) : fc_LB_tellsOfAllCloths s C = some (if D 6 s = 0 then 0 else if D 7 s = nI m then 1 else 0, C) := by
  obtain ⟨e1, e2, -⟩ := shs_b hI hs
  unfold fc_LB_tellsOfAllCloths fc_Sh_isMissing
  rw [e1]
  by_cases c : D 6 s = 0
  · rw [if_pos c, if_pos c, bi_n, if_neg (by decide)]
  · rw [if_neg c, if_neg c, bi_n, if_pos rfl, e2, em']
    by_cases c2 : D 7 s = nI m
    · rw [if_pos c2, if_pos c2]
    · rw [if_neg c2, if_neg c2]
theorem eq_canBe (a b : Int32) : op_ok Inv (fc_LB_canBe a b) (fm_canBe a b) := by
  intro n C D hn hI
  rcases (Classical.em (0 ≤ a ∧ a ≤ 3)).symm with h | h
  · exact go1 hI (sb (sh_c a C) (sp (if_neg h) rfl)) (sb (sh_m a D) (sp (if_neg h) rfl))
  obtain ⟨s, -, hs, rfl⟩ := rng 0 3 h
  have hs : s < 4 := by omega
  obtain ⟨m, hm, e, e'⟩ := hI.many
  have c1 : (nI s).toNatClampNeg = s := nI_clamp (by omega)
  have hin := ni_f (k := s) (N := 4) hs (by omega)
  simp only [fc_LB_canBe, fm_canBe, sh_c, sh_m, if_pos h, bi_n, i10, if_false, hin, c1, pt_c]
  rcases (Classical.em (0 ≤ b ∧ b ≤ 1)).symm with hb | hb
  · simp only [in_n hb, if_neg hb, bi_n, i00, if_true]; exact er1 hI
  simp only [in_y hb, if_pos hb, bi_n, i10, if_false, all_c hI e e' hs, e]
  by_cases h0 : D 6 s = 0
  · simp only [if_pos h0, i00, if_true]; exact er2 hI
  by_cases h7 : D 7 s = nI m
  · simp only [if_neg h0, if_pos h7, i10, if_false]
    obtain ⟨L, l1, l2, l3⟩ := laws_L hI.2.2.2.2.1
    obtain ⟨A, a1, a2⟩ := prep_c hI l1 hm e'
    obtain ⟨D0, k1, k2, -⟩ := keep_w D D (fun _ _ => rfl)
    rw [a1, k1, bv_n, bv_n]
    obtain ⟨v, B, s1, s2, s3⟩ := canb_m l2 hm e hs b 600 2000 0 D0 (by omega) (by omega) k2 (Or.inl (fun h a b => by omega))
    have s3' := s3
    rw [show (600 - 600 : Nat) = 0 from rfl, show cnt (fun g => shB L D s g m 0) 600 0 = 0 from rfl, nI_0, show nI 600 - 1 = 599 by decide] at s3'
    rw [s3']
    have hle := cnt_le (fun g => shB L D s g m 0) 600 0
    rcases i01.mp hb with rfl | rfl
    · obtain ⟨B', w1, w2⟩ := can_c0 hI l1 l3 hm e' hs 600 0 2000 0 A (by omega) (by omega) a2
      rw [nI_0, Nat.zero_add] at w1
      rw [if_neg (by decide), if_pos rfl]
      exact go0e (hI.same w2 s1) w1 rfl rfl
    · obtain ⟨B', w2, w⟩ := can_c1 hI l1 l3 hm e' hs 600 0 2000 0 A (by omega) (by omega) a2
      rw [if_pos rfl, if_neg (show ¬ (1 : Int32) = 0 by decide)]
      rw [nI_0] at w
      rcases w with ⟨w3, w4⟩ | ⟨x, w3, w4, w5, w6, w7⟩
      · rw [cnt_z _ 600 0 (fun h a b => w3 h a (by omega)), nI_0, if_pos rfl, w4]
        exact er2 (hI.same w2 s1)
      · have hp := cnt_p (fun g => shB L D s g m 0) 600 0 x w3 (by omega) w5
        rw [if_neg (nI_ne0 hp (by omega)), w7]
        refine go0e (hI.same w2 s1) rfl rfl ?_
        rcases s2 with s2 | ⟨y, y1, y2, y3, y4, rfl⟩
        · exact absurd (s2 x (by omega) w4) w5
        · have : x = y := by
            rcases Nat.lt_trichotomy x y with q | q | q
            · exact absurd (y4 x (by omega) q) w5
            · exact q
            · exact absurd (w6 y (by omega) q) y3
          rw [this]
  · simp only [if_neg h0, if_neg h7, i00, if_true]; exact er2 hI
