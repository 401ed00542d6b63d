-- a TEXT read at both
def hb (e : Nat) (tx : Nat → Int32) (s : Nat) : Int32 := if s < e then tx s else -1
def RS (u e : Nat) (tx : Nat → Int32) (s len : Nat) (M : aw_M) : Prop := (M 53 3 = nI s ∧ M 53 4 = nI e ∧ M 53 2 = nI len ∧ M 53 5 = nI u) ∧ (∀ k, k < e → M 55 k = tx k) ∧ s ≤ e ∧ e ≤ 50
def KR (M M' : aw_M) : Prop := ∀ o, o ≠ 53 → o ≠ 54 → M' o = M o
theorem KR.rf (M : aw_M) : KR M M := fun _ _ _ => rfl
theorem KR.tr {A B C : aw_M} (h : KR A B) (h' : KR B C) : KR A C := fun o a b => (h' o a b).trans (h o a b)
def NS (u e : Nat) (tx : Nat → Int32) (p : Nat) (a b c : Int32) (s g : Nat) (N : aw_M) : Prop := (N 0 7 = nI u ∧ N 0 8 = nI s ∧ N 0 9 = nI e ∧ N 0 10 = nI p ∧ N 0 14 = nI g) ∧ (N 0 11 = a ∧ N 0 12 = b ∧ N 0 13 = c) ∧ ∀ k, k < e → N 1 (113 + 50 * u + k) = tx k
theorem JD_u (N : aw_M) {j : Nat} (v : Int32) (hj : jR j) : JD N (aw_u N 0 j v) := ⟨fun o ho => aw_u_row ho, fun k hk => aw_u_j 0 (fun q => hk (by rw [q]; exact hj))⟩
theorem here_c {u e s len : Nat} {tx : Nat → Int32} {M : aw_M} (h : RS u e tx s len M) : fc_Te_here M = some (hb e tx s, M) := by
  obtain ⟨⟨h1, h2, h3, h4⟩, h5, h6, h7⟩ := h
  unfold fc_Te_here hb
  rw [h1, h2, if_neg (nI_pos (by omega))]
  by_cases c : s < e
  · rw [if_neg (nI_ge c (by omega)), if_neg (show ¬ aw_in (nI s) 50 from nI_in (by omega) (by omega)), nI_clamp (by omega), h5 s c, if_pos c]
  · rw [if_pos (nI_le (by omega) (by omega)), if_neg c]
theorem add_c {u e s len : Nat} {tx : Nat → Int32} {M : aw_M} (h : RS u e tx s len M) (hl : len < 50) (v : Int32) : ∃ M', fc_Te_add v M = some M' ∧ RS u e tx s (len + 1) M' ∧ KR M M' ∧ M' 54 len = v ∧ ∀ k, k ≠ len → M' 54 k = M 54 k := by
  obtain ⟨⟨h1, h2, h3, h4⟩, h5, h6, h7⟩ := h
  unfold fc_Te_add
  rw [h3, if_neg (show ¬ (50 : Int32) ≤ nI len from nI_ge (b := 50) (by omega) (by omega)), if_neg (show ¬ aw_in (nI len) 50 from nI_in (by omega) (by omega)), nI_clamp (by omega), aw_u_o (a := 53) 2 (by decide), h3, nI_1]
  refine ⟨_, rfl, ⟨⟨?_, ?_, ?_, ?_⟩, fun k hk => ?_, h6, h7⟩, fun o a b => ?_, ?_, fun k hk => ?_⟩
  · rw [aw_u_j 53 (by decide), aw_u_o _ (by decide)]; exact h1
  · rw [aw_u_j 53 (by decide), aw_u_o _ (by decide)]; exact h2
  · rw [aw_u_s]
  · rw [aw_u_j 53 (by decide), aw_u_o _ (by decide)]; exact h4
  · rw [aw_u_o _ (by decide), aw_u_o _ (by decide)]; exact h5 k hk
  · rw [aw_u_row a, aw_u_row b]
  · rw [aw_u_o _ (by decide), aw_u_s]
  · rw [aw_u_o _ (by decide), aw_u_j _ hk]
theorem adv_c {u e s len : Nat} {tx : Nat → Int32} {M : aw_M} (h : RS u e tx s len M) (hs : s < e) : RS u e tx (s + 1) len (aw_u M 53 3 (M 53 3 + 1)) ∧ KR M (aw_u M 53 3 (M 53 3 + 1)) ∧ (aw_u M 53 3 (M 53 3 + 1)) 54 = M 54 := by
  obtain ⟨⟨h1, h2, h3, h4⟩, h5, h6, h7⟩ := h
  refine ⟨⟨⟨?_, ?_, ?_, ?_⟩, fun k hk => ?_, by omega, h7⟩, fun o a b => aw_u_row a, aw_u_row (by decide)⟩
  · rw [aw_u_s, h1, nI_1]
  · rw [aw_u_j 53 (by decide)]; exact h2
  · rw [aw_u_j 53 (by decide)]; exact h3
  · rw [aw_u_j 53 (by decide)]; exact h4
  · rw [aw_u_o _ (by decide)]; exact h5 k hk
theorem byte_m {u e p s g : Nat} {tx : Nat → Int32} {a b c : Int32} {N : aw_M} (h : NS u e tx p a b c s g N) (hu : u < 2) (he : e ≤ 50) (hs : s ≤ e) : fm_byteAt (N 0 8) N = some (hb e tx s, N) := by
  obtain ⟨⟨h1, h2, h3, h4, h5⟩, -, h7⟩ := h
  unfold fm_byteAt hb
  rw [h2, h3, h1]
  by_cases q : s < e
  · have e1 : (113 + 50 * nI u + nI s : Int32) = nI (113 + 50 * u + s) := by
      rw [show (50 * nI u : Int32) = nI (50 * u) from nI_mul 50 u, show (113 + nI (50 * u) : Int32) = nI (113 + 50 * u) from nI_add 113 _, nI_add]
    rw [if_neg (nI_ge q (by omega)), e1, if_neg (show ¬ aw_in (nI (113 + 50 * u + s)) 213 from nI_in (by omega) (by omega)), nI_clamp (by omega), h7 s q, if_pos q]
  · rw [if_pos (nI_le (by omega) (by omega)), if_neg q]
theorem adv_m {u e p s g : Nat} {tx : Nat → Int32} {a b c : Int32} {N : aw_M} (h : NS u e tx p a b c s g N) : NS u e tx p a b c (s + 1) g (aw_u N 0 8 (N 0 8 + 1)) ∧ JD N (aw_u N 0 8 (N 0 8 + 1)) := by
  obtain ⟨⟨h1, h2, h3, h4, h5⟩, ⟨h6, h7, h8⟩, h9⟩ := h
  refine ⟨⟨⟨?_, ?_, ?_, ?_, ?_⟩, ⟨?_, ?_, ?_⟩, fun k hk => ?_⟩, JD_u N _ (by unfold jR; omega)⟩
  · rw [aw_u_j 0 (by decide)]; exact h1
  · rw [aw_u_s, h2, nI_1]
  · rw [aw_u_j 0 (by decide)]; exact h3
  · rw [aw_u_j 0 (by decide)]; exact h4
  · rw [aw_u_j 0 (by decide)]; exact h5
  · rw [aw_u_j 0 (by decide)]; exact h6
  · rw [aw_u_j 0 (by decide)]; exact h7
  · rw [aw_u_j 0 (by decide)]; exact h8
  · rw [aw_u_o _ (by decide)]; exact h9 k hk
theorem open_m {u e p s g : Nat} {tx : Nat → Int32} {a b c : Int32} {N : aw_M} (h : NS u e tx p a b c s g N) (p' : Nat) : NS u e tx p' a b c s g (aw_u N 0 10 (nI p')) ∧ JD N (aw_u N 0 10 (nI p')) := by
  obtain ⟨⟨h1, h2, h3, h4, h5⟩, ⟨h6, h7, h8⟩, h9⟩ := h
  refine ⟨⟨⟨?_, ?_, ?_, ?_, ?_⟩, ⟨?_, ?_, ?_⟩, fun k hk => ?_⟩, JD_u N _ (by unfold jR; omega)⟩
  · rw [aw_u_j 0 (by decide)]; exact h1
  · rw [aw_u_j 0 (by decide)]; exact h2
  · rw [aw_u_j 0 (by decide)]; exact h3
  · rw [aw_u_s]
  · rw [aw_u_j 0 (by decide)]; exact h5
  · rw [aw_u_j 0 (by decide)]; exact h6
  · rw [aw_u_j 0 (by decide)]; exact h7
  · rw [aw_u_j 0 (by decide)]; exact h8
  · rw [aw_u_o _ (by decide)]; exact h9 k hk
theorem fail_m {u e p s g : Nat} {tx : Nat → Int32} {a b c : Int32} {N : aw_M} (h : NS u e tx p a b c s g N) : ∃ N', fm_fails N = some (0, N') ∧ NS u e tx p a b c s 0 N' ∧ JD N N' := by
  obtain ⟨⟨h1, h2, h3, h4, h5⟩, ⟨h6, h7, h8⟩, h9⟩ := h
  refine ⟨_, rfl, ⟨⟨?_, ?_, ?_, ?_, ?_⟩, ⟨?_, ?_, ?_⟩, fun k hk => ?_⟩, JD_u N _ (by unfold jR; omega)⟩
  · rw [aw_u_j 0 (by decide)]; exact h1
  · rw [aw_u_j 0 (by decide)]; exact h2
  · rw [aw_u_j 0 (by decide)]; exact h3
  · rw [aw_u_j 0 (by decide)]; exact h4
  · rw [aw_u_s]; rfl
  · rw [aw_u_j 0 (by decide)]; exact h6
  · rw [aw_u_j 0 (by decide)]; exact h7
  · rw [aw_u_j 0 (by decide)]; exact h8
  · rw [aw_u_o _ (by decide)]; exact h9 k hk
-- operators of the levels
def opL : Nat → Int32 → Prop
  | 0, x => x = 124
  | 1, x => x = 38
  | 2, x => x = 60 ∨ x = 61 ∨ x = 62
  | 3, x => x = 43 ∨ x = 45
  | _ + 4, x => x = 42 ∨ x = 47 ∨ x = 37
theorem l5 {l : Nat} (h : l < 5) : l = 0 ∨ l = 1 ∨ l = 2 ∨ l = 3 ∨ l = 4 := by omega
theorem opL_neg {l : Nat} (hl : l < 5) {x : Int32} (h : opL l x) : ¬ (-3 : Int32) ≤ -x ∧ ¬ -x = -33 ∧ ¬ x = -1 := by
  rcases l5 hl with rfl | rfl | rfl | rfl | rfl
  · obtain rfl : x = 124 := h; decide
  · obtain rfl : x = 38 := h; decide
  · rcases (show x = 60 ∨ x = 61 ∨ x = 62 from h) with rfl | rfl | rfl <;> decide
  · rcases (show x = 43 ∨ x = 45 from h) with rfl | rfl <;> decide
  · rcases (show x = 42 ∨ x = 47 ∨ x = 37 from h) with rfl | rfl | rfl <;> decide
theorem opY {l : Nat} (hl : l < 5) {x : Int32} {M : aw_M} (h : opL l x) (e : fc_Te_here M = some (x, M)) : fc_Te_operatorIsOf (nI l) M = some (1, M) := by
  unfold fc_Te_operatorIsOf
  rw [e, bi_n]
  rcases l5 hl with rfl | rfl | rfl | rfl | rfl
  · obtain rfl : x = 124 := h; rfl
  · obtain rfl : x = 38 := h; rfl
  · rcases (show x = 60 ∨ x = 61 ∨ x = 62 from h) with rfl | rfl | rfl <;> rfl
  · rcases (show x = 43 ∨ x = 45 from h) with rfl | rfl <;> rfl
  · rcases (show x = 42 ∨ x = 47 ∨ x = 37 from h) with rfl | rfl | rfl <;> rfl
theorem opN {l : Nat} (hl : l < 5) {x : Int32} {M : aw_M} (h : ¬ opL l x) (e : fc_Te_here M = some (x, M)) : fc_Te_operatorIsOf (nI l) M = some (0, M) := by
  have key : ∀ k, k < 5 → nI l = nI k → l = k := fun k hk q => (nI_eq (by omega) (by omega)).mp q
  unfold fc_Te_operatorIsOf
  rw [e, bi_n]
  by_cases c1 : x = 37
  · rw [if_pos c1, if_neg (fun q => h (by rw [key 4 (by omega) q]; exact Or.inr (Or.inr c1)))]
  rw [if_neg c1]
  by_cases c2 : x = 38
  · rw [if_pos c2, if_neg (fun q => h (by rw [key 1 (by omega) q]; exact c2))]
  rw [if_neg c2]
  by_cases c3 : x = 42
  · rw [if_pos c3, if_neg (fun q => h (by rw [key 4 (by omega) q]; exact Or.inl c3))]
  rw [if_neg c3]
  by_cases c4 : x = 43
  · rw [if_pos c4, if_neg (fun q => h (by rw [key 3 (by omega) q]; exact Or.inl c4))]
  rw [if_neg c4]
  by_cases c5 : x = 45
  · rw [if_pos c5, if_neg (fun q => h (by rw [key 3 (by omega) q]; exact Or.inr c5))]
  rw [if_neg c5]
  by_cases c6 : x = 47
  · rw [if_pos c6, if_neg (fun q => h (by rw [key 4 (by omega) q]; exact Or.inr (Or.inl c6)))]
  rw [if_neg c6]
  by_cases c7 : x = 60
  · rw [if_pos c7, if_neg (fun q => h (by rw [key 2 (by omega) q]; exact Or.inl c7))]
  rw [if_neg c7]
  by_cases c8 : x = 61
  · rw [if_pos c8, if_neg (fun q => h (by rw [key 2 (by omega) q]; exact Or.inr (Or.inl c8)))]
  rw [if_neg c8]
  by_cases c9 : x = 62
  · rw [if_pos c9, if_neg (fun q => h (by rw [key 2 (by omega) q]; exact Or.inr (Or.inr c9)))]
  rw [if_neg c9]
  by_cases c10 : x = 124
  · rw [if_pos c10, if_neg (fun q => h (by rw [key 0 (by omega) q]; exact c10))]
  rw [if_neg c10]
/-- what a piece read at both owes -/
def PO (u e : Nat) (tx : Nat → Int32) (p s len : Nat) (M : aw_M) (mo : aw_M → Option (Int32 × aw_M)) (g s' len' : Nat) (f : F3) (M' : aw_M) : Prop :=
  g ≤ 1 ∧ RS u e tx s' len' M' ∧ KR M M' ∧ (s ≤ s' ∧ len' + s ≤ len + s' ∧ len ≤ len') ∧ (∀ k, k < len → M' 54 k = M 54 k) ∧ (g = 1 → s < s' ∧ Rn (M' 54) len len' f) ∧ ∀ a b c N, NS u e tx p a b c s 1 N → ∃ v N', mo N = some (v, N') ∧ JD N N' ∧ NS u e tx p a b c s' g N' ∧ (g = 1 → v = f a b c)
def PP (u e : Nat) (tx : Nat → Int32) (p : Nat) (cl mo : aw_M → Option (Int32 × aw_M)) : Prop :=
  ∀ (s len : Nat) (M : aw_M), RS u e tx s len M → len ≤ s → ∃ (g s' len' : Nat) (f : F3) (M' : aw_M), cl M = some (nI g, M') ∧ PO u e tx p s len M mo g s' len' f M'
theorem g01 {g : Nat} (h : g ≤ 1) : g = 0 ∨ g = 1 := by omega
theorem loop_b {u e : Nat} {tx : Nat → Int32} {p l : Nat} (hl : l < 5) (hl2 : l ≠ 2) {gl : Int32 → Int32 → aw_M → Option (Int32 × aw_M)} {gs : Int32 → aw_M → Option (Int32 × aw_M)} {ms : aw_M → Option (Int32 × aw_M)} (hsub : PP u e tx p (gl (nI (l + 1)) (nI p)) ms) {RL : Nat → Int32 → aw_M → Option (Int32 × aw_M)}
    (hR0 : ∀ n v N, N 0 14 = 0 → RL (n + 1) v N = some (v, N)) (hR1 : ∀ n v N a b c s, s ≤ e → NS u e tx p a b c s 1 N → ¬ opL l (hb e tx s) → RL (n + 1) v N = some (v, N))
    (hR2 : ∀ n v N a b c s, s ≤ e → NS u e tx p a b c s 1 N → opL l (hb e tx s) → RL (n + 1) v N = aw_bi (ms (aw_u N 0 8 (N 0 8 + 1))) fun w N1 => RL n (jn (hb e tx s) v w) N1) :
    ∀ (d n i q s len l0 : Nat) (f : F3) (M : aw_M), e - s ≤ d → d < n → RS u e tx s len M → len ≤ s → Rn (M 54) l0 len f → i ≤ s → (q = 1 ∧ opL l (hb e tx s) ∨ q = 0 ∧ ¬ opL l (hb e tx s)) → ∃ (g s' len' : Nat) (f' : F3) (M' : aw_M), fc_Te_readLevel_L33 gl gs n (nI l) (nI p) (nI q) (nI i) M = some (nI g, M') ∧ g ≤ 1 ∧ RS u e tx s' len' M' ∧ KR M M' ∧ (s ≤ s' ∧ len' + s ≤ len + s' ∧ len ≤ len') ∧ (∀ k, k < len → M' 54 k = M 54 k) ∧ (g = 1 → Rn (M' 54) l0 len' f') ∧ ∀ n2, d + 1 < n2 → ∀ a b c N, NS u e tx p a b c s 1 N → ∃ v N', RL n2 (f a b c) N = some (v, N') ∧ JD N N' ∧ NS u e tx p a b c s' g N' ∧ (g = 1 → v = f' a b c) := by
  intro d
  induction d with
  | zero =>
    intro n i q s len l0 f M hd hn rs hls rn hi hq
    obtain ⟨n, rfl⟩ : ∃ g, n = g + 1 := ⟨n - 1, by omega⟩
    have he : s ≤ e := rs.2.2.1
    have no : ¬ opL l (hb e tx s) := fun h => by
      have := (opL_neg hl h).2.2
      unfold hb at this
      rw [if_neg (by omega)] at this
      exact this rfl
    rcases hq with ⟨-, h⟩ | ⟨rfl, -⟩
    · exact absurd h no
    refine ⟨1, s, len, f, M, ?_, by omega, rs, KR.rf M, ⟨by omega, by omega, by omega⟩, fun _ _ => rfl, fun _ => rn, fun n2 hn2 a b c N ns => ?_⟩
    · rw [fc_Te_readLevel_L33_s, if_pos nI_0]
      exact ite_self _
    · obtain ⟨n2, rfl⟩ : ∃ g, n2 = g + 1 := ⟨n2 - 1, by omega⟩
      exact ⟨_, N, hR1 n2 _ N a b c s he ns no, JD.rf N, ns, fun _ => rfl⟩
  | succ d ih =>
    intro n i q s len l0 f M hd hn rs hls rn hi hq
    obtain ⟨n, rfl⟩ : ∃ g, n = g + 1 := ⟨n - 1, by omega⟩
    have he : s ≤ e := rs.2.2.1
    have he5 : e ≤ 50 := rs.2.2.2
    rcases hq with ⟨rfl, op⟩ | ⟨rfl, no⟩
    case inr =>
      refine ⟨1, s, len, f, M, ?_, by omega, rs, KR.rf M, ⟨by omega, by omega, by omega⟩, fun _ _ => rfl, fun _ => rn, fun n2 hn2 a b c N ns => ?_⟩
      · rw [fc_Te_readLevel_L33_s, if_pos nI_0]
        exact ite_self _
      · obtain ⟨n2, rfl⟩ : ∃ g, n2 = g + 1 := ⟨n2 - 1, by omega⟩
        exact ⟨_, N, hR1 n2 _ N a b c s he ns no, JD.rf N, ns, fun _ => rfl⟩
    obtain ⟨o1, o2, o3⟩ := opL_neg hl op
    have hse : s < e := by
      by_cases c : s < e
      · exact c
      · exfalso; unfold hb at o3; rw [if_neg c] at o3; exact o3 rfl
    obtain ⟨a1, a2, a3⟩ := adv_c rs hse
    obtain ⟨g1, s1, len1, f1, M1, b1, b0, b2, b3, ⟨b4, b5, b6⟩, b7, b8, b9⟩ := hsub (s + 1) len _ a1 (by omega)
    have k1 := a2.tr b3
    have st1 : ∀ k, k < len → M1 54 k = M 54 k := fun k hk => by rw [b7 k hk, a3]
    rcases g01 b0 with rfl | rfl
    · refine ⟨0, s1, len1, f, M1, ?_, by omega, b2, k1, ⟨by omega, by omega, by omega⟩, st1, fun h => by omega, fun n2 hn2 a b c N ns => ?_⟩
      · rw [fc_Te_readLevel_L33_s]
        simp only [if_neg (show ¬ (50 : Int32) ≤ nI i from nI_ge (b := 50) (by omega) (by omega)), if_neg (show ¬ nI 1 = 0 by decide), here_c rs, bi_n, nI_1, b1, if_pos nI_0]
        rfl
      · obtain ⟨n2, rfl⟩ : ∃ g, n2 = g + 2 := ⟨n2 - 2, by omega⟩
        obtain ⟨n3, n3j⟩ := adv_m ns
        obtain ⟨w, N1, m1, m2, m3, -⟩ := b9 a b c _ n3
        refine ⟨jn (hb e tx s) (f a b c) w, N1, ?_, n3j.tr m2, m3, fun h => by omega⟩
        rw [hR2 (n2 + 1) _ N a b c s he ns op, m1, bi_n, hR0 n2 _ N1 m3.1.2.2.2.2]
    · obtain ⟨b8a, b8b⟩ := b8 rfl
      have hs1 : s1 ≤ e := b2.2.2.1
      obtain ⟨M2, c1, c2, c3, c4, c5⟩ := add_c b2 (show len1 < 50 by omega) (-(hb e tx s))
      have R2 : Rn (M2 54) l0 (len1 + 1) (fun a b c => jn (hb e tx s) (f a b c) (f1 a b c)) := by
        have hll := rn.1
        have hll1 := b8b.1
        refine Rn_bin (rn.cg (fun k h1 h2 => ?_)) (b8b.cg (fun k h1 h2 => c5 k (by omega))) c4 o1 o2
        rw [c5 k (by omega), st1 k h2]
      have hll1 := b8b.1
      obtain ⟨q', hq'⟩ : ∃ q', q' = 1 ∧ opL l (hb e tx s1) ∨ q' = 0 ∧ ¬ opL l (hb e tx s1) := by
        rcases Classical.em (opL l (hb e tx s1)) with h | h
        · exact ⟨1, Or.inl ⟨rfl, h⟩⟩
        · exact ⟨0, Or.inr ⟨rfl, h⟩⟩
      obtain ⟨g', s', len', f', M', z1, z2, z3, z4, ⟨z5, z6, z7⟩, z8, z9, z10⟩ := ih n (i + 1) q' s1 (len1 + 1) l0 _ M2 (by omega) (by omega) c2 (by omega) R2 (by omega) hq'
      refine ⟨g', s', len', f', M', ?_, z2, z3, (k1.tr c3).tr z4, ⟨by omega, by omega, by omega⟩, fun k hk => ?_, z9, fun n2 hn2 a b c N ns => ?_⟩
      · rw [fc_Te_readLevel_L33_s]
        have l2 : ¬ nI l = 2 := fun h => hl2 ((nI_eq (b := 2) (by omega) (by omega)).mp h)
        simp only [if_neg (show ¬ (50 : Int32) ≤ nI i from nI_ge (b := 50) (by omega) (by omega)), if_neg (show ¬ nI 1 = 0 by decide), here_c rs, bi_n, nI_1, b1, c1, bv_n, if_neg l2]
        rcases hq' with ⟨rfl, h⟩ | ⟨rfl, h⟩
        · rw [opY hl h (here_c c2), bi_n, if_neg (by decide)]; exact z1
        · rw [opN hl h (here_c c2), bi_n, if_pos rfl]; exact z1
      · rw [z8 k (by omega), c5 k (by omega), st1 k hk]
      · obtain ⟨n2, rfl⟩ : ∃ g, n2 = g + 1 := ⟨n2 - 1, by omega⟩
        obtain ⟨n3, n3j⟩ := adv_m ns
        obtain ⟨w, N1, m1, m2, m3, m4⟩ := b9 a b c _ n3
        obtain ⟨v, N2, y1, y2, y3, y4⟩ := z10 n2 (by omega) a b c N1 m3
        refine ⟨v, N2, ?_, (n3j.tr m2).tr y2, y3, y4⟩
        rw [hR2 n2 _ N a b c s he ns op, m1, bi_n, m4 rfl]
        exact y1
/-- a level but that of comparing -/
theorem level_b {u e : Nat} {tx : Nat → Int32} {p l : Nat} (hl : l < 5) (hl2 : l ≠ 2) {n : Nat} {ms : aw_M → Option (Int32 × aw_M)} (hsub : PP u e tx p (fun M => FC_rd n 0 (nI (l + 1)) (nI p) M) ms) {RL : Nat → Int32 → aw_M → Option (Int32 × aw_M)}
    (hR0 : ∀ n v N, N 0 14 = 0 → RL (n + 1) v N = some (v, N)) (hR1 : ∀ n v N a b c s, s ≤ e → NS u e tx p a b c s 1 N → ¬ opL l (hb e tx s) → RL (n + 1) v N = some (v, N))
    (hR2 : ∀ n v N a b c s, s ≤ e → NS u e tx p a b c s 1 N → opL l (hb e tx s) → RL (n + 1) v N = aw_bi (ms (aw_u N 0 8 (N 0 8 + 1))) fun w N1 => RL n (jn (hb e tx s) v w) N1) :
    PP u e tx p (fun M => FC_rd (n + 1) 0 (nI l) (nI p) M) (fun N => aw_bi (ms N) fun r N1 => RL 2000 r N1) := by
  intro s len M rs hls
  have he5 : e ≤ 50 := rs.2.2.2
  obtain ⟨g1, s1, len1, f1, M1, b1, b0, b2, b3, ⟨b4, b5, b6⟩, b7, b8, b9⟩ := hsub s len M rs hls
  have b1' : FC_rd n 0 (nI (l + 1)) (nI p) M = some (nI g1, M1) := b1
  have U : ∀ M, FC_rd (n + 1) 0 (nI l) (nI p) M = aw_bi (FC_rd n 0 (nI (l + 1)) (nI p) M) fun r_3 M_4 => (if r_3 = 0 then some (0, M_4) else aw_bi (fc_Te_operatorIsOf (nI l) M_4) fun r_7 M_8 => fc_Te_readLevel_L33 (fun a b M => FC_rd n 0 a b M) (fun a M => FC_rd n 1 a 0 M) 2000 (nI l) (nI p) r_7 0 M_8) := fun M => by
    show fc_Te_readLevel (fun a b M => FC_rd n 0 a b M) (fun a M => FC_rd n 1 a 0 M) (nI l) (nI p) M = _
    unfold fc_Te_readLevel
    rw [if_pos (show nI l < 5 from nI_lt (b := 5) (by omega) (by omega)), nI_1]
  rcases g01 b0 with rfl | rfl
  · refine ⟨0, s1, len1, f1, M1, ?_, by omega, b2, b3, ⟨b4, b5, b6⟩, b7, fun h => by omega, fun a b c N ns => ?_⟩
    · show FC_rd (n + 1) 0 (nI l) (nI p) M = _
      rw [U, b1', bi_n, if_pos nI_0]; rfl
    · obtain ⟨w, N1, m1, m2, m3, m4⟩ := b9 a b c N ns
      refine ⟨w, N1, ?_, m2, m3, m4⟩
      show (aw_bi (ms N) fun r N1 => RL 2000 r N1) = _
      rw [m1, bi_n, hR0 1999 w N1 m3.1.2.2.2.2]
  · obtain ⟨b8a, b8b⟩ := b8 rfl
    obtain ⟨q', hq'⟩ : ∃ q', q' = 1 ∧ opL l (hb e tx s1) ∨ q' = 0 ∧ ¬ opL l (hb e tx s1) := by
      rcases Classical.em (opL l (hb e tx s1)) with h | h
      · exact ⟨1, Or.inl ⟨rfl, h⟩⟩
      · exact ⟨0, Or.inr ⟨rfl, h⟩⟩
    have rn1 := b8b.1
    obtain ⟨g', s', len', f', M', z1, z2, z3, z4, ⟨z5, z6, z7⟩, z8, z9, z10⟩ := loop_b (gl := fun a b M => FC_rd n 0 a b M) (gs := fun a M => FC_rd n 1 a 0 M) hl hl2 hsub hR0 hR1 hR2 (e - s1) 2000 0 q' s1 len1 len f1 M1 (by omega) (by omega) b2 (by omega) b8b (by omega) hq'
    refine ⟨g', s', len', f', M', ?_, z2, z3, b3.tr z4, ⟨by omega, by omega, by omega⟩, fun k hk => by rw [z8 k (by omega), b7 k hk], fun h => ⟨by omega, z9 h⟩, fun a b c N ns => ?_⟩
    · show FC_rd (n + 1) 0 (nI l) (nI p) M = _
      rw [U, b1', bi_n, if_neg (show ¬ nI 1 = 0 by decide)]
      rw [nI_0] at z1
      rcases hq' with ⟨rfl, h⟩ | ⟨rfl, h⟩
      · rw [opY hl h (here_c b2), bi_n]; exact z1
      · rw [opN hl h (here_c b2), bi_n]; exact z1
    · obtain ⟨w, N1, m1, m2, m3, m4⟩ := b9 a b c N ns
      obtain ⟨v, N2, y1, y2, y3, y4⟩ := z10 2000 (by omega) a b c N1 m3
      refine ⟨v, N2, ?_, m2.tr y2, y3, y4⟩
      show (aw_bi (ms N) fun r N1 => RL 2000 r N1) = _
      rw [m1, bi_n, m4 rfl]; exact y1
/-- the level of comparing -/
theorem level2_b {u e : Nat} {tx : Nat → Int32} {p : Nat} {n : Nat} {ms : aw_M → Option (Int32 × aw_M)} (hsub : PP u e tx p (fun M => FC_rd n 0 (nI 3) (nI p) M) ms) {RL : Int32 → aw_M → Option (Int32 × aw_M)}
    (hR0 : ∀ v N, N 0 14 = 0 → RL v N = some (v, N)) (hR1 : ∀ v N a b c s, s ≤ e → NS u e tx p a b c s 1 N → ¬ opL 2 (hb e tx s) → RL v N = some (v, N))
    (hR2 : ∀ v N a b c s, s ≤ e → NS u e tx p a b c s 1 N → opL 2 (hb e tx s) → RL v N = aw_bi (ms (aw_u N 0 8 (N 0 8 + 1))) fun w N1 => some (jn (hb e tx s) v w, N1)) :
    PP u e tx p (fun M => FC_rd (n + 1) 0 (nI 2) (nI p) M) (fun N => aw_bi (ms N) fun r N1 => RL r N1) := by
  intro s len M rs hls
  have he5 : e ≤ 50 := rs.2.2.2
  obtain ⟨g1, s1, len1, f1, M1, b1, b0, b2, b3, ⟨b4, b5, b6⟩, b7, b8, b9⟩ := hsub s len M rs hls
  have b1' : FC_rd n 0 (nI 3) (nI p) M = some (nI g1, M1) := b1
  have U : ∀ M, FC_rd (n + 1) 0 (nI 2) (nI p) M = aw_bi (FC_rd n 0 (nI 3) (nI p) M) fun r_3 M_4 => (if r_3 = 0 then some (0, M_4) else aw_bi (fc_Te_operatorIsOf (nI 2) M_4) fun r_7 M_8 => fc_Te_readLevel_L33 (fun a b M => FC_rd n 0 a b M) (fun a M => FC_rd n 1 a 0 M) (1998 + 1 + 1) (nI 2) (nI p) r_7 0 M_8) := fun M => by
    show fc_Te_readLevel (fun a b M => FC_rd n 0 a b M) (fun a M => FC_rd n 1 a 0 M) (nI 2) (nI p) M = _
    unfold fc_Te_readLevel
    rw [if_pos (show nI 2 < 5 by decide), nI_1]
  rcases g01 b0 with rfl | rfl
  · refine ⟨0, s1, len1, f1, M1, ?_, by omega, b2, b3, ⟨b4, b5, b6⟩, b7, fun h => by omega, fun a b c N ns => ?_⟩
    · show FC_rd (n + 1) 0 (nI 2) (nI p) M = _
      rw [U, b1', bi_n, if_pos nI_0]; rfl
    · obtain ⟨w, N1, m1, m2, m3, m4⟩ := b9 a b c N ns
      refine ⟨w, N1, ?_, m2, m3, m4⟩
      show (aw_bi (ms N) fun r N1 => RL r N1) = _
      rw [m1, bi_n, hR0 w N1 m3.1.2.2.2.2]
  obtain ⟨b8a, b8b⟩ := b8 rfl
  have rn1 := b8b.1
  have hs1 : s1 ≤ e := b2.2.2.1
  rcases (Classical.em (opL 2 (hb e tx s1))).symm with no | op
  · refine ⟨1, s1, len1, f1, M1, ?_, by omega, b2, b3, ⟨b4, b5, b6⟩, b7, b8, fun a b c N ns => ?_⟩
    · show FC_rd (n + 1) 0 (nI 2) (nI p) M = _
      rw [U, b1', bi_n, if_neg (show ¬ nI 1 = 0 by decide), opN (by omega) no (here_c b2), bi_n, fc_Te_readLevel_L33_s, if_neg (by decide), if_pos rfl]; rfl
    · obtain ⟨w, N1, m1, m2, m3, m4⟩ := b9 a b c N ns
      refine ⟨w, N1, ?_, m2, m3, m4⟩
      show (aw_bi (ms N) fun r N1 => RL r N1) = _
      rw [m1, bi_n, hR1 w N1 a b c s1 hs1 m3 no]
  obtain ⟨o1, o2, o3⟩ := opL_neg (l := 2) (by omega) op
  have hse : s1 < e := by
    by_cases c : s1 < e
    · exact c
    · exfalso; unfold hb at o3; rw [if_neg c] at o3; exact o3 rfl
  obtain ⟨a1, a2, a3⟩ := adv_c b2 hse
  obtain ⟨g2, s2, len2, f2, M2, d1, d0, d2, d3, ⟨d4, d5, d6⟩, d7, d8, d9⟩ := hsub (s1 + 1) len1 _ a1 (by omega)
  have d1' : FC_rd n 0 (nI 3) (nI p) (aw_u M1 53 3 (M1 53 3 + 1)) = some (nI g2, M2) := d1
  have st2 : ∀ k, k < len1 → M2 54 k = M1 54 k := fun k hk => by rw [d7 k hk, a3]
  have k2 := (b3.tr a2).tr d3
  have W : ∀ M3, (fc_Te_readLevel_L33 (fun a b M => FC_rd n 0 a b M) (fun a M => FC_rd n 1 a 0 M) (1998 + 1) (nI 2) (nI p) 0 (0 + 1) M3) = some (1, M3) := fun M3 => by
    rw [fc_Te_readLevel_L33_s, if_neg (by decide), if_pos rfl]
  have V : fc_Te_readLevel_L33 (fun a b M => FC_rd n 0 a b M) (fun a M => FC_rd n 1 a 0 M) (1998 + 1 + 1) (nI 2) (nI p) 1 0 M1 = (if nI g2 = 0 then some (0, M2) else aw_bv (fc_Te_add (-(hb e tx s1)) M2) fun M_23 => some (1, M_23)) := by
    rw [fc_Te_readLevel_L33_s]
    simp only [if_neg (show ¬ (50 : Int32) ≤ 0 by decide), if_neg (show ¬ (1 : Int32) = 0 by decide), here_c b2, bi_n, nI_1, d1', W, if_pos (show nI 2 = 2 from rfl)]
  rcases g01 d0 with rfl | rfl
  · refine ⟨0, s2, len2, f1, M2, ?_, by omega, d2, k2, ⟨by omega, by omega, by omega⟩, fun k hk => by rw [st2 k (by omega), b7 k hk], fun h => by omega, fun a b c N ns => ?_⟩
    · show FC_rd (n + 1) 0 (nI 2) (nI p) M = _
      rw [U, b1', bi_n, if_neg (show ¬ nI 1 = 0 by decide), opY (by omega) op (here_c b2), bi_n, V, if_pos nI_0]; rfl
    · obtain ⟨w, N1, m1, m2, m3, m4⟩ := b9 a b c N ns
      obtain ⟨n3, n3j⟩ := adv_m m3
      obtain ⟨w2, N2, y1, y2, y3, -⟩ := d9 a b c _ n3
      refine ⟨jn (hb e tx s1) w w2, N2, ?_, (m2.tr n3j).tr y2, y3, fun h => by omega⟩
      show (aw_bi (ms N) fun r N1 => RL r N1) = _
      rw [m1, bi_n, hR2 w N1 a b c s1 hs1 m3 op, y1, bi_n]
  · obtain ⟨d8a, d8b⟩ := d8 rfl
    have rn2 := d8b.1
    have hs2 : s2 ≤ e := d2.2.2.1
    obtain ⟨M3, c1, c2, c3, c4, c5⟩ := add_c d2 (show len2 < 50 by omega) (-(hb e tx s1))
    refine ⟨1, s2, len2 + 1, fun a b c => jn (hb e tx s1) (f1 a b c) (f2 a b c), M3, ?_, by omega, c2, k2.tr c3, ⟨by omega, by omega, by omega⟩, fun k hk => by rw [c5 k (by omega), st2 k (by omega), b7 k hk], fun _ => ⟨by omega, ?_⟩, fun a b c N ns => ?_⟩
    · show FC_rd (n + 1) 0 (nI 2) (nI p) M = _
      rw [U, b1', bi_n, if_neg (show ¬ nI 1 = 0 by decide), opY (by omega) op (here_c b2), bi_n, V, if_neg (show ¬ nI 1 = 0 by decide), c1, bv_n]; rfl
    · refine Rn_bin (b8b.cg (fun k h1 h2 => ?_)) (d8b.cg (fun k h1 h2 => c5 k (by omega))) c4 o1 o2
      rw [c5 k (by omega), st2 k h2]
    · obtain ⟨w, N1, m1, m2, m3, m4⟩ := b9 a b c N ns
      obtain ⟨n3, n3j⟩ := adv_m m3
      obtain ⟨w2, N2, y1, y2, y3, y4⟩ := d9 a b c _ n3
      refine ⟨_, N2, ?_, (m2.tr n3j).tr y2, y3, fun h => rfl⟩
      show (aw_bi (ms N) fun r N1 => RL r N1) = _
      rw [m1, bi_n, hR2 w N1 a b c s1 hs1 m3 op, y1, bi_n, m4 rfl, y4 rfl]
