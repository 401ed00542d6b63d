theorem bi_cg {β : Type} {x : Option (Int32 × aw_M)} {k k' : Int32 → aw_M → Option β} (h : ∀ w N, k w N = k' w N) : aw_bi x k = aw_bi x k' := congrArg (aw_bi x) (funext fun w => funext fun N => h w N)
theorem good_n {u e p s : Nat} {tx : Nat → Int32} {a b c : Int32} {N : aw_M} (h : NS u e tx p a b c s 1 N) : ¬ N 0 14 = 0 := by
  rw [h.1.2.2.2.2]; decide
theorem level5_b {u e : Nat} {tx : Nat → Int32} {p n : Nat} {ms : aw_M → Option (Int32 × aw_M)} (hsub : PP u e tx p (fun M => FC_rd n 1 (nI p) 0 M) ms) : PP u e tx p (fun M => FC_rd (n + 1) 0 (nI 5) (nI p) M) ms := by
  intro s len M rs hls
  obtain ⟨g1, s1, len1, f1, M1, b1, b2⟩ := hsub s len M rs hls
  have b1' : FC_rd n 1 (nI p) 0 M = some (nI g1, M1) := b1
  refine ⟨g1, s1, len1, f1, M1, ?_, b2⟩
  show fc_Te_readLevel (fun a b M => FC_rd n 0 a b M) (fun a M => FC_rd n 1 a 0 M) (nI 5) (nI p) M = _
  unfold fc_Te_readLevel
  rw [if_neg (by decide)]
  show (aw_bi (FC_rd n 1 (nI p) 0 M) fun r_10 M_11 => if ¬ (r_10 = 0 ∨ r_10 = 1) then none else some (r_10, M_11)) = _
  rw [b1', bi_n]
  rcases g01 b2.1 with rfl | rfl
  · rw [if_neg (by decide)]
  · rw [if_neg (by decide)]
theorem prod_b {u e : Nat} {tx : Nat → Int32} {p n : Nat} (hu : u < 2) (he : e ≤ 50) {G : aw_M → Option (Int32 × aw_M)} (hsub : PP u e tx p (fun M => FC_rd n 0 (nI 5) (nI p) M) G) : PP u e tx p (fun M => FC_rd (n + 1) 0 (nI 4) (nI p) M) (fm_product G) := by
  refine level_b (l := 4) (by omega) (by omega) hsub (RL := fm_product_L5 G) (fun n v N h => ?_) (fun n v N a b c s hs ns no => ?_) (fun n v N a b c s hs ns op => ?_)
  · rw [fm_product_L5_s, if_pos h]
  · have n1 : ¬ hb e tx s = 42 := fun h => no (Or.inl h)
    have n2 : ¬ hb e tx s = 47 := fun h => no (Or.inr (Or.inl h))
    have n3 : ¬ hb e tx s = 37 := fun h => no (Or.inr (Or.inr h))
    rw [fm_product_L5_s]
    simp only [if_neg (good_n ns), byte_m ns hu he hs, bi_n, if_neg n1, if_neg n2, if_neg n3]
  · have J : ∀ K, fm_product_J51 G K v N = aw_bi (G (aw_u N 0 8 (N 0 8 + 1))) fun w N1 => K (jn (hb e tx s) v w) N1 := by
      intro K
      unfold fm_product_J51
      rw [byte_m ns hu he hs, bi_n]
      refine bi_cg fun w N1 => ?_
      rcases (show hb e tx s = 42 ∨ hb e tx s = 47 ∨ hb e tx s = 37 from op) with h | h | h
      · rw [h]; rfl
      · rw [h]
        by_cases w0 : w = 0
        · subst w0; rfl
        · rw [show jn 47 v w = if w = 0 then 0 else v / w from rfl, if_neg w0, if_neg (by decide), if_neg w0, if_pos rfl, if_neg w0]
      · rw [h]
        by_cases w0 : w = 0
        · subst w0; rfl
        · rw [show jn 37 v w = if w = 0 then 0 else aw_rem v w from rfl, if_neg w0, if_neg (by decide), if_neg w0, if_neg (by decide), if_neg w0, if_neg w0]
    rw [fm_product_L5_s]
    simp only [if_neg (good_n ns), byte_m ns hu he hs, bi_n, J]
    rcases (show hb e tx s = 42 ∨ hb e tx s = 47 ∨ hb e tx s = 37 from op) with h | h | h
    · rw [if_pos h]
    · rw [if_neg (show ¬ hb e tx s = 42 by rw [h]; decide), if_pos h]
    · rw [if_neg (show ¬ hb e tx s = 42 by rw [h]; decide), if_neg (show ¬ hb e tx s = 47 by rw [h]; decide), if_pos h]
theorem sum_b {u e : Nat} {tx : Nat → Int32} {p n : Nat} (hu : u < 2) (he : e ≤ 50) {G : aw_M → Option (Int32 × aw_M)} (hsub : PP u e tx p (fun M => FC_rd n 0 (nI 4) (nI p) M) (fm_product G)) : PP u e tx p (fun M => FC_rd (n + 1) 0 (nI 3) (nI p) M) (fm_sum G) := by
  refine level_b (l := 3) (by omega) (by omega) hsub (RL := fm_sum_L5 G) (fun n v N h => ?_) (fun n v N a b c s hs ns no => ?_) (fun n v N a b c s hs ns op => ?_)
  · rw [fm_sum_L5_s, if_pos h]
  · have n1 : ¬ hb e tx s = 43 := fun h => no (Or.inl h)
    have n2 : ¬ hb e tx s = 45 := fun h => no (Or.inr h)
    rw [fm_sum_L5_s]
    simp only [if_neg (good_n ns), byte_m ns hu he hs, bi_n, if_neg n1, if_neg n2]
  · have J : ∀ K, fm_sum_J38 G K v N = aw_bi (fm_product G (aw_u N 0 8 (N 0 8 + 1))) fun w N1 => K (jn (hb e tx s) v w) N1 := by
      intro K
      unfold fm_sum_J38
      rw [byte_m ns hu he hs, bi_n]
      refine bi_cg fun w N1 => ?_
      rcases (show hb e tx s = 43 ∨ hb e tx s = 45 from op) with h | h
      · rw [h]; rfl
      · rw [h]; rfl
    rw [fm_sum_L5_s]
    simp only [if_neg (good_n ns), byte_m ns hu he hs, bi_n, J]
    rcases (show hb e tx s = 43 ∨ hb e tx s = 45 from op) with h | h
    · rw [if_pos h]
    · rw [if_neg (show ¬ hb e tx s = 43 by rw [h]; decide), if_pos h]
theorem comp_b {u e : Nat} {tx : Nat → Int32} {p n : Nat} (hu : u < 2) (he : e ≤ 50) {G : aw_M → Option (Int32 × aw_M)} (hsub : PP u e tx p (fun M => FC_rd n 0 (nI 3) (nI p) M) (fm_sum G)) : PP u e tx p (fun M => FC_rd (n + 1) 0 (nI 2) (nI p) M) (fm_compared G) := by
  have m1 : ¬ (-1 : Int32) = 60 := by decide
  have m2 : ¬ (-1 : Int32) = 61 := by decide
  have m3 : ¬ (-1 : Int32) = 62 := by decide
  refine level2_b hsub (RL := fun r_2 M_3 => if (M_3 0 14) = 0 then (if ((-1) : Int32) = 60 then fm_compared_J45 G r_2 (-1) M_3 else (if ((-1) : Int32) = 61 then fm_compared_J45 G r_2 (-1) M_3 else (if ((-1) : Int32) = 62 then fm_compared_J45 G r_2 (-1) M_3 else some (r_2, M_3)))) else (aw_bi (fm_byteAt (M_3 0 8) M_3) fun r_9 M_10 => (if r_9 = 60 then fm_compared_J45 G r_2 r_9 M_10 else (if r_9 = 61 then fm_compared_J45 G r_2 r_9 M_10 else (if r_9 = 62 then fm_compared_J45 G r_2 r_9 M_10 else some (r_2, M_10)))))) (fun v N h => ?_) (fun v N a b c s hs ns no => ?_) (fun v N a b c s hs ns op => ?_)
  · simp only [if_pos h, if_neg m1, if_neg m2, if_neg m3]
  · have n1 : ¬ hb e tx s = 60 := fun h => no (Or.inl h)
    have n2 : ¬ hb e tx s = 61 := fun h => no (Or.inr (Or.inl h))
    have n3 : ¬ hb e tx s = 62 := fun h => no (Or.inr (Or.inr h))
    simp only [if_neg (good_n ns), byte_m ns hu he hs, bi_n, if_neg n1, if_neg n2, if_neg n3]
  · have J : fm_compared_J45 G v (hb e tx s) N = aw_bi (fm_sum G (aw_u N 0 8 (N 0 8 + 1))) fun w N1 => some (jn (hb e tx s) v w, N1) := by
      unfold fm_compared_J45 fm_compared_J108
      refine bi_cg fun w N1 => ?_
      rcases (show hb e tx s = 60 ∨ hb e tx s = 61 ∨ hb e tx s = 62 from op) with h | h | h
      · rw [h, show jn 60 v w = if w ≤ v then 0 else 1 from rfl, if_pos rfl]
        by_cases q : w ≤ v
        · rw [if_pos q, if_pos q]; rfl
        · rw [if_neg q, if_neg q]; rfl
      · rw [h, show jn 61 v w = if v = w then 1 else 0 from rfl, if_neg (by decide), if_pos rfl]
        by_cases q : v = w
        · rw [if_pos q, if_pos q]; rfl
        · rw [if_neg q, if_neg q]; rfl
      · rw [h, show jn 62 v w = if v ≤ w then 0 else 1 from rfl, if_neg (by decide), if_neg (by decide)]
        by_cases q : v ≤ w
        · rw [if_pos q, if_pos q]; rfl
        · rw [if_neg q, if_neg q]; rfl
    simp only [if_neg (good_n ns), byte_m ns hu he hs, bi_n, J]
    rcases (show hb e tx s = 60 ∨ hb e tx s = 61 ∨ hb e tx s = 62 from op) with h | h | h
    · rw [if_pos h]
    · rw [if_neg (show ¬ hb e tx s = 60 by rw [h]; decide), if_pos h]
    · rw [if_neg (show ¬ hb e tx s = 60 by rw [h]; decide), if_neg (show ¬ hb e tx s = 61 by rw [h]; decide), if_pos h]
theorem both_lb {u e : Nat} {tx : Nat → Int32} {p n : Nat} (hu : u < 2) (he : e ≤ 50) {G : aw_M → Option (Int32 × aw_M)} (hsub : PP u e tx p (fun M => FC_rd n 0 (nI 2) (nI p) M) (fm_compared G)) : PP u e tx p (fun M => FC_rd (n + 1) 0 (nI 1) (nI p) M) (fm_both G) := by
  refine level_b (l := 1) (by omega) (by omega) hsub (RL := fm_both_L5 G) (fun n v N h => ?_) (fun n v N a b c s hs ns no => ?_) (fun n v N a b c s hs ns op => ?_)
  · rw [fm_both_L5_s, if_pos h]
  · have n1 : ¬ hb e tx s = 38 := fun h => no h
    rw [fm_both_L5_s]
    simp only [if_neg (good_n ns), byte_m ns hu he hs, bi_n, if_neg n1]
  · have h : hb e tx s = 38 := op
    rw [fm_both_L5_s]
    simp only [if_neg (good_n ns), byte_m ns hu he hs, bi_n, if_pos h]
    refine bi_cg fun w N1 => ?_
    rw [h, show jn 38 v w = if v = 0 then 0 else if w = 0 then 0 else 1 from rfl]
    by_cases q : v = 0
    · rw [if_pos q, if_pos q]
    · rw [if_neg q, if_neg q]
      by_cases q2 : w = 0
      · rw [if_pos q2, if_pos q2]
      · rw [if_neg q2, if_neg q2]
theorem whole_lb {u e : Nat} {tx : Nat → Int32} {p n : Nat} (hu : u < 2) (he : e ≤ 50) {G : aw_M → Option (Int32 × aw_M)} (hsub : PP u e tx p (fun M => FC_rd n 0 (nI 1) (nI p) M) (fm_both G)) : PP u e tx p (fun M => FC_rd (n + 1) 0 (nI 0) (nI p) M) (fm_whole G) := by
  refine level_b (l := 0) (by omega) (by omega) hsub (RL := fm_whole_L5 G) (fun n v N h => ?_) (fun n v N a b c s hs ns no => ?_) (fun n v N a b c s hs ns op => ?_)
  · rw [fm_whole_L5_s, if_pos h]
  · have n1 : ¬ hb e tx s = 124 := fun h => no h
    rw [fm_whole_L5_s]
    simp only [if_neg (good_n ns), byte_m ns hu he hs, bi_n, if_neg n1]
  · have h : hb e tx s = 124 := op
    rw [fm_whole_L5_s]
    simp only [if_neg (good_n ns), byte_m ns hu he hs, bi_n, if_pos h]
    refine bi_cg fun w N1 => ?_
    rw [h, show jn 124 v w = if v = 0 then (if w = 0 then 0 else 1) else 1 from rfl]
    by_cases q : v = 0
    · rw [if_pos q, if_pos q]
      by_cases q2 : w = 0
      · rw [if_pos q2, if_pos q2]
      · rw [if_neg q2, if_neg q2]
    · rw [if_neg q, if_neg q]
theorem chain_b {u e : Nat} {tx : Nat → Int32} {p n : Nat} (hu : u < 2) (he : e ≤ 50) {G : aw_M → Option (Int32 × aw_M)} (h : PP u e tx p (fun M => FC_rd n 1 (nI p) 0 M) G) : PP u e tx p (fun M => FC_rd (n + 6) 0 (nI 0) (nI p) M) (fm_whole G) :=
  whole_lb hu he (both_lb hu he (comp_b hu he (sum_b hu he (prod_b hu he (level5_b h)))))
-- numbers
theorem dig_m (x : Int32) (M : aw_M) : fm_isDigit x M = some (if 48 ≤ x ∧ x ≤ 57 then 1 else 0, M) := by
  unfold fm_isDigit
  rw [in_m, bi_n]
  by_cases h : 48 ≤ x ∧ x ≤ 57
  · rw [if_pos h, if_neg (by decide)]
  · rw [if_neg h, if_neg (by decide)]
theorem hb_dig {e s : Nat} {tx : Nat → Int32} (h : 48 ≤ hb e tx s ∧ hb e tx s ≤ 57) : s < e := by
  by_cases c : s < e
  · exact c
  · exfalso; unfold hb at h; rw [if_neg c] at h; exact absurd h.1 (by decide)
theorem ten_n {w y : Nat} (hy : 48 ≤ y) : (nI w * 10 + nI y - 48 : Int32) = nI (w * 10 + (y - 48)) := by
  rw [show (nI w * 10 : Int32) = nI (w * 10) from nI_mul w 10, nI_add, show w * 10 + y = (w * 10 + (y - 48)) + 48 by omega, ← nI_add, show nI 48 = 48 from rfl, Int32.add_sub_cancel]
theorem num_b {u e : Nat} {tx : Nat → Int32} (hu : u < 2) : ∀ (d j n w s len : Nat) (M : aw_M), j + d = 4 → d < n → RS u e tx s len M → w < 10 ^ j → ∃ w' s' M', w' < 10000 ∧ fc_Te_readNumber_L4 n (nI w) (nI j) M = (aw_bv (fc_Te_add (nI w') M') fun M_3 => some M_3) ∧ RS u e tx s' len M' ∧ KR M M' ∧ M' 54 = M 54 ∧ s ≤ s' ∧ (0 < d → 48 ≤ hb e tx s ∧ hb e tx s ≤ 57 → s < s') ∧ ∀ n2, d < n2 → ∀ a b c p N, NS u e tx p a b c s 1 N → ∃ N', fm_number_L4 n2 (nI w) (nI j) N = some (nI w', N') ∧ JD N N' ∧ NS u e tx p a b c s' 1 N' := by
  intro d
  induction d with
  | zero =>
    intro j n w s len M h hn rs hw
    obtain ⟨n, rfl⟩ : ∃ g, n = g + 1 := ⟨n - 1, by omega⟩
    obtain rfl : j = 4 := by omega
    refine ⟨w, s, M, by omega, ?_, rs, KR.rf M, rfl, by omega, fun h => by omega, fun n2 hn2 a b c p N ns => ?_⟩
    · rw [fc_Te_readNumber_L4_s, if_pos (by decide)]
    · obtain ⟨n2, rfl⟩ : ∃ g, n2 = g + 1 := ⟨n2 - 1, by omega⟩
      exact ⟨N, by rw [fm_number_L4_s, if_pos (by decide)], JD.rf N, ns⟩
  | succ d ih =>
    intro j n w s len M h hn rs hw
    obtain ⟨n, rfl⟩ : ∃ g, n = g + 1 := ⟨n - 1, by omega⟩
    have he : e ≤ 50 := rs.2.2.2
    have hs : s ≤ e := rs.2.2.1
    have j4 : ¬ (4 : Int32) ≤ nI j := nI_ge (b := 4) (by omega) (by omega)
    have w4 : w < 10000 := by
      rcases (show j = 0 ∨ j = 1 ∨ j = 2 ∨ j = 3 by omega) with rfl | rfl | rfl | rfl <;> omega
    by_cases dg : 48 ≤ hb e tx s ∧ hb e tx s ≤ 57
    · have hse := hb_dig dg
      obtain ⟨a1, a2, a3⟩ := adv_c rs hse
      obtain ⟨y, y1, y2, ey⟩ := rng 48 57 dg
      have dg' : 48 ≤ nI y ∧ nI y ≤ 57 := by rw [← ey]; exact dg
      have hw2 : w * 10 + (y - 48) < 10 ^ (j + 1) := by rw [Nat.pow_succ]; omega
      obtain ⟨w', s', M', z0, z1, z2, z3, z4, z5, z6, z7⟩ := ih (j + 1) n (w * 10 + (y - 48)) (s + 1) len _ (by omega) (by omega) a1 hw2
      refine ⟨w', s', M', z0, ?_, z2, a2.tr z3, z4.trans a3, by omega, fun _ _ => by omega, fun n2 hn2 a b c p N ns => ?_⟩
      · rw [fc_Te_readNumber_L4_s]
        simp only [if_neg j4, here_c rs, bi_n, ey, if_neg (show ¬ nI y < 48 from nI_nlt (b := 48) (by omega) (by omega)), if_neg (show ¬ (57 : Int32) < nI y from nI_nlt (a := 57) (by omega) (by omega)), ten_n y1, nI_1]
        exact z1
      · obtain ⟨n2, rfl⟩ : ∃ g, n2 = g + 1 := ⟨n2 - 1, by omega⟩
        obtain ⟨n3, n3j⟩ := adv_m ns
        obtain ⟨N2, y1', y2', y3'⟩ := z7 n2 (by omega) a b c p _ n3
        refine ⟨N2, ?_, n3j.tr y2', y3'⟩
        rw [fm_number_L4_s]
        simp only [if_neg j4, byte_m ns hu he hs, bi_n, dig_m, ey, if_pos dg', i10, if_false, Int32.mul_comm 10 (nI w), ten_n y1, nI_1]
        exact y1'
    · refine ⟨w, s, M, w4, ?_, rs, KR.rf M, rfl, by omega, fun _ h => absurd h dg, fun n2 hn2 a b c p N ns => ?_⟩
      · rw [fc_Te_readNumber_L4_s]
        simp only [if_neg j4, here_c rs, bi_n]
        by_cases c : hb e tx s < 48
        · rw [if_pos c]
        · rw [if_neg c, if_pos]
          by_cases c2 : 57 < hb e tx s
          · exact c2
          · exfalso; apply dg; rw [lt_i] at c c2; rw [le_i, le_i]; omega
      · obtain ⟨n2, rfl⟩ : ∃ g, n2 = g + 1 := ⟨n2 - 1, by omega⟩
        refine ⟨N, ?_, JD.rf N, ns⟩
        rw [fm_number_L4_s]
        simp only [if_neg j4, byte_m ns hu he hs, bi_n, dig_m, if_neg dg, i00, if_true]
