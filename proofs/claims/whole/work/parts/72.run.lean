-- the steps of a TEXT, run
abbrev F3 : Type := Int32 → Int32 → Int32 → Int32
def jn (op x y : Int32) : Int32 :=
  if op = 38 then (if x = 0 then 0 else if y = 0 then 0 else 1) else if op = 42 then x * y else if op = 43 then x + y else if op = 45 then x - y else if op = 47 then (if y = 0 then 0 else x / y) else if op = 60 then (if y ≤ x then 0 else 1) else if op = 61 then (if x = y then 1 else 0) else if op = 62 then (if x ≤ y then 0 else 1) else if op = 124 then (if x = 0 then (if y = 0 then 0 else 1) else 1) else (if y = 0 then 0 else aw_rem x y)
theorem jn_c (op x y : Int32) (M : aw_M) : fc_La_joined op x y M = some (jn op x y, M) := by
  unfold fc_La_joined jn
  by_cases h1 : op = 38
  · simp only [if_pos h1]
    by_cases a : x = 0
    · simp only [if_pos a]
    · simp only [if_neg a]
      by_cases b : y = 0
      · simp only [if_pos b]
      · simp only [if_neg b]
  simp only [if_neg h1]
  by_cases h2 : op = 42
  · simp only [if_pos h2]
  simp only [if_neg h2]
  by_cases h3 : op = 43
  · simp only [if_pos h3]
  simp only [if_neg h3]
  by_cases h4 : op = 45
  · simp only [if_pos h4]
  simp only [if_neg h4]
  by_cases h5 : op = 47
  · simp only [if_pos h5]
    by_cases b : y = 0
    · simp only [if_pos b]
    · simp only [if_neg b]
  simp only [if_neg h5]
  by_cases h6 : op = 60
  · simp only [if_pos h6]
    by_cases b : y ≤ x
    · simp only [if_pos b]
    · simp only [if_neg b]
  simp only [if_neg h6]
  by_cases h7 : op = 61
  · simp only [if_pos h7]
    by_cases b : x = y
    · simp only [if_pos b]
    · simp only [if_neg b]
  simp only [if_neg h7]
  by_cases h8 : op = 62
  · simp only [if_pos h8]
    by_cases b : x ≤ y
    · simp only [if_pos b]
    · simp only [if_neg b]
  simp only [if_neg h8]
  by_cases h9 : op = 124
  · simp only [if_pos h9]
    by_cases a : x = 0
    · simp only [if_pos a]
      by_cases b : y = 0
      · simp only [if_pos b]
      · simp only [if_neg b]
    · simp only [if_neg a]
  simp only [if_neg h9]
  by_cases b : y = 0
  · simp only [if_pos b]
  · simp only [if_neg b]
def Rn (st : Nat → Int32) (l l' : Nat) (f : F3) : Prop := l < l' ∧ ∀ (i : Nat), i < 2 → ∀ (M : aw_M) (n t len : Nat) (a b c : Int32), M (26 + i) 2 = nI len → l' ≤ len → len ≤ 50 → (∀ k, l ≤ k → k < l' → M (30 + i) k = st k) → t ≤ l →
  ∃ M', fc_La_value_L6 (n + (l' - l)) i a b c (nI t) (nI l) M = fc_La_value_L6 n i a b c (nI (t + 1)) (nI l') M' ∧ (∀ o, o ≠ 34 + i → M' o = M o) ∧ M' (34 + i) t = f a b c ∧ ∀ q, q < t → M' (34 + i) q = M (34 + i) q
theorem Rn.cg {st st' : Nat → Int32} {l l' : Nat} {f : F3} (h : Rn st l l' f) (e : ∀ k, l ≤ k → k < l' → st' k = st k) : Rn st' l l' f :=
  ⟨h.1, fun i hi M n t len a b c e1 e2 e3 e4 e5 => h.2 i hi M n t len a b c e1 e2 e3 (fun k h1 h2 => (e4 k h1 h2).trans (e k h1 h2)) e5⟩
def pv (s a b c : Int32) : Int32 := if s < 0 then (if s = -1 then a else if s = -2 then b else c) else s
theorem Rn_push {st : Nat → Int32} {l : Nat} (h : (-3 : Int32) ≤ st l) : Rn st l (l + 1) (pv (st l)) := by
  refine ⟨by omega, fun i hi M n t len a b c e1 e2 e3 e4 e5 => ?_⟩
  have es := e4 l (by omega) (by omega)
  generalize hs : st l = s at *
  have n33 : ¬ s = -33 := fun q => by rw [q] at h; exact absurd h (by decide)
  have n3 : ¬ s < -3 := fun q => by rw [le_i] at h; rw [lt_i] at q; omega
  have nin : ¬ aw_in (nI l) 50 := nI_in (by omega) (by omega)
  have nit : ¬ aw_in (nI t) 50 := nI_in (by omega) (by omega)
  refine ⟨aw_u M (34 + i) t (pv s a b c), ?_, fun o ho => aw_u_row ho, aw_u_s _ _ _ _, fun q hq => aw_u_j _ (by omega)⟩
  rw [show n + (l + 1 - l) = n + 1 by omega, fc_La_value_L6_s]
  simp only [e1, if_neg (nI_ge (show l < len by omega) (by omega)), if_neg nin, nI_clamp (show l < 2 ^ 31 by omega), es, if_neg n33, fc_La_value_J65, if_pos h, fc_La_value_J115, if_neg n3, if_neg (show ¬ (50 : Int32) ≤ nI t from nI_ge (b := 50) (by omega) (by omega)), if_neg nit, nI_clamp (show t < 2 ^ 31 by omega), nI_1]
  unfold pv
  by_cases c0 : s < 0
  · simp only [if_pos c0]
    by_cases c1 : s = -1
    · simp only [if_pos c1]
    · simp only [if_neg c1]
      by_cases c2 : s = -2
      · simp only [if_pos c2]
      · simp only [if_neg c2]
  · simp only [if_neg c0]
theorem Rn_not {st : Nat → Int32} {l l1 : Nat} {f : F3} (h : Rn st l l1 f) (hs : st l1 = -33) : Rn st l (l1 + 1) (fun a b c => if f a b c = 0 then 1 else 0) := by
  have hl := h.1
  refine ⟨by omega, fun i hi M n t len a b c e1 e2 e3 e4 e5 => ?_⟩
  obtain ⟨M1, q1, q2, q3, q4⟩ := h.2 i hi M (n + 1) t len a b c e1 (by omega) e3 (fun k a b => e4 k a (by omega)) e5
  have es : M1 (30 + i) l1 = -33 := by rw [q2 (30 + i) (by omega), e4 l1 (by omega) (by omega), hs]
  have el : M1 (26 + i) 2 = nI len := by rw [q2 (26 + i) (by omega)]; exact e1
  have nin : ¬ aw_in (nI l1) 50 := nI_in (by omega) (by omega)
  have nit : ¬ aw_in (nI t) 50 := nI_in (by omega) (by omega)
  refine ⟨aw_u M1 (34 + i) t (if f a b c = 0 then 1 else 0), ?_, fun o ho => by rw [aw_u_row ho]; exact q2 o ho, aw_u_s _ _ _ _, fun q hq => by rw [aw_u_j _ (by omega)]; exact q4 q hq⟩
  rw [show n + (l1 + 1 - l) = (n + 1) + (l1 - l) by omega, q1, fc_La_value_L6_s]
  simp only [el, if_neg (nI_ge (show l1 < len by omega) (by omega)), if_neg nin, nI_clamp (show l1 < 2 ^ 31 by omega), es, if_true, if_neg (nI_nle (show 0 < t + 1 by omega) (show t + 1 < 2 ^ 31 by omega)), nI_pred, if_neg nit, nI_clamp (show t < 2 ^ 31 by omega), q3, nI_1]
  by_cases c0 : f a b c = 0
  · simp only [if_pos c0]
  · simp only [if_neg c0]
theorem Rn_bin {st : Nat → Int32} {l l1 l2 : Nat} {f g : F3} {op : Int32} (h : Rn st l l1 f) (h' : Rn st l1 l2 g) (hs : st l2 = -op) (o1 : ¬ (-3 : Int32) ≤ -op) (o2 : ¬ -op = -33) : Rn st l (l2 + 1) (fun a b c => jn op (f a b c) (g a b c)) := by
  have hl := h.1
  have hl' := h'.1
  refine ⟨by omega, fun i hi M n t len a b c e1 e2 e3 e4 e5 => ?_⟩
  obtain ⟨M1, q1, q2, q3, q4⟩ := h.2 i hi M (n + 1 + (l2 - l1)) t len a b c e1 (by omega) e3 (fun k a b => e4 k a (by omega)) e5
  obtain ⟨M2, w1, w2, w3, w4⟩ := h'.2 i hi M1 (n + 1) (t + 1) len a b c (by rw [q2 (26 + i) (by omega)]; exact e1) (by omega) e3 (fun k a b => by rw [q2 (30 + i) (by omega)]; exact e4 k (by omega) (by omega)) (by omega)
  have es : M2 (30 + i) l2 = -op := by rw [w2 (30 + i) (by omega), q2 (30 + i) (by omega), e4 l2 (by omega) (by omega), hs]
  have el : M2 (26 + i) 2 = nI len := by rw [w2 (26 + i) (by omega), q2 (26 + i) (by omega)]; exact e1
  have nin : ¬ aw_in (nI l2) 50 := nI_in (by omega) (by omega)
  have nit : ¬ aw_in (nI t) 50 := nI_in (by omega) (by omega)
  have nit1 : ¬ aw_in (nI (t + 1)) 50 := nI_in (by omega) (by omega)
  have p1 : (nI (t + 1 + 1) + (-1) : Int32) = nI (t + 1) := by rw [← Int32.sub_eq_add_neg, nI_pred]
  have v0 : M2 (34 + i) t = f a b c := by rw [w4 t (by omega)]; exact q3
  refine ⟨aw_u M2 (34 + i) t (jn op (f a b c) (g a b c)), ?_, fun o ho => by rw [aw_u_row ho, w2 o ho]; exact q2 o ho, aw_u_s _ _ _ _, fun q hq => by rw [aw_u_j _ (by omega), w4 q (by omega)]; exact q4 q hq⟩
  rw [show n + (l2 + 1 - l) = (n + 1 + (l2 - l1)) + (l1 - l) by omega, q1, w1, fc_La_value_L6_s]
  simp only [el, if_neg (nI_ge (show l2 < len by omega) (by omega)), if_neg nin, nI_clamp (show l2 < 2 ^ 31 by omega), es, if_neg o2, fc_La_value_J65, if_neg o1, if_neg (show ¬ nI (t + 1 + 1) ≤ 1 from nI_ge (a := 1) (by omega) (by omega)), p1, nI_pred, if_neg nit, if_neg nit1, nI_clamp (show t < 2 ^ 31 by omega), nI_clamp (show t + 1 < 2 ^ 31 by omega), v0, w3, Int32.neg_neg, jn_c, bi_n, nI_1]
theorem Rn_all {st : Nat → Int32} {len : Nat} {f : F3} (h : Rn st 0 len f) (hl : len ≤ 50) : cdOK (nI len) st f := by
  intro M i hi e1 e2 a b c
  obtain ⟨M1, q1, q2, q3, -⟩ := h.2 i hi M (2000 - len) 0 len a b c e1 (by omega) hl (fun k _ hk => e2 k (by rw [nI_toInt (by omega)]; omega)) (by omega)
  refine ⟨M1 (34 + i), ?_⟩
  rw [show 2000 - len + (len - 0) = 2000 by omega, nI_0] at q1
  unfold fc_La_value
  rw [q1, show 2000 - len = (1999 - len) + 1 by omega, fc_La_value_L6_s, q2 (26 + i) (by omega), e1, if_pos (nI_le (by omega) (by omega)), q3]
  congr 2
  funext o
  by_cases ho : o = 34 + i
  · subst ho; rw [aw_un_s]
  · rw [aw_un_o ho, q2 o ho]
