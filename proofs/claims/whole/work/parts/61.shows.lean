-- what a seam shows
abbrev Lw : Type := Nat → Int32 → Int32 → Int32 → Int32
def sW (L : Lw) (k m t : Int32) : Int32 :=
  if k = 1 then L 0 t m k - 2 else if k = 2 then L 0 t m k + t / 2 else if k = 3 then L 0 t m k + aw_rem m 3 else if k = 4 then L 0 t m k - 1 else if k = 5 then L 0 t m k + t / 2 - aw_rem m 2 else if k = 6 then L 0 t m k + aw_rem m 3 else L 0 t m k
def sB (k m : Int32) : Int32 := if k = 1 then 0 else if k = 2 then 1 else if k = 3 then 2 else if k = 4 then 0 else if k = 5 then 2 else if k = 6 then 2 + m / 4 else 1
def sO (L : Lw) (k m t kn sc li : Int32) : Int32 := kn - sc - li / 20 - sW L k m t
def sT (b o : Int32) : Int32 := if -b ≤ o then (if o ≤ b then 0 else 2) else 1
def sS (L : Lw) (k m t th kn sc ne li sp : Int32) : Int32 :=
  if th = 1 then 4 else if ne = 2 then 3 else if ne = 1 ∧ ¬ sp ≤ L 1 t m li then 3 else sT (sB k m) (sO L k m t kn sc li)
def JD (M M' : aw_M) : Prop := (∀ o, o ≠ 0 → M' o = M o) ∧ ∀ j, ¬ jR j → M' 0 j = M 0 j
theorem JD.rf (M : aw_M) : JD M M := ⟨fun _ _ => rfl, fun _ _ => rfl⟩
theorem JD.tr {A B C : aw_M} (h : JD A B) (h' : JD B C) : JD A C := ⟨fun o ho => (h'.1 o ho).trans (h.1 o ho), fun j hj => (h'.2 j hj).trans (h.2 j hj)⟩
theorem JD.r1 {M M' : aw_M} (h : JD M M') : M' 1 = M 1 := h.1 1 (by decide)
theorem JD_z {M : aw_M} {z : Nat → Int32} (hz : ∀ j, ¬ jR j → z j = M 0 j) : JD M (aw_un M 0 z) := ⟨fun o ho => aw_un_o ho, fun j hj => by rw [aw_un_s]; exact hz j hj⟩
theorem JD.sd {M M' : aw_M} (h : JD M M') : SD M M' := ⟨fun k _ => by rw [h.1 1 (by decide)], fun k _ => by rw [h.1 2 (by decide)], fun o ho => h.1 o (by omega), fun j hj => h.2 j (by unfold jR; omega)⟩
theorem DL.j {L : Lw} {M M' : aw_M} (h : DL L M) (j : JD M M') : DL L M' := h.cg (fun k _ => by rw [j.r1])
def mS (L : Lw) (M : aw_M) (i : Nat) : Int32 := sS L (M 1 (13 + 5 * i + 0)) (M 1 (13 + 5 * i + 1)) (M 1 (13 + 5 * i + 2)) (M 1 7) (M 1 8) (M 1 9) (M 1 10) (M 1 11) (M 1 12)
theorem lawOf_m {L : Lw} {M : aw_M} (h : DL L M) {u : Nat} (hu : u < 2) (a b c : Int32) : ∃ M', fm_lawOf (nI u) a b c M = some (L u a b c, M') ∧ JD M M' := by
  obtain ⟨z, e, hz⟩ := h M (fun _ _ => rfl) u hu a b c
  exact ⟨_, e, JD_z hz⟩
theorem wants_m {L : Lw} {M : aw_M} (h : DL L M) {i : Nat} (hi : i < 6) : ∃ M', fm_wants (nI i) M = some (sW L (M 1 (13 + 5 * i + 0)) (M 1 (13 + 5 * i + 1)) (M 1 (13 + 5 * i + 2)), M') ∧ JD M M' := by
  obtain ⟨M', e, j⟩ := lawOf_m h (u := 0) (by omega) (M 1 (13 + 5 * i + 2)) (M 1 (13 + 5 * i + 1)) (M 1 (13 + 5 * i + 0))
  rw [nI_0] at e
  refine ⟨M', ?_, j⟩
  simp only [fm_wants, its_0 hi, its_1 hi, its_2 hi, aw_bi_s, e, j.r1]
  unfold sW
  generalize M 1 (13 + 5 * i + 0) = k
  by_cases h1 : k = 1
  · simp only [if_pos h1]
  by_cases h2 : k = 2
  · simp only [if_neg h1, if_pos h2]
  by_cases h3 : k = 3
  · simp only [if_neg h1, if_neg h2, if_pos h3]
  by_cases h4 : k = 4
  · simp only [if_neg h1, if_neg h2, if_neg h3, if_pos h4]
  by_cases h5 : k = 5
  · simp only [if_neg h1, if_neg h2, if_neg h3, if_neg h4, if_pos h5]
  by_cases h6 : k = 6
  · simp only [if_neg h1, if_neg h2, if_neg h3, if_neg h4, if_neg h5, if_pos h6]
  simp only [if_neg h1, if_neg h2, if_neg h3, if_neg h4, if_neg h5, if_neg h6]
theorem bears_m {M : aw_M} {i : Nat} (hi : i < 6) : fm_bears (nI i) M = some (sB (M 1 (13 + 5 * i + 0)) (M 1 (13 + 5 * i + 1)), M) := by
  simp only [fm_bears, its_0 hi, its_1 hi, aw_bi_s]
  unfold sB
  generalize M 1 (13 + 5 * i + 0) = k
  by_cases h1 : k = 1
  · simp only [if_pos h1]
  by_cases h2 : k = 2
  · simp only [if_neg h1, if_pos h2]
  by_cases h3 : k = 3
  · simp only [if_neg h1, if_neg h2, if_pos h3]
  by_cases h4 : k = 4
  · simp only [if_neg h1, if_neg h2, if_neg h3, if_pos h4]
  by_cases h5 : k = 5
  · simp only [if_neg h1, if_neg h2, if_neg h3, if_neg h4, if_pos h5]
  by_cases h6 : k = 6
  · simp only [if_neg h1, if_neg h2, if_neg h3, if_neg h4, if_neg h5, if_pos h6]
  simp only [if_neg h1, if_neg h2, if_neg h3, if_neg h4, if_neg h5, if_neg h6]
theorem off_m {L : Lw} {M : aw_M} (h : DL L M) {i : Nat} (hi : i < 6) : ∃ M', fm_off (nI i) M = some (sO L (M 1 (13 + 5 * i + 0)) (M 1 (13 + 5 * i + 1)) (M 1 (13 + 5 * i + 2)) (M 1 8) (M 1 9) (M 1 11), M') ∧ JD M M' := by
  obtain ⟨M', e, j⟩ := wants_m h hi
  exact ⟨M', by unfold fm_off; rw [e, aw_bi_s]; rfl, j⟩
theorem rest_m {L : Lw} {M : aw_M} (h : DL L M) {i : Nat} (hi : i < 6) : ∃ M', (aw_bi (fm_off (nI i) M) fun r_7 M_8 => aw_bi (fm_bears (nI i) M_8) fun r_10 M_11 => if (-r_10) ≤ r_7 then (aw_bi (fm_bears (nI i) M_11) fun r_14 M_15 => if r_7 ≤ r_14 then some ((0 : Int32), M_15) else some (2, M_15)) else some (1, M_11)) = some (sT (sB (M 1 (13 + 5 * i + 0)) (M 1 (13 + 5 * i + 1))) (sO L (M 1 (13 + 5 * i + 0)) (M 1 (13 + 5 * i + 1)) (M 1 (13 + 5 * i + 2)) (M 1 8) (M 1 9) (M 1 11)), M') ∧ JD M M' := by
  obtain ⟨M', e, j⟩ := off_m h hi
  refine ⟨M', ?_, j⟩
  simp only [e, bi_n, bears_m hi, j.r1]
  generalize sO L (M 1 (13 + 5 * i + 0)) (M 1 (13 + 5 * i + 1)) (M 1 (13 + 5 * i + 2)) (M 1 8) (M 1 9) (M 1 11) = o
  generalize sB (M 1 (13 + 5 * i + 0)) (M 1 (13 + 5 * i + 1)) = b
  unfold sT
  by_cases c1 : -b ≤ o
  · simp only [if_pos c1]
    by_cases c2 : o ≤ b
    · simp only [if_pos c2]
    · simp only [if_neg c2]
  · simp only [if_neg c1]
theorem shows_m {L : Lw} {M : aw_M} (h : DL L M) {i : Nat} (hi : i < 6) : ∃ M', fm_shows (nI i) M = some (mS L M i, M') ∧ JD M M' := by
  unfold fm_shows mS sS
  by_cases t1 : M 1 7 = 1
  · exact ⟨M, by rw [if_pos t1, if_pos t1], JD.rf M⟩
  rw [if_neg t1, if_neg t1]
  unfold fm_isSkipped
  by_cases n2 : M 1 10 = 2
  · exact ⟨M, by rw [if_pos n2, if_pos n2]; rfl, JD.rf M⟩
  rw [if_neg n2, if_neg n2]
  by_cases n1 : M 1 10 = 1
  · obtain ⟨M1, e, j⟩ := lawOf_m h (u := 1) (by omega) (M 1 (13 + 5 * i + 2)) (M 1 (13 + 5 * i + 1)) (M 1 11)
    replace e : fm_lawOf 1 (M 1 (13 + 5 * i + 2)) (M 1 (13 + 5 * i + 1)) (M 1 11) M = some (L 1 (M 1 (13 + 5 * i + 2)) (M 1 (13 + 5 * i + 1)) (M 1 11), M1) := e
    simp only [if_pos n1, its_2 hi, its_1 hi, bi_n, e]
    by_cases s1 : M 1 12 ≤ L 1 (M 1 (13 + 5 * i + 2)) (M 1 (13 + 5 * i + 1)) (M 1 11)
    · simp only [if_pos s1, bi_n, i00, if_true]
      obtain ⟨M2, e2, j2⟩ := rest_m (h.j j) hi
      refine ⟨M2, ?_, j.tr j2⟩
      rw [e2, j.r1, if_neg (fun q => q.2 s1)]
    · simp only [if_neg s1, bi_n, i10, if_false]
      exact ⟨M1, by rw [if_pos ⟨n1, s1⟩], j⟩
  · simp only [if_neg n1, bi_n, i00, if_true]
    obtain ⟨M2, e2, j2⟩ := rest_m h hi
    refine ⟨M2, ?_, j2⟩
    rw [e2, if_neg (fun q => n1 q.1)]
-- .. and at the class
def KC (C C' : aw_M) : Prop := ∀ o, (o < 34 ∨ (36 ≤ o ∧ o < 39) ∨ 51 ≤ o) → C' o = C o
theorem KC.rf (M : aw_M) : KC M M := fun _ _ => rfl
theorem KC.tr {A B C : aw_M} (h : KC A B) (h' : KC B C) : KC A C := fun o ho => (h' o ho).trans (h o ho)
theorem KC.sc {A B : aw_M} (h : KC A B) : SC A B := ⟨fun o ho => h o (by omega), by rw [h 56 (by omega)]⟩
theorem CL.k {L : Lw} {C C' : aw_M} (h : CL L C) (k : KC C C') : CL L C' := h.cg (by rw [k 26 (by omega)]) (by rw [k 27 (by omega)]) (k 30 (by omega)) (k 31 (by omega))
def GV (L : Lw) (C : aw_M) (i : Nat) : Prop := C (39 + i) 3 = sW L (C (14 + i) 0) (C (14 + i) 1) (C (14 + i) 2) ∧ C (39 + i) 4 = sB (C (14 + i) 0) (C (14 + i) 1) ∧ ∀ p, p < 100 → C (45 + i) p = -1 ∨ C (45 + i) p = L 1 (C (14 + i) 2) (C (14 + i) 1) (nI p)
def cS (L : Lw) (C : aw_M) (i mo : Nat) : Int32 := sS L (C (14 + i) 0) (C (14 + i) 1) (C (14 + i) 2) (C (3 + mo) 0) (C (3 + mo) 1) (C (3 + mo) 2) (C (3 + mo) 3) (C (3 + mo) 4) (C (3 + mo) 5)
theorem gives_c {L : Lw} {C : aw_M} (h : CL L C) {u : Nat} (hu : u < 2) (a b c : Int32) : ∃ C', fc_St_gives (nI u) a b c C = some (L u a b c, C') ∧ ∀ o, o ≠ 34 → o ≠ 35 → C' o = C o := h C rfl rfl rfl rfl u hu a b c
theorem GV.cg {L : Lw} {C C' : aw_M} {i : Nat} (h : GV L C i) (h1 : C' (39 + i) = C (39 + i)) (h2 : C' (14 + i) 0 = C (14 + i) 0) (h2' : C' (14 + i) 1 = C (14 + i) 1) (h2'' : C' (14 + i) 2 = C (14 + i) 2) (h3 : C' (45 + i) = C (45 + i)) : GV L C' i := by
  unfold GV
  rw [h1, h2, h2', h2'', h3]; exact h
theorem lim_c {L : Lw} {C : aw_M} (h : CL L C) (hL : LR L) {i p : Nat} (hi : i < 6) (hp : p ≤ 99) (g : GV L C i) : ∃ C', fc_Ga_limitAt i (nI p) C = some (L 1 (C (14 + i) 2) (C (14 + i) 1) (nI p), C') ∧ KC C C' ∧ (∀ o, o ≠ 34 → o ≠ 35 → o ≠ 45 + i → C' o = C o) ∧ GV L C' i := by
  have e0 : hl (nI p) 0 99 = nI p := by
    have : ∀ p, p < 100 → hl (nI p) 0 99 = nI p := by decide +kernel
    exact this p (by omega)
  have a1 := ni_f (k := p) (N := 100) (by omega) (by omega)
  have c1 : (nI p).toNatClampNeg = p := nI_clamp (by omega)
  simp only [fc_Ga_limitAt, hl_c, e0, bi_n, a1, if_false, c1]
  by_cases c : C (45 + i) p = -1
  · obtain ⟨C1, e1, x1⟩ := gives_c h (u := 1) (by omega) (C (14 + i) 2) (C (14 + i) 1) (nI p)
    replace e1 : fc_St_gives 1 (C (14 + i) 2) (C (14 + i) 1) (nI p) C = some (L 1 (C (14 + i) 2) (C (14 + i) 1) (nI p), C1) := e1
    simp only [if_pos c, e1, bi_n, aw_u_s]
    have X : ∀ o, o ≠ 34 → o ≠ 35 → o ≠ 45 + i → aw_u C1 (45 + i) p (L 1 (C (14 + i) 2) (C (14 + i) 1) (nI p)) o = C o := fun o h1 h2 h3 => by rw [aw_u_row h3, x1 o h1 h2]
    refine ⟨_, rfl, fun o ho => X o (by omega) (by omega) (by omega), X, ?_⟩
    refine ⟨?_, ?_, fun q hq => ?_⟩
    · rw [X (39 + i) (by omega) (by omega) (by omega), X (14 + i) (by omega) (by omega) (by omega)]; exact g.1
    · rw [X (39 + i) (by omega) (by omega) (by omega), X (14 + i) (by omega) (by omega) (by omega)]; exact g.2.1
    · rw [X (14 + i) (by omega) (by omega) (by omega)]
      by_cases cq : q = p
      · subst cq; rw [aw_u_s]; exact Or.inr rfl
      · rw [aw_u_j _ cq, x1 _ (by omega) (by omega)]; exact g.2.2 q hq
  · have := (g.2.2 p (by omega)).resolve_left c
    rw [if_neg c, this]
    exact ⟨C, rfl, KC.rf C, fun _ _ _ _ => rfl, g⟩
theorem rest_c {L : Lw} {C : aw_M} {i mo : Nat} (g : GV L C i) : (aw_bi (fc_Ga_off i mo C) fun r_5 M_6 => if (-(M_6 (39 + i) 4)) ≤ r_5 then (if r_5 ≤ (M_6 (39 + i) 4) then some ((0 : Int32), M_6) else some (2, M_6)) else some (1, M_6)) = some (sT (sB (C (14 + i) 0) (C (14 + i) 1)) (sO L (C (14 + i) 0) (C (14 + i) 1) (C (14 + i) 2) (C (3 + mo) 1) (C (3 + mo) 2) (C (3 + mo) 4)), C) := by
  simp only [fc_Ga_off, bi_n, g.1, g.2.1]
  unfold sO sT
  generalize C (3 + mo) 1 - C (3 + mo) 2 - C (3 + mo) 4 / 20 - sW L (C (14 + i) 0) (C (14 + i) 1) (C (14 + i) 2) = o
  generalize sB (C (14 + i) 0) (C (14 + i) 1) = b
  by_cases c1 : -b ≤ o
  · simp only [if_pos c1]
    by_cases c2 : o ≤ b
    · simp only [if_pos c2]
    · simp only [if_neg c2]
  · simp only [if_neg c1]
/-- which gauges are right -/
def GK (L : Lw) (C C' : aw_M) : Prop := ∀ q, q < 6 → GV L C q → GV L C' q
theorem GK.tr {L : Lw} {A B C : aw_M} (h : GK L A B) (h' : GK L B C) : GK L A C := fun q hq g => h' q hq (h q hq g)
theorem shows_c {L : Lw} {C : aw_M} (h : CL L C) (hL : LR L) {i mo : Nat} (hi : i < 6) (hm : mo < 3) (ht : C (3 + mo) 0 = 0 ∨ C (3 + mo) 0 = 1) {p : Nat} (hp : p ≤ 99) (hl : C (3 + mo) 4 = nI p) (g : GV L C i) : ∃ C', fc_Ga_shows i mo C = some (cS L C i mo, C') ∧ KC C C' ∧ GK L C C' := by
  unfold fc_Ga_shows cS sS
  by_cases t0 : C (3 + mo) 0 = 0
  case neg =>
    rw [if_neg t0, if_pos (ht.resolve_left t0)]
    exact ⟨C, rfl, KC.rf C, fun _ _ g => g⟩
  rw [if_pos t0, if_neg (show ¬ C (3 + mo) 0 = 1 by rw [t0]; decide)]
  by_cases n2 : C (3 + mo) 3 = 2
  · exact ⟨C, by rw [if_pos n2, if_pos n2], KC.rf C, fun _ _ g => g⟩
  rw [if_neg n2, if_neg n2]
  by_cases n1 : C (3 + mo) 3 = 1
  · obtain ⟨C1, e1, k1, x1, g1⟩ := lim_c h hL hi hp g
    have gk : GK L C C1 := fun q hq gq => by
      by_cases cq : q = i
      · subst cq; exact g1
      · have y := x1 (14 + q) (by omega) (by omega) (by omega)
        exact gq.cg (x1 _ (by omega) (by omega) (by omega)) (by rw [y]) (by rw [y]) (by rw [y]) (x1 _ (by omega) (by omega) (by omega))
    rw [if_pos n1, hl, e1, aw_bi_s]
    by_cases s1 : C (3 + mo) 5 ≤ L 1 (C (14 + i) 2) (C (14 + i) 1) (nI p)
    · rw [if_pos s1, rest_c g1, if_neg (fun q => q.2 s1), x1 (14 + i) (by omega) (by omega) (by omega), x1 (3 + mo) (by omega) (by omega) (by omega), hl]
      exact ⟨C1, rfl, k1, gk⟩
    · rw [if_neg s1, if_pos ⟨n1, s1⟩]
      exact ⟨C1, rfl, k1, gk⟩
  · rw [if_neg n1, if_neg (fun q => n1 q.1), rest_c g]
    exact ⟨C, rfl, KC.rf C, fun _ _ g => g⟩
-- gauges worked out
theorem more_f (f : Nat) (i : Nat) (M : aw_M) {k : Nat} (hk : k ≤ 6) : fc_Cl_wantsMore_L9 (f + 4) i 0 (nI k) 0 M = some (if k = 0 then 0 + 0 else if k = 1 then 0 + -2 + 0 else if k = 2 then 0 + (M (14 + i) 2) / 2 + 0 else if k = 3 then 0 + aw_rem (M (14 + i) 1) 3 + 0 else if k = 4 then 0 + 1 + -2 + 0 else if k = 5 then 0 + -(aw_rem (M (14 + i) 1) 2) + (M (14 + i) 2) / 2 + 0 else 0 + 0 + aw_rem (M (14 + i) 1) 3 + 0, M) := by
  rcases k7 hk with rfl | rfl | rfl | rfl | rfl | rfl | rfl <;> rfl
theorem more_c (i : Nat) (M : aw_M) {k : Nat} (hk : k ≤ 6) (e : M (14 + i) 0 = nI k) (L : Lw) : ∃ r, fc_Cl_wantsMore i M = some (r, M) ∧ L 0 (M (14 + i) 2) (M (14 + i) 1) (M (14 + i) 0) + r = sW L (M (14 + i) 0) (M (14 + i) 1) (M (14 + i) 2) := by
  unfold fc_Cl_wantsMore
  rw [e]
  refine ⟨_, more_f 1996 i M hk, ?_⟩
  generalize M (14 + i) 2 = t
  generalize M (14 + i) 1 = m
  unfold sW
  generalize hv : L 0 t m (nI k) = v
  rcases k7 hk with rfl | rfl | rfl | rfl | rfl | rfl | rfl
  · show v + (0 + 0) = v
    rw [show (0 + 0 : Int32) = 0 by decide, Int32.add_zero]
  · show v + (0 + -2 + 0) = v - 2
    rw [show (0 + -2 + 0 : Int32) = -2 by decide, Int32.sub_eq_add_neg]
  · show v + (0 + t / 2 + 0) = v + t / 2
    rw [Int32.add_zero, Int32.zero_add]
  · show v + (0 + aw_rem m 3 + 0) = v + aw_rem m 3
    rw [Int32.add_zero, Int32.zero_add]
  · show v + (0 + 1 + -2 + 0) = v - 1
    rw [show (0 + 1 + -2 + 0 : Int32) = -1 by decide, Int32.sub_eq_add_neg]
  · show v + (0 + -(aw_rem m 2) + t / 2 + 0) = v + t / 2 - aw_rem m 2
    rw [Int32.add_zero, Int32.zero_add, Int32.sub_eq_add_neg, Int32.add_comm (-(aw_rem m 2)), Int32.add_assoc]
  · show v + (0 + 0 + aw_rem m 3 + 0) = v + aw_rem m 3
    rw [Int32.add_zero, Int32.add_zero, Int32.zero_add]
theorem bears_c (i : Nat) (M : aw_M) : fc_Cl_bears i M = some (sB (M (14 + i) 0) (M (14 + i) 1), M) := by
  unfold fc_Cl_bears sB
  generalize M (14 + i) 0 = k
  by_cases h1 : k = 1
  · simp only [if_pos h1]
  by_cases h2 : k = 2
  · simp only [if_neg h1, if_pos h2]
  by_cases h3 : k = 3
  · simp only [if_neg h1, if_neg h2, if_pos h3]
  by_cases h4 : k = 4
  · simp only [if_neg h1, if_neg h2, if_neg h3, if_pos h4]
  by_cases h5 : k = 5
  · simp only [if_neg h1, if_neg h2, if_neg h3, if_neg h4, if_pos h5]
  by_cases h6 : k = 6
  · simp only [if_neg h1, if_neg h2, if_neg h3, if_neg h4, if_neg h5, if_pos h6]
  simp only [if_neg h1, if_neg h2, if_neg h3, if_neg h4, if_neg h5, if_neg h6]
theorem refresh_c {L : Lw} {C : aw_M} (h : CL L C) {i k : Nat} (hi : i < 6) (hk : k ≤ 6) (e : C (14 + i) 0 = nI k) : ∃ C', fc_Ga_refresh i C = some C' ∧ KC C C' ∧ GV L C' i ∧ ∀ q, q < 6 → q ≠ i → GV L C q → GV L C' q := by
  obtain ⟨C1, e1, x1⟩ := gives_c h (u := 0) (by omega) (C (14 + i) 2) (C (14 + i) 1) (C (14 + i) 0)
  rw [nI_0] at e1
  have y1 := x1 (14 + i) (by omega) (by omega)
  obtain ⟨r, e2, v2⟩ := more_c i C1 hk (by rw [y1]; exact e) L
  rw [y1] at v2
  simp only [fc_Ga_refresh, e1, bi_n, e2, bears_c, bv_n, fill_c (show 100 < 2000 by omega)]
  have z1 : aw_u C1 (39 + i) 3 (L 0 (C (14 + i) 2) (C (14 + i) 1) (C (14 + i) 0) + r) (14 + i) = C (14 + i) := by rw [aw_u_row (by omega), y1]
  rw [z1, v2]
  generalize hC2 : aw_u (aw_u C1 (39 + i) 3 (sW L (C (14 + i) 0) (C (14 + i) 1) (C (14 + i) 2))) (39 + i) 4 (sB (C (14 + i) 0) (C (14 + i) 1)) = C2
  have X : ∀ o, o ≠ 34 → o ≠ 35 → o ≠ 39 + i → C2 o = C o := fun o a b c => by rw [← hC2, aw_u_row c, aw_u_row c, x1 o a b]
  have X' : ∀ o, o ≠ 34 → o ≠ 35 → o ≠ 39 + i → o ≠ 45 + i → aw_un C2 (45 + i) (fun k => if k < 100 then -1 else C2 (45 + i) k) o = C o := fun o a b c d => by rw [aw_un_o d, X o a b c]
  refine ⟨_, rfl, fun o ho => X' o (by omega) (by omega) (by omega) (by omega), ⟨?_, ?_, fun p hp => ?_⟩, fun q hq hqi gq => ?_⟩
  · rw [X' (14 + i) (by omega) (by omega) (by omega) (by omega), aw_un_o (by omega), ← hC2, aw_u_j _ (by decide), aw_u_s]
  · rw [X' (14 + i) (by omega) (by omega) (by omega) (by omega), aw_un_o (by omega), ← hC2, aw_u_s]
  · rw [aw_un_s, if_pos hp]; exact Or.inl rfl
  · have y := X' (14 + q) (by omega) (by omega) (by omega) (by omega)
    exact gq.cg (X' _ (by omega) (by omega) (by omega) (by omega)) (by rw [y]) (by rw [y]) (by rw [y]) (X' _ (by omega) (by omega) (by omega) (by omega))
theorem gauge_c {L : Lw} {C : aw_M} (h : CL L C) {i k : Nat} (hi : i < 6) (hk : k ≤ 6) (e : C (14 + i) 0 = nI k) : ∃ C', fc_LB_gaugeOf (nI i) C = some (i, C') ∧ KC C C' ∧ GV L C' i ∧ ∀ q, q < 6 → q ≠ i → GV L C q → GV L C' q := by
  obtain ⟨C', e1, r⟩ := refresh_c h hi hk e
  refine ⟨C', ?_, r⟩
  unfold fc_LB_gaugeOf
  simp only [ni_f hi (by omega), if_false, nI_clamp (show i < 2 ^ 31 by omega), e1, bv_n]
