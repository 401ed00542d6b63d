-- THE TIE between the class's picture C and the reference's picture D
/-- place (o, j) of the class's picture is place (a, b) of the reference's -/
def Lk (o j a b : Nat) : Prop :=
  (o = 3 ∧ a = 1 ∧ j < 6 ∧ b = 7 + j) ∨ (o = 1 ∧ a = 1 ∧ j = 5 ∧ b = 2) ∨ (o = 1 ∧ a = 1 ∧ j = 6 ∧ b = 3) ∨ (o = 1 ∧ a = 1 ∧ j = 7 ∧ b = 4) ∨ (o = 1 ∧ a = 1 ∧ j = 8 ∧ b = 0) ∨ (o = 1 ∧ a = 1 ∧ j = 9 ∧ b = 1) ∨
  (14 ≤ o ∧ o < 20 ∧ a = 1 ∧ j < 5 ∧ b = 13 + 5 * (o - 14) + j) ∨ (o = 12 ∧ a = 1 ∧ j < 20 ∧ b = 93 + j) ∨
  (o = 4 ∧ a = 2 ∧ a = 1) ∨ (o = 2 ∧ a = 2 ∧ a = 1) ∨ (o = 2 ∧ a = 2 ∧ a = 1) ∨ (o = 2 ∧ a = 2 ∧ a = 1) ∨ (o = 2 ∧ a = 2 ∧ a = 1) ∨ (o = 2 ∧ a = 2 ∧ a = 1) ∨
  (20 ≤ o ∧ a = 2 ∧ a = 1) ∨ (o = 13 ∧ a = 2 ∧ a = 1) ∨
  (59 ≤ o ∧ o < 63 ∧ j = 1 ∧ a = 6 ∧ b = o - 59) ∨ (59 ≤ o ∧ o < 63 ∧ j = 2 ∧ a = 7 ∧ b = o - 59) ∨ (63 ≤ o ∧ o < 67 ∧ a = 8 ∧ j < 40 ∧ b = 40 * (o - 63) + j) ∨
  (o = 67 ∧ a = 5 ∧ 1 ≤ j ∧ j ≤ 5 ∧ b = j) ∨ (o = 56 ∧ a = 0 ∧ j = 1 ∧ b = 23) ∨ (o = 57 ∧ a = 11 ∧ j < 40 ∧ b = j) ∨ (o = 0 ∧ a = 0 ∧ j = 2 ∧ b = 5)
theorem Lk_fun {o j a b a' b' : Nat} (h : Lk o j a b) (h' : Lk o j a' b') : a = a' ∧ b = b' := by
  unfold Lk at h h'
  rcases h with h | h | h | h | h | h | h | h | h | h | h | h | h | h | h | h | h | h | h | h | h | h | h <;> omega
theorem Lk_inj {o j o' j' a b : Nat} (h : Lk o j a b) (h' : Lk o' j' a b) : o = o' ∧ j = j' := by
  unfold Lk at h h'
  rcases h with h | h | h | h | h | h | h | h | h | h | h | h | h | h | h | h | h | h | h | h | h | h | h <;> omega
def EqL (C D : aw_M) : Prop := ∀ o j a b, Lk o j a b → C o j = D a b
theorem aw_u_s (M : aw_M) (o j : Nat) (v : Int32) : aw_u M o j v o j = v := by simp [aw_u, aw_un, upd]
theorem aw_u_o {M : aw_M} {o j : Nat} {v : Int32} {a : Nat} (b : Nat) (h : a ≠ o) : aw_u M o j v a b = M a b := by simp [aw_u, aw_un, h]
theorem aw_u_j {M : aw_M} {o j : Nat} {v : Int32} {b : Nat} (a : Nat) (h : b ≠ j) : aw_u M o j v a b = M a b := by
  by_cases ha : a = o
  · subst ha; simp [aw_u, aw_un, upd, h]
  · exact aw_u_o b ha
theorem aw_u_if (M : aw_M) (o j : Nat) (v : Int32) (a b : Nat) : aw_u M o j v a b = if a = o ∧ b = j then v else M a b := by
  by_cases ha : a = o
  · by_cases hb : b = j
    · subst ha; subst hb; rw [aw_u_s, if_pos ⟨rfl, rfl⟩]
    · rw [aw_u_j a hb, if_neg (fun h => hb h.2)]
  · rw [aw_u_o b ha, if_neg (fun h => ha h.1)]
theorem aw_un_s (M : aw_M) (o : Nat) (f : Nat → Int32) : aw_un M o f o = f := by simp [aw_un]
theorem aw_un_o {M : aw_M} {o a : Nat} {f : Nat → Int32} (h : a ≠ o) : aw_un M o f a = M a := by simp [aw_un, h]
theorem EqL.upd {C D : aw_M} (h : EqL C D) {o j a b : Nat} (hl : Lk o j a b) (v : Int32) : EqL (aw_u C o j v) (aw_u D a b v) := by
  intro o' j' a' b' hl'
  rw [aw_u_if, aw_u_if]
  by_cases h1 : o' = o ∧ j' = j
  · obtain ⟨rfl, rfl⟩ := h1
    obtain ⟨rfl, rfl⟩ := Lk_fun hl' hl
    rw [if_pos ⟨rfl, rfl⟩, if_pos ⟨rfl, rfl⟩]
  · rw [if_neg h1, if_neg, h o' j' a' b' hl']
    rintro ⟨rfl, rfl⟩
    exact h1 (Lk_inj hl' hl)
/-- the places of the class's picture that no call asks -/
def jC (o j : Nat) : Prop := ∀ a b, ¬ Lk o j a b
theorem EqL.junkC {C C' D : aw_M} (h : EqL C D) (hc : ∀ o j a b, Lk o j a b → C' o j = C o j) : EqL C' D := fun o j a b hl => (hc o j a b hl).trans (h o j a b hl)
theorem EqL.junkD {C D D' : aw_M} (h : EqL C D) (hd : ∀ o j a b, Lk o j a b → D' a b = D a b) : EqL C D' := fun o j a b hl => (h o j a b hl).trans (hd o j a b hl).symm
-- ranges
def Rb (x : Int32) (lo hi : Int) : Prop := lo ≤ x.toInt ∧ x.toInt ≤ hi
def hiB (b : Nat) : Int := if b = 0 then 99999 else if b = 2 then 6 else if b = 3 then 50 else if b = 4 then 20 else if b = 7 then 1 else if b = 10 then 2 else if b = 11 then 99 else if b < 13 then 9 else if (b - 13) % 5 = 0 then 6 else if (b - 13) % 5 ≤ 2 then 9 else 9999
def Rg (r : Nat → Int32) : Prop := ∀ b, b < 43 → b ≠ 1 → b ≠ 5 → b ≠ 6 → Rb (r b) 0 (hiB b)
-- the tape: bytes against numbers of 0 to 255
def Tp (t : Nat → Int32) (r : Nat → Int32) : Prop := ∀ k, k < 50 → r (43 + k) = t k &&& 255 ∧ fits .byte (.int (t k)) = true
-- laws: steps against a text, both giving f
def cdOK (len : Int32) (st : Nat → Int32) (f : Int32 → Int32 → Int32 → Int32) : Prop :=
  ∀ (M : aw_M) (i : Nat), i < 2 → M (26 + i) 2 = len → (∀ k : Nat, (k : Int) < len.toInt → M (30 + i) k = st k) → ∀ a b c, ∃ z, fc_La_value i a b c M = some (f a b c, aw_un M (34 + i) z)
/-- the reader's own places of the reference -/
def jR (j : Nat) : Prop := 7 ≤ j ∧ j ≤ 14
def txOK (u : Nat) (sz : Int32) (tx : Nat → Int32) (f : Int32 → Int32 → Int32 → Int32) : Prop :=
  ∀ M : aw_M, M 1 (5 + u) = sz → (∀ k, k < 50 → M 1 (113 + 50 * u + k) = tx k) → ∀ a b c, ∃ z, fm_walks (nI u) a b c M = some (f a b c, aw_un M 0 z) ∧ ∀ j, ¬ jR j → z j = M 0 j
def LawR (u : Nat) (len : Int32) (st : Nat → Int32) (sz : Int32) (tx : Nat → Int32) : Prop :=
  (len = 0 ∧ sz = -1) ∨ (Rb len 1 50 ∧ Rb sz 0 50 ∧ ∃ f, cdOK len st f ∧ txOK u sz tx f)
def Laws (C D : aw_M) : Prop := LawR 0 (C 26 2) (C 30) (D 1 5) (fun k => D 1 (113 + k)) ∧ LawR 1 (C 27 2) (C 31) (D 1 6) (fun k => D 1 (163 + k))
def LawsK (C D : aw_M) : Prop := LawR 0 (C 28 2) (C 32) (D 2 5) (fun k => D 2 (113 + k)) ∧ LawR 1 (C 29 2) (C 33) (D 2 6) (fun k => D 2 (163 + k))
/-- what an IMAGE has: place (o, j) of the class's is place b of the kept row -/
def LkK (o j b : Nat) : Prop :=
  (o = 4 ∧ j < 6 ∧ b = 7 + j) ∨ (o = 2 ∧ j = 5 ∧ b = 2) ∨ (o = 2 ∧ j = 6 ∧ b = 3) ∨ (o = 2 ∧ j = 7 ∧ b = 4) ∨ (o = 2 ∧ j = 8 ∧ b = 0) ∨ (o = 2 ∧ j = 9 ∧ b = 1) ∨
  (20 ≤ o ∧ o < 26 ∧ j < 5 ∧ b = 13 + 5 * (o - 20) + j) ∨ (o = 13 ∧ j < 20 ∧ b = 93 + j)
def EqK (C D : aw_M) : Prop := ∀ o j b, LkK o j b → C o j = D 2 b
theorem EqK.cg {C D C' D' : aw_M} (h : EqK C D) (hc : ∀ o, (o = 2 ∨ o = 4 ∨ o = 13 ∨ (20 ≤ o ∧ o < 26)) → C' o = C o) (hd : ∀ k, k < 213 → D' 2 k = D 2 k) : EqK C' D' := by
  intro o j b hl
  have q := hl
  unfold LkK at q
  rw [hc o (by omega), hd b (by omega)]
  exact h o j b hl
def Shs (D : aw_M) : Prop := ∀ s, s < 4 → (D 6 s = 0 ∨ D 6 s = 8 ∨ D 6 s = 16 ∨ D 6 s = 32) ∧ Rb (D 7 s) 0 40
def Inv (n : Nat) (C D : aw_M) : Prop :=
  EqL C D ∧ (Tp (C 10) (D 1) ∧ Tp (C 11) (D 2)) ∧ (Rg (D 1) ∧ Rg (D 2)) ∧ (Shs D ∧ Rb (D 0 23) 0 40) ∧ Laws C D ∧ (Rb (D 0 5) 0 n ∧ (D 0 4 = 0 ∨ D 0 4 = 1) ∧ (D 0 4 = 0 ↔ D 0 5 = 0)) ∧ (D 0 4 = 1 → LawsK C D ∧ EqK C D)
theorem Inv.up {n : Nat} {C D : aw_M} (h : Inv n C D) : Inv (n + 1) C D := by
  obtain ⟨h1, h2, h3, h4, h5, ⟨h6, h7⟩, h8⟩ := h
  refine ⟨h1, h2, h3, h4, h5, ⟨⟨h6.1, ?_⟩, h7⟩, h8⟩
  have := h6.2
  omega

-- changes that no call asks
def SC (C C' : aw_M) : Prop := (∀ o, (o < 5 ∨ (6 ≤ o ∧ o < 34) ∨ o = 38 ∨ 57 ≤ o) → C' o = C o) ∧ C' 56 1 = C 56 1
def SD (D D' : aw_M) : Prop := (∀ k, k < 213 → D' 1 k = D 1 k) ∧ (∀ k, k < 213 → D' 2 k = D 2 k) ∧ (∀ o, ((5 ≤ o ∧ o ≤ 8) ∨ o = 11) → D' o = D o) ∧ ∀ j, (j = 4 ∨ j = 5 ∨ j = 23) → D' 0 j = D 0 j
theorem SC.rf (C : aw_M) : SC C C := ⟨fun _ _ => rfl, rfl⟩
theorem SC.tr {A B C : aw_M} (h : SC A B) (h' : SC B C) : SC A C := ⟨fun o ho => (h'.1 o ho).trans (h.1 o ho), h'.2.trans h.2⟩
theorem SD.rf (C : aw_M) : SD C C := ⟨fun _ _ => rfl, fun _ _ => rfl, fun _ _ => rfl, fun _ _ => rfl⟩
theorem SD.tr {A B C : aw_M} (h : SD A B) (h' : SD B C) : SD A C := ⟨fun k hk => (h'.1 k hk).trans (h.1 k hk), fun k hk => (h'.2.1 k hk).trans (h.2.1 k hk), fun o ho => (h'.2.2.1 o ho).trans (h.2.2.1 o ho), fun j hj => (h'.2.2.2 j hj).trans (h.2.2.2 j hj)⟩
theorem Lk_C {o j a b : Nat} (h : Lk o j a b) : (o < 5 ∨ (6 ≤ o ∧ o < 34) ∨ o = 38 ∨ 57 ≤ o) ∨ (o = 56 ∧ j = 1) := by
  unfold Lk at h
  rcases h with h | h | h | h | h | h | h | h | h | h | h | h | h | h | h | h | h | h | h | h | h | h | h <;> omega
theorem Lk_D {o j a b : Nat} (h : Lk o j a b) : (a = 1 ∧ b < 213) ∨ (a = 2 ∧ b < 213) ∨ ((5 ≤ a ∧ a ≤ 8) ∨ a = 11) ∨ (a = 0 ∧ (b = 4 ∨ b = 5 ∨ b = 23)) := by
  unfold Lk at h
  rcases h with h | h | h | h | h | h | h | h | h | h | h | h | h | h | h | h | h | h | h | h | h | h | h <;> omega
theorem txOK.cg {u : Nat} {sz : Int32} {tx tx' : Nat → Int32} {f : Int32 → Int32 → Int32 → Int32} (h : txOK u sz tx f) (e : ∀ k, k < 50 → tx' k = tx k) : txOK u sz tx' f := fun M h1 h2 => h M h1 (fun k hk => (h2 k hk).trans (e k hk))
theorem LawR.cg {u : Nat} {len sz : Int32} {st tx tx' : Nat → Int32} (h : LawR u len st sz tx) (e : ∀ k, k < 50 → tx' k = tx k) : LawR u len st sz tx' := by
  rcases h with h | ⟨h1, h2, f, h3, h4⟩
  · exact Or.inl h
  · exact Or.inr ⟨h1, h2, f, h3, h4.cg e⟩
theorem Inv.same {n : Nat} {C C' D D' : aw_M} (h : Inv n C D) (hc : SC C C') (hd : SD D D') : Inv n C' D' := by
  obtain ⟨h1, ⟨h2, h2'⟩, ⟨h3, h3'⟩, ⟨h4, h4'⟩, h5, ⟨h6, h7, h7'⟩, h8⟩ := h
  have e4 : D' 0 4 = D 0 4 := hd.2.2.2 4 (by omega)
  have e5 : D' 0 5 = D 0 5 := hd.2.2.2 5 (by omega)
  have e23 : D' 0 23 = D 0 23 := hd.2.2.2 23 (by omega)
  refine ⟨fun o j a b hl => ?_, ⟨fun k hk => ?_, fun k hk => ?_⟩, ⟨fun b h1 h2 h3' h4 => ?_, fun b h1 h2 h3 h4 => ?_⟩, ⟨fun s hs => ?_, by rw [e23]; exact h4'⟩, ⟨?_, ?_⟩, ⟨by rw [e5]; exact h6, by rw [e4]; exact h7, by rw [e4, e5]; exact h7'⟩, fun hk => ?_⟩
  · have ec : C' o j = C o j := by
      rcases Lk_C hl with g | ⟨rfl, rfl⟩
      · rw [hc.1 o g]
      · exact hc.2
    have ed : D' a b = D a b := by
      rcases Lk_D hl with ⟨rfl, g⟩ | ⟨rfl, g⟩ | g | ⟨rfl, g⟩
      · exact hd.1 b g
      · exact hd.2.1 b g
      · rw [hd.2.2.1 a g]
      · exact hd.2.2.2 b g
    rw [ec, ed]
    exact h1 o j a b hl
  · rw [hd.1 (43 + k) (by omega), hc.1 10 (by omega)]; exact h2 k hk
  · rw [hd.2.1 (43 + k) (by omega), hc.1 11 (by omega)]; exact h2' k hk
  · rw [hd.1 b (by omega)]; exact h3 b h1 h2 h3' h4
  · rw [hd.2.1 b (by omega)]; exact h3' b h1 h2 h3 h4
  · rw [hd.2.2.1 6 (by omega), hd.2.2.1 7 (by omega)]; exact h4 s hs
  · rw [hc.1 26 (by omega), hc.1 30 (by omega), hd.1 5 (by omega)]; exact h5.1.cg (fun k hk => hd.1 (113 + k) (by omega))
  · rw [hc.1 27 (by omega), hc.1 31 (by omega), hd.1 6 (by omega)]; exact h5.2.cg (fun k hk => hd.1 (163 + k) (by omega))
  · have h9 := h8 (by rw [← e4]; exact hk)
    refine ⟨⟨?_, ?_⟩, h9.2.cg (fun o ho => hc.1 o (by omega)) (fun k hk => hd.2.1 k hk)⟩
    · rw [hc.1 28 (by omega), hc.1 32 (by omega), hd.2.1 5 (by omega)]; exact h9.1.1.cg (fun k hk => hd.2.1 (113 + k) (by omega))
    · rw [hc.1 29 (by omega), hc.1 33 (by omega), hd.2.1 6 (by omega)]; exact h9.1.2.cg (fun k hk => hd.2.1 (163 + k) (by omega))
theorem aw_u_row {M : aw_M} {o j : Nat} {v : Int32} {a : Nat} (h : a ≠ o) : aw_u M o j v a = M a := funext fun b => aw_u_o b h
/-- a number of the row that both sides hold changes -/
theorem Inv.upd1 {n : Nat} {C D : aw_M} (h : Inv n C D) {o j b : Nat} (hl : Lk o j 1 b) (v : Int32) (hv : b < 43 → b ≠ 1 → Rb v 0 (hiB b)) : Inv n (aw_u C o j v) (aw_u D 1 b v) := by
  obtain ⟨h1, ⟨h2, h2'⟩, ⟨h3, h3'⟩, ⟨h4, h4'⟩, h5, h6, h8⟩ := h
  have ho : o = 1 ∨ o = 3 ∨ o = 12 ∨ (14 ≤ o ∧ o < 20) := by unfold Lk at hl; omega
  have hb : b ≠ 5 ∧ b ≠ 6 ∧ (b < 43 ∨ (93 ≤ b ∧ b < 113)) := by unfold Lk at hl; omega
  have eD : ∀ a, a ≠ 1 → aw_u D 1 b v a = D a := fun a ha => aw_u_row ha
  have e1 : ∀ k, k ≠ b → aw_u D 1 b v 1 k = D 1 k := fun k hk => aw_u_j 1 hk
  have eC : ∀ a, a ≠ o → aw_u C o j v a = C a := fun a ha => aw_u_row ha
  refine ⟨h1.upd hl v, ⟨fun k hk => ?_, ?_⟩, ⟨fun k g1 g2 g3 g4 => ?_, ?_⟩, ⟨?_, ?_⟩, ⟨?_, ?_⟩, ?_, ?_⟩
  · rw [e1 (43 + k) (by omega), eC 10 (by omega)]; exact h2 k hk
  · rw [eC 11 (by omega), eD 2 (by omega)]; exact h2'
  · by_cases hk : k = b
    · subst hk; rw [aw_u_s]; exact hv g1 g2
    · rw [e1 k hk]; exact h3 k g1 g2 g3 g4
  · rw [eD 2 (by omega)]; exact h3'
  · intro s hs; rw [eD 6 (by omega), eD 7 (by omega)]; exact h4 s hs
  · rw [eD 0 (by omega)]; exact h4'
  · rw [eC 26 (by omega), eC 30 (by omega), e1 5 (by omega)]; exact h5.1.cg (fun k hk => e1 (113 + k) (by omega))
  · rw [eC 27 (by omega), eC 31 (by omega), e1 6 (by omega)]; exact h5.2.cg (fun k hk => e1 (163 + k) (by omega))
  · rw [eD 0 (by omega)]; exact h6
  · intro hk
    rw [eD 0 (by omega)] at hk
    refine ⟨?_, (h8 hk).2.cg (fun o ho => eC o (by omega)) (fun k _ => by rw [eD 2 (by omega)])⟩
    unfold LawsK
    rw [eC 28 (by omega), eC 29 (by omega), eC 32 (by omega), eC 33 (by omega), eD 2 (by omega)]; exact (h8 hk).1
/-- .. or one beside the rows: errors told, sheets, the trace -/
theorem Inv.upd2 {n : Nat} {C D : aw_M} (h : Inv n C D) {o j a b : Nat} (hl : Lk o j a b) (ha : 5 ≤ a) (v : Int32) (h6 : a = 6 → v = 0 ∨ v = 8 ∨ v = 16 ∨ v = 32) (h7 : a = 7 → Rb v 0 40) : Inv n (aw_u C o j v) (aw_u D a b v) := by
  obtain ⟨h1, ⟨h2, h2'⟩, ⟨h3, h3'⟩, ⟨h4, h4'⟩, h5, g6, h8⟩ := h
  have ho : 57 ≤ o := by unfold Lk at hl; omega
  have eD : ∀ k, k ≠ a → aw_u D a b v k = D k := fun k hk => aw_u_row hk
  have eC : ∀ k, k ≠ o → aw_u C o j v k = C k := fun k hk => aw_u_row hk
  refine ⟨h1.upd hl v, ⟨?_, ?_⟩, ⟨?_, ?_⟩, ⟨?_, ?_⟩, ?_, ?_, ?_⟩
  · rw [eC 10 (by omega), eD 1 (by omega)]; exact h2
  · rw [eC 11 (by omega), eD 2 (by omega)]; exact h2'
  · rw [eD 1 (by omega)]; exact h3
  · rw [eD 2 (by omega)]; exact h3'
  · intro s hs
    refine ⟨?_, ?_⟩
    · rw [aw_u_if]
      by_cases c : 6 = a ∧ s = b
      · rw [if_pos c]; exact h6 c.1.symm
      · rw [if_neg c]; exact (h4 s hs).1
    · rw [aw_u_if]
      by_cases c : 7 = a ∧ s = b
      · rw [if_pos c]; exact h7 c.1.symm
      · rw [if_neg c]; exact (h4 s hs).2
  · rw [eD 0 (by omega)]; exact h4'
  · unfold Laws
    rw [eC 26 (by omega), eC 27 (by omega), eC 30 (by omega), eC 31 (by omega), eD 1 (by omega)]; exact h5
  · rw [eD 0 (by omega)]; exact g6
  · intro hk
    rw [eD 0 (by omega)] at hk
    refine ⟨?_, (h8 hk).2.cg (fun o ho => eC o (by omega)) (fun k _ => by rw [eD 2 (by omega)])⟩
    unfold LawsK
    rw [eC 28 (by omega), eC 29 (by omega), eC 32 (by omega), eC 33 (by omega), eD 2 (by omega)]; exact (h8 hk).1
