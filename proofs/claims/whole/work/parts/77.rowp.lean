-- rows of cloths: what is worked out
abbrev Q4 : Type := Nat × Nat × Nat × Nat
def shw (L : Lw) (D : aw_M) (i p : Nat) : Int32 := sS L (D 1 (13 + 5 * i + 0)) (D 1 (13 + 5 * i + 1)) (D 1 (13 + 5 * i + 2)) (D 1 7) (D 1 8) (D 1 9) (D 1 10) (nI p) (D 1 12)
def lyD (D : aw_M) (i : Nat) : Nat := lyN ((D 1 (13 + 5 * i + 0)).toNatClampNeg)
def wc (L : Lw) (D : aw_M) (i : Nat) : Nat → Nat → Nat
  | 0, _ => 0
  | y + 1, p => (if shw L D i p = 0 then 0 else 1) + wc L D i y (min 99 (p + lyD D i))
def nlt (D : aw_M) (i : Nat) : Nat → Nat → Nat
  | 0, p => p
  | y + 1, p => nlt D i y (min 99 (p + lyD D i))
theorem wc_le (L : Lw) (D : aw_M) (i : Nat) : ∀ y p, wc L D i y p ≤ y := by
  intro y
  induction y with
  | zero => intro p; exact Nat.le_refl 0
  | succ y ih => intro p; unfold wc; have := ih (min 99 (p + lyD D i)); split <;> omega
theorem nlt_le (D : aw_M) (i : Nat) : ∀ y p, p ≤ 99 → nlt D i y p ≤ 99 := by
  intro y
  induction y with
  | zero => intro p h; exact h
  | succ y ih => intro p h; exact ih _ (by omega)
def evs (L : Lw) (D : aw_M) (m y k d : Nat) (t : Q4) : Option Q4 := if d < m ∧ t.1 / 2 ^ d % 2 = 0 then some (t.1 ||| 2 ^ d, t.2.1 + wc L D d y t.2.2.1, nlt D d y t.2.2.1, if k = 0 then d else t.2.2.2) else none
def ev (L : Lw) (D : aw_M) (m y p0 : Nat) : Nat → Nat → Option Q4
  | 0, _ => some (0, 0, p0, 0)
  | k + 1, c => (ev L D m y p0 k (c / 6)).bind (evs L D m y k (c % 6))
def up (t : Option Q4) (b : Nat × Nat) : Nat × Nat := t.elim b (fun t => if t.2.1 < b.1 then (t.2.1, t.2.2.2) else b)
def it (F : Nat → Nat × Nat → Nat × Nat) : Nat → Nat → Nat × Nat → Nat × Nat
  | 0, _, b => b
  | d + 1, j, b => it F d (j + 1) (F j b)
def ex (L : Lw) (D : aw_M) (m y p0 : Nat) : Nat → Nat → Nat → Nat × Nat → Nat × Nat
  | 0, k, c, b => up (ev L D m y p0 k c) b
  | r + 1, k, c, b => it (fun j b => ex L D m y p0 r (k + 1) (c * 6 + j) b) 6 0 b
theorem it_fix {F : Nat → Nat × Nat → Nat × Nat} {b : Nat × Nat} : ∀ d j, (∀ q, j ≤ q → q < j + d → F q b = b) → it F d j b = b := by
  intro d
  induction d with
  | zero => intro j _; rfl
  | succ d ih => intro j h; unfold it; rw [h j (by omega) (by omega)]; exact ih (j + 1) (fun q a c => h q (by omega) (by omega))
theorem it_add (F : Nat → Nat × Nat → Nat × Nat) : ∀ x z j b, it F (x + z) j b = it F z (j + x) (it F x j b) := by
  intro x
  induction x with
  | zero => intro z j b; rw [Nat.zero_add]; rfl
  | succ x ih =>
    intro z j b
    rw [show x + 1 + z = (x + z) + 1 by omega]
    show it F (x + z) (j + 1) (F j b) = it F z (j + (x + 1)) (it F x (j + 1) (F j b))
    rw [ih, show j + 1 + x = j + (x + 1) by omega]
theorem it_blk (F : Nat → Nat × Nat → Nat × Nat) (q s : Nat) : ∀ d j b, it F (q * d) (s + q * j) b = it (fun j b => it F q (s + q * j) b) d j b := by
  intro d
  induction d with
  | zero => intro j b; rfl
  | succ d ih =>
    intro j b
    rw [show q * (d + 1) = q + q * d by rw [Nat.mul_succ]; omega, it_add, show s + q * j + q = s + q * (j + 1) by rw [Nat.mul_succ]; omega, ih]
    rfl
theorem it_cg {F G : Nat → Nat × Nat → Nat × Nat} : ∀ d j b, (∀ q b, j ≤ q → q < j + d → F q b = G q b) → it F d j b = it G d j b := by
  intro d
  induction d with
  | zero => intro j b _; rfl
  | succ d ih => intro j b h; unfold it; rw [h j b (by omega) (by omega)]; exact ih (j + 1) _ (fun q b a c => h q b (by omega) (by omega))
theorem blk {L : Lw} {D : aw_M} {m y p0 : Nat} : ∀ r k c b, it (fun c b => up (ev L D m y p0 (k + r) c) b) (6 ^ r) (c * 6 ^ r) b = ex L D m y p0 r k c b := by
  intro r
  induction r with
  | zero => intro k c b; rw [Nat.pow_zero, Nat.mul_one]; rfl
  | succ r ih =>
    intro k c b
    have e1 : c * 6 ^ (r + 1) = c * 6 ^ (r + 1) + 6 ^ r * 0 := by omega
    rw [e1, Nat.pow_succ, it_blk]
    show _ = it (fun j b => ex L D m y p0 r (k + 1) (c * 6 + j) b) 6 0 b
    refine it_cg 6 0 b (fun q b _ _ => ?_)
    rw [← ih (k + 1) (c * 6 + q) b, show k + 1 + r = k + (r + 1) by omega, show c * (6 ^ r * 6) + 6 ^ r * q = (c * 6 + q) * 6 ^ r by rw [Nat.add_mul, Nat.mul_assoc, Nat.mul_comm (6 ^ r) 6, Nat.mul_comm (6 ^ r) q]]
theorem ev_s {L : Lw} {D : aw_M} {m y p0 k c j : Nat} (hj : j < 6) : ev L D m y p0 (k + 1) (c * 6 + j) = (ev L D m y p0 k c).bind (evs L D m y k j) := by
  show (ev L D m y p0 k ((c * 6 + j) / 6)).bind (evs L D m y k ((c * 6 + j) % 6)) = _
  rw [show (c * 6 + j) / 6 = c by omega, show (c * 6 + j) % 6 = j by omega]
theorem ex_none {L : Lw} {D : aw_M} {m y p0 : Nat} : ∀ r k c b, ev L D m y p0 k c = none → ex L D m y p0 r k c b = b := by
  intro r
  induction r with
  | zero => intro k c b h; unfold ex; rw [h]; rfl
  | succ r ih =>
    intro k c b h
    unfold ex
    exact it_fix 6 0 (fun q _ hq => ih (k + 1) (c * 6 + q) b (by rw [ev_s (by omega), h]; rfl))
theorem evs_le {L : Lw} {D : aw_M} {m y k d : Nat} {t t' : Q4} (h : evs L D m y k d t = some t') : d < m ∧ t.1 / 2 ^ d % 2 = 0 ∧ t' = (t.1 ||| 2 ^ d, t.2.1 + wc L D d y t.2.2.1, nlt D d y t.2.2.1, if k = 0 then d else t.2.2.2) := by
  unfold evs at h
  by_cases c : d < m ∧ t.1 / 2 ^ d % 2 = 0
  · rw [if_pos c] at h
    exact ⟨c.1, c.2, (Option.some.inj h).symm⟩
  · rw [if_neg c] at h; cases h
theorem ex_prune {L : Lw} {D : aw_M} {m y p0 : Nat} : ∀ r k c b t, ev L D m y p0 k c = some t → b.1 ≤ t.2.1 → ex L D m y p0 r k c b = b := by
  intro r
  induction r with
  | zero =>
    intro k c b t h hb
    unfold ex up
    rw [h]
    show (if t.2.1 < b.1 then (t.2.1, t.2.2.2) else b) = b
    rw [if_neg (by omega)]
  | succ r ih =>
    intro k c b t h hb
    unfold ex
    refine it_fix 6 0 (fun q _ hq => ?_)
    have e1 : ev L D m y p0 (k + 1) (c * 6 + q) = evs L D m y k q t := by rw [ev_s (by omega), h]; rfl
    rcases e2 : evs L D m y k q t with _ | t'
    · exact ex_none r _ _ b (e1.trans e2)
    · obtain ⟨-, -, e3⟩ := evs_le e2
      refine ih (k + 1) (c * 6 + q) b t' (e1.trans e2) ?_
      rw [e3]
      show b.1 ≤ t.2.1 + _
      omega
theorem or_64 : ∀ U, U < 64 → ∀ j, j < 6 → U ||| 2 ^ j < 64 ∧ (nI U ||| (1 <<< (nI j &&& 31)) : Int32) = nI (U ||| 2 ^ j) ∧ (((nI U >>> (nI j &&& 31)) &&& 1 : Int32) = 0 ↔ U / 2 ^ j % 2 = 0) := by decide +kernel
theorem ev_b {L : Lw} {D : aw_M} {m y p0 : Nat} (hm : m ≤ 6) (hp : p0 ≤ 99) : ∀ k c t, ev L D m y p0 k c = some t → t.1 < 64 ∧ t.2.1 ≤ y * k ∧ t.2.2.1 ≤ 99 ∧ t.2.2.2 < 6 := by
  intro k
  induction k with
  | zero =>
    intro c t h
    obtain rfl := (Option.some.inj h).symm
    exact ⟨show 0 < 64 by decide, by show 0 ≤ _; omega, hp, show 0 < 6 by decide⟩
  | succ k ih =>
    intro c t h
    rcases e : ev L D m y p0 k (c / 6) with _ | t0
    · have : ev L D m y p0 (k + 1) c = (ev L D m y p0 k (c / 6)).bind (evs L D m y k (c % 6)) := rfl
      rw [this, e] at h; cases h
    · have : ev L D m y p0 (k + 1) c = (ev L D m y p0 k (c / 6)).bind (evs L D m y k (c % 6)) := rfl
      rw [this, e] at h
      obtain ⟨h1, h2, rfl⟩ := evs_le (show evs L D m y k (c % 6) t0 = some t from h)
      obtain ⟨i1, i2, i3, i4⟩ := ih (c / 6) t0 e
      refine ⟨(or_64 t0.1 i1 (c % 6) (by omega)).1, ?_, nlt_le D _ y _ i3, ?_⟩
      · have := wc_le L D (c % 6) y t0.2.2.1
        show t0.2.1 + _ ≤ y * (k + 1)
        rw [Nat.mul_succ]; omega
      · show (if k = 0 then c % 6 else t0.2.2.2) < 6
        split <;> omega
/-- the first cloth of a row -/
theorem ev_f {L : Lw} {D : aw_M} {m y p0 : Nat} : ∀ k c t, c < 6 ^ (k + 1) → ev L D m y p0 (k + 1) c = some t → t.2.2.2 = c / 6 ^ k := by
  intro k
  induction k with
  | zero =>
    intro c t hc h
    have : ev L D m y p0 (0 + 1) c = evs L D m y 0 (c % 6) (0, 0, p0, 0) := rfl
    rw [this] at h
    obtain ⟨-, -, rfl⟩ := evs_le h
    show (if 0 = 0 then c % 6 else 0) = c / 6 ^ 0
    rw [if_pos rfl, Nat.pow_zero, Nat.div_one]
    omega
  | succ k ih =>
    intro c t hc h
    rcases e : ev L D m y p0 (k + 1) (c / 6) with _ | t0
    · have : ev L D m y p0 (k + 1 + 1) c = (ev L D m y p0 (k + 1) (c / 6)).bind (evs L D m y (k + 1) (c % 6)) := rfl
      rw [this, e] at h; cases h
    · have : ev L D m y p0 (k + 1 + 1) c = (ev L D m y p0 (k + 1) (c / 6)).bind (evs L D m y (k + 1) (c % 6)) := rfl
      rw [this, e] at h
      obtain ⟨h1, h2, rfl⟩ := evs_le (show evs L D m y (k + 1) (c % 6) t0 = some t from h)
      have hc' : c / 6 < 6 ^ (k + 1) := by
        rw [Nat.div_lt_iff_lt_mul (by omega)]
        rw [Nat.pow_succ] at hc; exact hc
      have := ih (c / 6) t0 hc' e
      show (if k + 1 = 0 then c % 6 else t0.2.2.2) = c / 6 ^ (k + 1)
      rw [if_neg (by omega), this, Nat.div_div_eq_div_mul, Nat.pow_succ, Nat.mul_comm]
theorem ev_n {L : Lw} {D : aw_M} {m y p0 : Nat} : ∀ d k c, ev L D m y p0 k (c / 6 ^ d) = none → ev L D m y p0 (k + d) c = none := by
  intro d
  induction d with
  | zero => intro k c h; rw [Nat.pow_zero, Nat.div_one] at h; exact h
  | succ d ih =>
    intro k c h
    have : ev L D m y p0 (k + (d + 1)) c = (ev L D m y p0 (k + d) (c / 6)).bind (evs L D m y (k + d) (c % 6)) := rfl
    rw [this, ih k (c / 6) (by rw [Nat.div_div_eq_div_mul]; rw [Nat.pow_succ, Nat.mul_comm] at h; exact h)]
    rfl
theorem up_le (t : Option Q4) (b : Nat × Nat) : (up t b).1 ≤ b.1 := by
  unfold up
  rcases t with _ | t
  · exact Nat.le_refl _
  · show (if t.2.1 < b.1 then (t.2.1, t.2.2.2) else b).1 ≤ b.1
    by_cases c : t.2.1 < b.1
    · rw [if_pos c]; show t.2.1 ≤ b.1; omega
    · rw [if_neg c]; exact Nat.le_refl _
theorem it_le {F : Nat → Nat × Nat → Nat × Nat} (h : ∀ c b, (F c b).1 ≤ b.1) : ∀ d j b, (it F d j b).1 ≤ b.1 := by
  intro d
  induction d with
  | zero => intro j b; exact Nat.le_refl _
  | succ d ih => intro j b; exact Nat.le_trans (ih (j + 1) (F j b)) (h j b)
theorem it_hit {F : Nat → Nat × Nat → Nat × Nat} (h : ∀ c b, (F c b).1 ≤ b.1) {q N : Nat} (hq : ∀ b, (F q b).1 ≤ N) : ∀ d j b, j ≤ q → q < j + d → (it F d j b).1 ≤ N := by
  intro d
  induction d with
  | zero => intro j b a c; omega
  | succ d ih =>
    intro j b a c
    by_cases e : q = j
    · subst e; exact Nat.le_trans (it_le h d (q + 1) (F q b)) (hq b)
    · exact ih (j + 1) (F j b) (by omega) (by omega)
theorem ev_t {L : Lw} {D : aw_M} {m y p0 k c : Nat} {t : Q4} (h : ev L D m y p0 k c = some t) (j : Nat) (hj : j < 6) (hjm : j < m) (ht : t.1 / 2 ^ j % 2 = 0) : ∃ t', ev L D m y p0 (k + 1) (c * 6 + j) = some t' ∧ t'.1 = t.1 ||| 2 ^ j := by
  refine ⟨(t.1 ||| 2 ^ j, t.2.1 + wc L D j y t.2.2.1, nlt D j y t.2.2.1, if k = 0 then j else t.2.2.2), ?_, rfl⟩
  rw [ev_s hj, h]
  show evs L D m y k j t = _
  unfold evs
  rw [if_pos ⟨hjm, ht⟩]
/-- there is a row -/
theorem ev_any {L : Lw} {D : aw_M} {m y p0 n : Nat} (h1 : 1 ≤ n) (h4 : n ≤ 4) (hm : n ≤ m) : ∃ c t, c < 6 ^ n ∧ ev L D m y p0 n c = some t := by
  have e0 : ev L D m y p0 0 0 = some (0, 0, p0, 0) := rfl
  obtain ⟨t1, a1, b1⟩ := ev_t e0 0 (by omega) (by omega) (show 0 / 2 ^ 0 % 2 = 0 by decide)
  replace b1 : t1.1 = 1 := by rw [b1]; show 0 ||| 2 ^ 0 = 1; decide
  by_cases c1 : n = 1
  · subst c1; exact ⟨_, t1, by decide, a1⟩
  obtain ⟨t2, a2, b2⟩ := ev_t a1 1 (by omega) (by omega) (by rw [b1])
  replace b2 : t2.1 = 3 := by rw [b2, b1]; decide
  by_cases c2 : n = 2
  · subst c2; exact ⟨_, t2, by decide, a2⟩
  obtain ⟨t3, a3, b3⟩ := ev_t a2 2 (by omega) (by omega) (by rw [b2])
  replace b3 : t3.1 = 7 := by rw [b3, b2]; decide
  by_cases c3 : n = 3
  · subst c3; exact ⟨_, t3, by decide, a3⟩
  obtain ⟨t4, a4, b4⟩ := ev_t a3 3 (by omega) (by omega) (by rw [b3])
  obtain rfl : n = 4 := by omega
  exact ⟨_, t4, by decide, a4⟩
