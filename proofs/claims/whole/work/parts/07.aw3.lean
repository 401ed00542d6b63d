/-- a field that class 'own' names by its pool's number idx: field k of class ci of the table -/
def aw_L (own : String) (idx ci k : Nat) : Prop := ∃ (C : String) (T : u_T) (N : Nat) (ty0 : Nat → FieldType), vwCl[ci]? = some (C, T, N) ∧ k < N ∧ Cond.fieldLink own idx C (T k).2.1 (T k).2.2.1 ∈ tb_g ∧ (T k).1 = C ∧ (∀ w ∈ u_ws C T N, w ∈ tb_g) ∧ (∀ k, k < N → parseFieldDescriptor (T k).2.2.1 = some (ty0 k)) ∧ (∀ a, a < N → ∀ b, b < N → a ≠ b → (T a).2.1 ≠ (T b).2.1)
/-- .. and it may be written, with numbers of type ty -/
def aw_LW (ci k : Nat) (ty : FieldType) : Prop := ∀ (C : String) (T : u_T) (N : Nat), vwCl[ci]? = some (C, T, N) → (T k).2.2.2 = false ∧ parseFieldDescriptor (T k).2.2.1 = some ty
theorem aw_mi_set {ad : Nat → Nat} {f : Nat → Int32} {ks : List Nat} {k : Nat} {kd : Nat} {x : Int32} (hk : ks[k]? = some kd) : (ks.mapIdx (aw_fv ad f)).set k (aw_fv ad (upd f k x) k kd) = ks.mapIdx (aw_fv ad (upd f k x)) := by
  apply List.ext_getElem?
  intro j
  have hl : k < (ks.mapIdx (aw_fv ad f)).length := by
    rw [List.length_mapIdx]; exact (List.getElem?_eq_some_iff.mp hk).1
  by_cases hj : j = k
  · subst hj
    rw [List.getElem?_set_self hl, List.getElem?_mapIdx, hk]; rfl
  · rw [List.getElem?_set_ne (Ne.symm hj), List.getElem?_mapIdx, List.getElem?_mapIdx]
    cases ks[j]? with
    | none => rfl
    | some q =>
      have e : upd f k x j = f j := by simp [upd, hj]
      show some (aw_fv ad f j q) = some (aw_fv ad (upd f k x) j q)
      unfold aw_fv
      rw [e]
section AMS
variable {l : Launch} {D : va_G} {cy : Nat → ClassId} {ad : Nat → Nat} {A : Nat → Prop} {G : List aw_D} {own : String} {cc : ByteArray} {nL : Nat} {ret : Option FieldType} {d : Nat} {v : Option Value} {M1 : aw_M} {pc : Nat} {lv : List (Nat × Value)} {st : List Value} {M : aw_M}
theorem x_get {idx ci f o kd : Nat} {ks : List Nat} {w : Value} (hd : decode cc pc = .ok (.getfield idx, 3)) (hw : aw_L own idx ci f) (hG : G[o]? = some (0, ci, ks)) (hk : ks[f]? = some kd) (hv : aw_fv ad (M o) f kd = w) (k : AW l D cy ad A G own cc nL ret d v M1 (pc + 3) lv (w :: st) M) : AW l D cy ad A G own cc nL ret d v M1 pc lv (.ref (ad o) :: st) M := by
  obtain ⟨C0, T, N, ty0, h1, h2, h3, h4, h5, -, -⟩ := hw
  intro p e s m args below meth c H locs ls C hP hS hl
  refine va_get C.1 C.2.1 C.2.2.2.2.1 h5 C.2.2.2.1 C.2.2.2.2.2.1 hP o (fs := ks.mapIdx (aw_fv ad (M o))) (aw_W_at hG) h1 f h2 (C.2.2.2.2.1 _ h3) (fun x hx => by rw [h4] at hx; exact hx) (v := w) ?_ hd (k p e s m args below meth c H locs ls C hP hS hl)
  rw [List.getElem?_mapIdx, hk]
  exact congrArg some hv
theorem x_put {idx ci f o kd : Nat} {ks : List Nat} {x : Int32} {ty : FieldType} (hd : decode cc pc = .ok (.putfield idx, 3)) (hw : aw_L own idx ci f) (hWr : aw_LW ci f ty) (hG : G[o]? = some (0, ci, ks)) (hk : ks[f]? = some kd) {w : Value} (hv : aw_fv ad (upd (M o) f x) f kd = w) (hn : narrow ty w = w) (hfit : fits ty w = true) (k : AW l D cy ad A G own cc nL ret d v M1 (pc + 3) lv st (aw_u M o f x)) : AW l D cy ad A G own cc nL ret d v M1 pc lv (w :: .ref (ad o) :: st) M := by
  obtain ⟨C0, T, N, ty0, h1, h2, h3, h4, h5, h6, h7⟩ := hw
  obtain ⟨g1, g2⟩ := hWr C0 T N h1
  intro p e s m args below meth c H locs ls C hP hS hl
  refine va_put C.1 C.2.1 C.2.2.2.2.1 h5 ty0 h6 h7 C.2.2.2.1 C.2.2.2.2.2.1 hP (aw_D_any C.2.2.2.2.2.2.1) hS o (fs := ks.mapIdx (aw_fv ad (M o))) (aw_W_at hG) h1 f h2 (C.2.2.2.2.1 _ h3) (fun x hx => by rw [h4] at hx; exact hx) g1 g2 hn hfit (by rw [List.length_mapIdx]; exact (List.getElem?_eq_some_iff.mp hk).1) hd (fun H1 locs1 hP1 hD1 hS1 => ?_)
  have e1 : (aw_W cy ad G M).set o (ad o, .inr (ci, (ks.mapIdx (aw_fv ad (M o))).set f w)) = aw_W cy ad G (aw_u M o f x) := by
    rw [← hv, aw_mi_set hk]
    exact aw_W_set hG
  rw [e1] at hP1
  exact k p e s m args below meth c H1 locs1 ls C hP1 hS1 hl
abbrev aw_in (i : Int32) (n : Nat) : Prop := i < 0 ∨ n ≤ i.toNatClampNeg
theorem aw_lt {i : Int32} {n : Nat} (h : ¬ aw_in i n) : i.toNatClampNeg < n := Nat.not_le.mp fun q => h (Or.inr q)
theorem x_iald {o n : Nat} {ks : List Nat} {i : Int32} (hd : decode cc pc = .ok (.iaload, 1)) (hG : G[o]? = some (1, n, ks)) (hin : ¬ aw_in i n) (k : AW l D cy ad A G own cc nL ret d v M1 (pc + 1) lv (.int (M o i.toNatClampNeg) :: st) M) : AW l D cy ad A G own cc nL ret d v M1 pc lv (.int i :: .ref (ad o) :: st) M := fun p e s m args below meth c H locs ls C hP hS hl => va_iald C.1 C.2.1 C.2.2.2.2.2.1 hP o 0 (aw_W_at hG) rfl hin hd (k p e s m args below meth c H locs ls C hP hS hl)
theorem x_bald {o n : Nat} {ks : List Nat} {i : Int32} (hd : decode cc pc = .ok (.baload, 1)) (hG : G[o]? = some (2, n, ks)) (hin : ¬ aw_in i n) (k : AW l D cy ad A G own cc nL ret d v M1 (pc + 1) lv (.int (M o i.toNatClampNeg) :: st) M) : AW l D cy ad A G own cc nL ret d v M1 pc lv (.int i :: .ref (ad o) :: st) M := fun p e s m args below meth c H locs ls C hP hS hl => va_bald C.1 C.2.1 C.2.2.2.2.2.1 hP o 1 (aw_W_at hG) rfl hin hd (k p e s m args below meth c H locs ls C hP hS hl)
theorem x_iast {o n : Nat} {ks : List Nat} {i x : Int32} (hd : decode cc pc = .ok (.iastore, 1)) (hG : G[o]? = some (1, n, ks)) (hin : ¬ aw_in i n) (k : AW l D cy ad A G own cc nL ret d v M1 (pc + 1) lv st (aw_u M o i.toNatClampNeg x)) : AW l D cy ad A G own cc nL ret d v M1 pc lv (.int x :: .int i :: .ref (ad o) :: st) M := by
  intro p e s m args below meth c H locs ls C hP hS hl
  refine va_iast C.1 C.2.1 C.2.2.2.2.2.1 hP (aw_D_any C.2.2.2.2.2.2.1) hS o 0 (aw_W_at hG) rfl hin hd (fun H1 locs1 hP1 hD1 hS1 => ?_)
  have e1 : (aw_W cy ad G M).set o (ad o, .inl (cy 0, n, .inl (upd (M o) i.toNatClampNeg x))) = aw_W cy ad G (aw_u M o i.toNatClampNeg x) := aw_W_set hG
  exact k p e s m args below meth c H1 locs1 ls C (e1 ▸ hP1) hS1 hl
theorem x_bast {o n : Nat} {ks : List Nat} {i x : Int32} (hd : decode cc pc = .ok (.bastore, 1)) (hG : G[o]? = some (2, n, ks)) (hin : ¬ aw_in i n) (k : AW l D cy ad A G own cc nL ret d v M1 (pc + 1) lv st (aw_u M o i.toNatClampNeg x.toInt8.toInt32)) : AW l D cy ad A G own cc nL ret d v M1 pc lv (.int x :: .int i :: .ref (ad o) :: st) M := by
  intro p e s m args below meth c H locs ls C hP hS hl
  refine va_bast C.1 C.2.1 C.2.2.2.2.2.1 hP (aw_D_any C.2.2.2.2.2.2.1) hS o 1 (aw_W_at hG) rfl hin hd (fun H1 locs1 hP1 hD1 hS1 => ?_)
  rw [vp_nar_byte] at hP1
  have e1 : (aw_W cy ad G M).set o (ad o, .inl (cy 1, n, .inl (upd (M o) i.toNatClampNeg x.toInt8.toInt32))) = aw_W cy ad G (aw_u M o i.toNatClampNeg x.toInt8.toInt32) := aw_W_set hG
  exact k p e s m args below meth c H1 locs1 ls C (e1 ▸ hP1) hS1 hl
theorem x_aald {o n t r : Nat} {ks : List Nat} {i : Int32} {C0 : String} (hd : decode cc pc = .ok (.aaload, 1)) (hG : G[o]? = some (t + 3, n, ks)) (ht : ∀ cy : Nat → ClassId, (aw_tys cy)[t + 2]? = some (cy (t + 2), .object C0)) (hin : ¬ aw_in i n) (hr : ks[i.toNatClampNeg]? = some r) (k : AW l D cy ad A G own cc nL ret d v M1 (pc + 1) lv (.ref (ad r) :: st) M) : AW l D cy ad A G own cc nL ret d v M1 pc lv (.int i :: .ref (ad o) :: st) M := by
  intro p e s m args below meth c H locs ls C hP hS hl
  refine va_aldq C.1 C.2.1 C.2.2.2.2.2.1 hP o (t + 2) (aw_W_at hG) (ht cy) hin hd ?_
  rw [hr]
  exact k p e s m args below meth c H locs ls C hP hS hl
theorem x_alen {o n : Nat} {ks : List Nat} {w : Int32} (hd : decode cc pc = .ok (.arraylength, 1)) (hG : G[o]? = some (1, n, ks)) (hv : Int32.ofNat n = w) (k : AW l D cy ad A G own cc nL ret d v M1 (pc + 1) lv (.int w :: st) M) : AW l D cy ad A G own cc nL ret d v M1 pc lv (.ref (ad o) :: st) M := fun p e s m args below meth c H locs ls C hP hS hl => va_alen C.1 C.2.1 C.2.2.2.2.2.1 hP o 0 (aw_W_at hG) rfl hv hd (k p e s m args below meth c H locs ls C hP hS hl)
theorem x_blen {o n : Nat} {ks : List Nat} {w : Int32} (hd : decode cc pc = .ok (.arraylength, 1)) (hG : G[o]? = some (2, n, ks)) (hv : Int32.ofNat n = w) (k : AW l D cy ad A G own cc nL ret d v M1 (pc + 1) lv (.int w :: st) M) : AW l D cy ad A G own cc nL ret d v M1 pc lv (.ref (ad o) :: st) M := fun p e s m args below meth c H locs ls C hP hS hl => va_alen C.1 C.2.1 C.2.2.2.2.2.1 hP o 1 (aw_W_at hG) rfl hv hd (k p e s m args below meth c H locs ls C hP hS hl)
theorem x_rlen {o n t : Nat} {ks : List Nat} {w : Int32} {C0 : String} (hd : decode cc pc = .ok (.arraylength, 1)) (hG : G[o]? = some (t + 3, n, ks)) (ht : ∀ cy : Nat → ClassId, (aw_tys cy)[t + 2]? = some (cy (t + 2), .object C0)) (hv : Int32.ofNat n = w) (k : AW l D cy ad A G own cc nL ret d v M1 (pc + 1) lv (.int w :: st) M) : AW l D cy ad A G own cc nL ret d v M1 pc lv (.ref (ad o) :: st) M := fun p e s m args below meth c H locs ls C hP hS hl => va_alen C.1 C.2.1 C.2.2.2.2.2.1 hP o (t + 2) (aw_W_at hG) (ht cy) hv hd (k p e s m args below meth c H locs ls C hP hS hl)
theorem x_gs0 {idx : Nat} (hd : decode cc pc = .ok (.getstatic idx, 3)) (hw : Cond.fieldLink own idx "LoopsBelow" "DEED_SECONDS" "[I" ∈ tb_g) (k : AW l D cy ad A G own cc nL ret d v M1 (pc + 3) lv (.ref (ad 910) :: st) M) : AW l D cy ad A G own cc nL ret d v M1 pc lv st M := fun p e s m args below meth c H locs ls C hP hS hl => va_gets C.1 C.2.1 C.2.2.2.2.2.2.2.1.1.1 hS C.2.2.2.1 (C.2.2.2.2.1 _ hw) (fun _ h => h) hd (k p e s m args below meth c H locs ls C hP hS hl)
theorem x_gs0N {idx : Nat} {host : String} (hd : decode cc pc = .ok (.getstatic idx, 3)) (hw : (own, idx, "LoopsBelow", "DEED_SECONDS", "[I", host) ∈ tb_nf) (k : AW l D cy ad A G own cc nL ret d v M1 (pc + 3) lv (.ref (ad 910) :: st) M) : AW l D cy ad A G own cc nL ret d v M1 pc lv st M := fun p e s m args below meth c H locs ls C hP hS hl => va_getsN C.1 C.2.1 C.2.2.2.2.2.2.2.1.1.1 hS C.2.2.2.1 (va_Nw.use rfl (C.2.2.2.2.2.2.2.2.1.2.2 _ hw)) (fun _ h => h) hd (k p e s m args below meth c H locs ls C hP hS hl)
theorem x_gs1N {idx : Nat} {host : String} (hd : decode cc pc = .ok (.getstatic idx, 3)) (hw : (own, idx, "LoopsBelow", "BODIES", "[I", host) ∈ tb_nf) (k : AW l D cy ad A G own cc nL ret d v M1 (pc + 3) lv (.ref (ad 911) :: st) M) : AW l D cy ad A G own cc nL ret d v M1 pc lv st M := fun p e s m args below meth c H locs ls C hP hS hl => va_getsN C.1 C.2.1 C.2.2.2.2.2.2.2.1.2.1.1 hS C.2.2.2.1 (va_Nw.use rfl (C.2.2.2.2.2.2.2.2.1.2.2 _ hw)) (fun _ h => h) hd (k p e s m args below meth c H locs ls C hP hS hl)
theorem x_ti0 {i : Int32} (hd : decode cc pc = .ok (.iaload, 1)) (hin : ¬ aw_in i 7) (k : AW l D cy ad A G own cc nL ret d v M1 (pc + 1) lv (.int (aw_t0.getD i.toNatClampNeg 0) :: st) M) : AW l D cy ad A G own cc nL ret d v M1 pc lv (.int i :: .ref (ad 910) :: st) M := fun p e s m args below meth c H locs ls C hP hS hl => va_ti C.1 C.2.1 C.2.2.2.2.2.2.2.1.1.2 hS hin rfl hd (k p e s m args below meth c H locs ls C hP hS hl)
theorem x_ti1 {i : Int32} (hd : decode cc pc = .ok (.iaload, 1)) (hin : ¬ aw_in i 28) (k : AW l D cy ad A G own cc nL ret d v M1 (pc + 1) lv (.int (aw_t1.getD i.toNatClampNeg 0) :: st) M) : AW l D cy ad A G own cc nL ret d v M1 pc lv (.int i :: .ref (ad 911) :: st) M := fun p e s m args below meth c H locs ls C hP hS hl => va_ti C.1 C.2.1 C.2.2.2.2.2.2.2.1.2.1.2 hS hin rfl hd (k p e s m args below meth c H locs ls C hP hS hl)
theorem x_lds0 (ho : own = "LoopsBelow") (hd : decode cc pc = .ok (.ldc 164, 2)) (k : AW l D cy ad A G own cc nL ret d v M1 (pc + 2) lv (.ref (ad 900) :: st) M) : AW l D cy ad A G own cc nL ret d v M1 pc lv st M := fun p e s m args below meth c H locs ls C hP hS hl => va_ldcS C.1 C.2.1 C.2.2.2.1 (ho ▸ C.2.2.2.2.2.2.2.2.1.1.1) hd (k p e s m args below meth c H locs ls C hP hS hl)
theorem x_lds1 (ho : own = "LoopsBelow") (hd : decode cc pc = .ok (.ldc 166, 2)) (k : AW l D cy ad A G own cc nL ret d v M1 (pc + 2) lv (.ref (ad 901) :: st) M) : AW l D cy ad A G own cc nL ret d v M1 pc lv st M := fun p e s m args below meth c H locs ls C hP hS hl => va_ldcS C.1 C.2.1 C.2.2.2.1 (ho ▸ C.2.2.2.2.2.2.2.2.1.1.2) hd (k p e s m args below meth c H locs ls C hP hS hl)
def aw_min (x y : Int32) : Int32 := if y < x then y else x
theorem x_min {idx : Nat} {x y : Int32} (hd : decode cc pc = .ok (.invokestatic idx, 3)) (hw : Cond.methodLink own idx Lib.Math.min.name ∈ tb_g) (hdd : 1 ≤ d) (hr : (st.map fun v => v.category).sum ≤ 8) (k : AW l D cy ad A G own cc nL ret d v M1 (pc + 3) lv (.int (aw_min x y) :: st) M) : AW l D cy ad A G own cc nL ret d v M1 pc lv (.int y :: .int x :: st) M := fun p e s m args below meth c H locs ls C hP hS hl => va_mmin C.1 C.2.1 (C.2.2.1.trans hl.1.symm) C.2.2.2.1 (C.2.2.2.2.1 _ hw) (C.2.2.2.2.1 _ w_min_s) (C.2.2.2.2.1 _ w_math_i) (C.2.2.2.2.1 _ w_min_c) hdd (by show _ ≤ 64 * d; omega) (Nat.zero_le _) (Nat.zero_le _) hd (k p e s m args below meth c H locs ls C hP hS hl)
def aw_max (x y : Int32) : Int32 := if x < y then y else x
theorem x_max {idx : Nat} {x y : Int32} (hd : decode cc pc = .ok (.invokestatic idx, 3)) (hw : Cond.methodLink own idx Lib.Math.max.name ∈ tb_g) (hdd : 1 ≤ d) (hr : (st.map fun v => v.category).sum ≤ 8) (k : AW l D cy ad A G own cc nL ret d v M1 (pc + 3) lv (.int (aw_max x y) :: st) M) : AW l D cy ad A G own cc nL ret d v M1 pc lv (.int y :: .int x :: st) M := fun p e s m args below meth c H locs ls C hP hS hl => va_mmax C.1 C.2.1 (C.2.2.1.trans hl.1.symm) C.2.2.2.1 (C.2.2.2.2.1 _ hw) (C.2.2.2.2.1 _ w_max_s) (C.2.2.2.2.1 _ w_math_i) (C.2.2.2.2.1 _ w_max_c) hdd (by show _ ≤ 64 * d; omega) (Nat.zero_le _) (Nat.zero_le _) hd (k p e s m args below meth c H locs ls C hP hS hl)
def aw_abs (x : Int32) : Int32 := if 0 ≤ x then x else 0 - x
theorem x_abs {idx : Nat} {x : Int32} (hd : decode cc pc = .ok (.invokestatic idx, 3)) (hw : Cond.methodLink own idx Lib.Math.abs.name ∈ tb_g) (hdd : 1 ≤ d) (hr : (st.map fun v => v.category).sum ≤ 8) (k : AW l D cy ad A G own cc nL ret d v M1 (pc + 3) lv (.int (aw_abs x ) :: st) M) : AW l D cy ad A G own cc nL ret d v M1 pc lv (.int x :: st) M := fun p e s m args below meth c H locs ls C hP hS hl => va_mabs C.1 C.2.1 (C.2.2.1.trans hl.1.symm) C.2.2.2.1 (C.2.2.2.2.1 _ hw) (C.2.2.2.2.1 _ w_abs_s) (C.2.2.2.2.1 _ w_math_i) (C.2.2.2.2.1 _ w_abs_c) hdd (by show _ ≤ 64 * d; omega) (Nat.zero_le _) (Nat.zero_le _) hd (k p e s m args below meth c H locs ls C hP hS hl)
theorem x_copyi {idx o0 o1 n0 n1 : Nat} {ks0 ks1 : List Nat} {sp dp n : Int32} (hd : decode cc pc = .ok (.invokestatic idx, 3)) (hw : Cond.methodLink own idx arraycopyName ∈ tb_g) (hdd : 1 ≤ d) (hr : (st.map fun v => v.category).sum ≤ 8) (hG0 : G[o0]? = some (1, n0, ks0)) (hG1 : G[o1]? = some (1, n1, ks1)) (h1 : ¬ sp < 0) (h2 : ¬ dp < 0) (h3 : ¬ n < 0) (h4 : sp.toNatClampNeg + n.toNatClampNeg ≤ n0) (h5 : dp.toNatClampNeg + n.toNatClampNeg ≤ n1) (k : AW l D cy ad A G own cc nL ret d v M1 (pc + 3) lv st (aw_un M o1 (va_cpy (M o0) (M o1) sp.toNatClampNeg dp.toNatClampNeg n.toNatClampNeg))) : AW l D cy ad A G own cc nL ret d v M1 pc lv (.int n :: .int dp :: .ref (ad o1) :: .int sp :: .ref (ad o0) :: st) M := by
  intro p e s m args below meth c H locs ls C hP hS hl
  have hrm : (st.map fun v => v.category).sum + (nativeFrameWords "java/lang/System" "arraycopy" 5 + 11) ≤ (aw_R d).locals := by
    have e1 : nativeFrameWords "java/lang/System" "arraycopy" 5 ≤ 40 := by decide +kernel
    show _ ≤ 64 * d
    omega
  refine va_copyi C.1 C.2.1 (C.2.2.1.trans hl.1.symm) C.2.2.2.1 (C.2.2.2.2.1 _ hw) (C.2.2.2.2.1 _ w_copy_n) (C.2.2.2.2.1 _ w_copy_s) (C.2.2.2.2.1 _ w_copy_i) C.2.2.2.2.2.1 hP (aw_D_any C.2.2.2.2.2.2.1) hS o0 o1 0 0 (ty := .int) (aw_W_at hG0) (aw_W_at hG1) rfl rfl rfl h1 h2 h3 h4 h5 (fun _ _ => rfl) hdd hrm hd (fun H1 locs1 hP1 hD1 hS1 => ?_)
  have e1 : (aw_W cy ad G M).set o1 (ad o1, .inl (cy 0, n1, .inl (va_cpy (M o0) (M o1) sp.toNatClampNeg dp.toNatClampNeg n.toNatClampNeg))) = aw_W cy ad G (aw_un M o1 (va_cpy (M o0) (M o1) sp.toNatClampNeg dp.toNatClampNeg n.toNatClampNeg)) := aw_W_set hG1
  exact k p e s m args below meth c H1 locs1 ls C (e1 ▸ hP1) hS1 hl
theorem x_copyb {idx o0 o1 n0 n1 : Nat} {ks0 ks1 : List Nat} {sp dp n : Int32} (hd : decode cc pc = .ok (.invokestatic idx, 3)) (hw : Cond.methodLink own idx arraycopyName ∈ tb_g) (hdd : 1 ≤ d) (hr : (st.map fun v => v.category).sum ≤ 8) (hG0 : G[o0]? = some (2, n0, ks0)) (hG1 : G[o1]? = some (2, n1, ks1)) (h1 : ¬ sp < 0) (h2 : ¬ dp < 0) (h3 : ¬ n < 0) (h4 : sp.toNatClampNeg + n.toNatClampNeg ≤ n0) (h5 : dp.toNatClampNeg + n.toNatClampNeg ≤ n1) (hfit : ∀ j, j < n.toNatClampNeg → fits .byte (.int (M o0 (sp.toNatClampNeg + j))) = true) (k : AW l D cy ad A G own cc nL ret d v M1 (pc + 3) lv st (aw_un M o1 (va_cpy (M o0) (M o1) sp.toNatClampNeg dp.toNatClampNeg n.toNatClampNeg))) : AW l D cy ad A G own cc nL ret d v M1 pc lv (.int n :: .int dp :: .ref (ad o1) :: .int sp :: .ref (ad o0) :: st) M := by
  intro p e s m args below meth c H locs ls C hP hS hl
  have hrm : (st.map fun v => v.category).sum + (nativeFrameWords "java/lang/System" "arraycopy" 5 + 11) ≤ (aw_R d).locals := by
    have e1 : nativeFrameWords "java/lang/System" "arraycopy" 5 ≤ 40 := by decide +kernel
    show _ ≤ 64 * d
    omega
  refine va_copyi C.1 C.2.1 (C.2.2.1.trans hl.1.symm) C.2.2.2.1 (C.2.2.2.2.1 _ hw) (C.2.2.2.2.1 _ w_copy_n) (C.2.2.2.2.1 _ w_copy_s) (C.2.2.2.2.1 _ w_copy_i) C.2.2.2.2.2.1 hP (aw_D_any C.2.2.2.2.2.2.1) hS o0 o1 1 1 (ty := .byte) (aw_W_at hG0) (aw_W_at hG1) rfl rfl rfl h1 h2 h3 h4 h5 hfit hdd hrm hd (fun H1 locs1 hP1 hD1 hS1 => ?_)
  have e1 : (aw_W cy ad G M).set o1 (ad o1, .inl (cy 1, n1, .inl (va_cpy (M o0) (M o1) sp.toNatClampNeg dp.toNatClampNeg n.toNatClampNeg))) = aw_W cy ad G (aw_un M o1 (va_cpy (M o0) (M o1) sp.toNatClampNeg dp.toNatClampNeg n.toNatClampNeg)) := aw_W_set hG1
  exact k p e s m args below meth c H1 locs1 ls C (e1 ▸ hP1) hS1 hl
/-- the words of a call: link, code and what the descriptor says -/
def aw_V (own : String) (idx : Nat) (C : String) (y : MethodName) (bytes : ByteArray) (maxL : Nat) (ret : Option FieldType) (n : Nat) : Prop :=
  Cond.methodLink own idx y ∈ tb_g ∧ Cond.instanceMethod y ∈ tb_g ∧ Cond.selects C y y ∈ tb_g ∧ Cond.initialized C ∈ tb_g ∧ Cond.code y bytes maxL ret ∈ tb_g ∧ (y.cls = C ∧ y.cls ≠ "java/lang/invoke/MethodHandle" ∧ y.cls ≠ "java/lang/invoke/VarHandle" ∧ (parseMethodDescriptor y.desc).map (fun d => d.parameters.length) = some n) ∧ maxL ≤ 40
def aw_S (own : String) (idx : Nat) (y : MethodName) (bytes : ByteArray) (maxL : Nat) (ret : Option FieldType) (n : Nat) : Prop :=
  Cond.methodLink own idx y ∈ tb_g ∧ Cond.static y ∈ tb_g ∧ Cond.initialized y.cls ∈ tb_g ∧ Cond.code y bytes maxL ret ∈ tb_g ∧ (y.cls ≠ "java/lang/invoke/MethodHandle" ∧ y.cls ≠ "java/lang/invoke/VarHandle" ∧ (parseMethodDescriptor y.desc).map (fun d => d.parameters.length) = some n) ∧ maxL ≤ 40
theorem aw_gd {y : MethodName} {bytes : ByteArray} {maxL : Nat} {ret : Option FieldType} (h : Cond.code y bytes maxL ret ∈ tb_g) : GoodIn tb_g (aw_ws y bytes maxL ret) := by
  intro w hw
  rcases List.mem_cons.mp hw with rfl | hw
  · exact tb_good _ h
  · exact tb_good _ hw
theorem aw_gc {ws1 : List Cond} {y : MethodName} {bytes : ByteArray} {maxL : Nat} {ret : Option FieldType} (h0 : ∀ w ∈ ws1, w ∈ tb_g) (h : Cond.code y bytes maxL ret ∈ tb_g) : GoodIn tb_g (ws1 ++ aw_ws y bytes maxL ret) := by
  intro w hw
  rcases List.mem_append.mp hw with hw | hw
  · exact tb_good _ (h0 w hw)
  · exact aw_gd h w hw
theorem aw_rm {d d' maxL : Nat} (h : d' + 1 ≤ d) (hm : maxL ≤ 40) : (aw_R d').frames + 1 ≤ (aw_R d).frames ∧ 8 + (maxL + 11) + (aw_R d').locals ≤ (aw_R d).locals := ⟨h, by show 8 + (maxL + 11) + 64 * d' ≤ 64 * d; omega⟩
theorem x_callV {idx ci o n d' maxL : Nat} {ks : List Nat} {C0 : String} {T0 : u_T} {N0 : Nat} {y : MethodName} {bytes : ByteArray} {ret' : Option FieldType} {As rest st' : List Value} {w : Option Value} {M2 : aw_M} (hd : decode cc pc = .ok (.invokevirtual idx, 3)) (hw : aw_V own idx C0 y bytes maxL ret' n) (hdd : d' + 1 ≤ d) (hG : G[o]? = some (0, ci, ks)) (hci : vwCl[ci]? = some (C0, T0, N0)) (hn : As.length = n) (hst : st = As.reverse ++ .ref (ad o) :: rest) (hr : (rest.map fun v => v.category).sum ≤ 8) (hM : AX l D cy ad A G y bytes maxL ret' d' (.ref (ad o) :: As) M w M2) (hk : w.toList ++ rest = st') (k : AW l D cy ad A G own cc nL ret d v M1 (pc + 3) lv st' M2) : AW l D cy ad A G own cc nL ret d v M1 pc lv st M := by
  subst hst; subst hk
  obtain ⟨h1, h2, h3, h4, h5, h6, h7⟩ := hw
  intro p e s m args below meth c H locs ls C hP hS hl
  refine aw_go (va_runV (As := As) (rest := rest) (ws := aw_ws y bytes maxL ret') (rm := aw_R d') ⟨C.1, C.2.1, C.2.2.1, C.2.2.2.1, C.2.2.2.2.1⟩ hM (cwV n C.2.2.2.2.1 (aw_gc (fun w hw => by rcases (by simpa using hw : w = _ ∨ w = _ ∨ w = _ ∨ w = _) with rfl | rfl | rfl | rfl <;> assumption) h5) rfl rfl rfl h6 (aw_rm hdd h7)) ⟨aw_blind, va_recv C.2.2.2.2.2.1 hP hci (aw_W_at hG), aw_pre C.2.2.2.2.2.1 C.2.2.2.2.2.2.1 C.2.2.2.2.2.2.2.1 C.2.2.2.2.2.2.2.2.1.1 C.2.2.2.2.2.2.2.2.1.2 hP hS⟩ rfl hn hl.1 rfl (lv_room hr) hd ⟨Nat.le_refl _, Nat.le_refl _⟩) hS (fun H1 locs1 hP1 hS1 => k p e s m args below meth c H1 locs1 ls C hP1 hS1 hl)
theorem x_callS {idx n d' maxL : Nat} {y : MethodName} {bytes : ByteArray} {ret' : Option FieldType} {As rest st' : List Value} {w : Option Value} {M2 : aw_M} (hd : decode cc pc = .ok (.invokestatic idx, 3)) (hw : aw_S own idx y bytes maxL ret' n) (hdd : d' + 1 ≤ d) (hn : As.length = n) (hst : st = As.reverse ++ rest) (hr : (rest.map fun v => v.category).sum ≤ 8) (hM : AX l D cy ad A G y bytes maxL ret' d' As M w M2) (hk : w.toList ++ rest = st') (k : AW l D cy ad A G own cc nL ret d v M1 (pc + 3) lv st' M2) : AW l D cy ad A G own cc nL ret d v M1 pc lv st M := by
  subst hst; subst hk
  obtain ⟨h1, h2, h3, h5, h6, h7⟩ := hw
  intro p e s m args below meth c H locs ls C hP hS hl
  refine aw_go (va_runS (As := As) (rest := rest) (ws := aw_ws y bytes maxL ret') (rm := aw_R d') ⟨C.1, C.2.1, C.2.2.1, C.2.2.2.1, C.2.2.2.2.1⟩ hM (va_cwS n C.2.2.2.2.1 (aw_gc (fun w hw => by rcases (by simpa using hw : w = _ ∨ w = _ ∨ w = _) with rfl | rfl | rfl <;> assumption) h5) rfl rfl rfl h6 (aw_rm hdd h7)) ⟨aw_blind, aw_pre C.2.2.2.2.2.1 C.2.2.2.2.2.2.1 C.2.2.2.2.2.2.2.1 C.2.2.2.2.2.2.2.2.1.1 C.2.2.2.2.2.2.2.2.1.2 hP hS⟩ rfl hn hl.1 rfl (lv_room hr) hd ⟨Nat.le_refl _, Nat.le_refl _⟩) hS (fun H1 locs1 hP1 hS1 => k p e s m args below meth c H1 locs1 ls C hP1 hS1 hl)
theorem x_callSN {idx n d' maxL : Nat} {host : String} {y : MethodName} {bytes : ByteArray} {ret' : Option FieldType} {As rest st' : List Value} {w : Option Value} {M2 : aw_M} (hd : decode cc pc = .ok (.invokestatic idx, 3)) (hnm : (own, idx, y, host) ∈ tb_nm) (hw : Cond.static y ∈ tb_g ∧ Cond.initialized y.cls ∈ tb_g ∧ Cond.code y bytes maxL ret' ∈ tb_g ∧ (y.cls ≠ "java/lang/invoke/MethodHandle" ∧ y.cls ≠ "java/lang/invoke/VarHandle" ∧ (parseMethodDescriptor y.desc).map (fun d => d.parameters.length) = some n) ∧ maxL ≤ 40) (hdd : d' + 1 ≤ d) (hn : As.length = n) (hst : st = As.reverse ++ rest) (hr : (rest.map fun v => v.category).sum ≤ 8) (hM : AX l D cy ad A G y bytes maxL ret' d' As M w M2) (hk : w.toList ++ rest = st') (k : AW l D cy ad A G own cc nL ret d v M1 (pc + 3) lv st' M2) : AW l D cy ad A G own cc nL ret d v M1 pc lv st M := by
  subst hst; subst hk
  obtain ⟨h2, h3, h5, h6, h7⟩ := hw
  intro p e s m args below meth c H locs ls C hP hS hl
  refine aw_go (va_runSN (As := As) (rest := rest) (ws := aw_ws y bytes maxL ret') (rm := aw_R d') ⟨C.1, C.2.1, C.2.2.1, C.2.2.2.1, C.2.2.2.2.1⟩ hM ⟨va_cnB n C.2.2.2.2.1 (aw_gd h5) rfl rfl rfl (C.2.2.2.2.2.2.2.2.1.2.1 _ hnm) (C.2.2.2.2.1 _ h3) h6 (aw_rm hdd h7), C.2.2.2.2.1 _ h2, trivial⟩ ⟨aw_blind, aw_pre C.2.2.2.2.2.1 C.2.2.2.2.2.2.1 C.2.2.2.2.2.2.2.1 C.2.2.2.2.2.2.2.2.1.1 C.2.2.2.2.2.2.2.2.1.2 hP hS⟩ rfl hn hl.1 rfl (lv_room hr) hd ⟨Nat.le_refl _, Nat.le_refl _⟩) hS (fun H1 locs1 hP1 hS1 => k p e s m args below meth c H1 locs1 ls C hP1 hS1 hl)
theorem x_callVN {idx ci o n d' maxL : Nat} {host : String} {ks : List Nat} {C0 : String} {T0 : u_T} {N0 : Nat} {y : MethodName} {bytes : ByteArray} {ret' : Option FieldType} {As rest st' : List Value} {w : Option Value} {M2 : aw_M} (hd : decode cc pc = .ok (.invokevirtual idx, 3)) (hnm : (own, idx, y, host) ∈ tb_nm) (hw : Cond.instanceMethod y ∈ tb_g ∧ Cond.selects C0 y y ∈ tb_g ∧ Cond.initialized y.cls ∈ tb_g ∧ Cond.code y bytes maxL ret' ∈ tb_g ∧ (y.cls ≠ "java/lang/invoke/MethodHandle" ∧ y.cls ≠ "java/lang/invoke/VarHandle" ∧ (parseMethodDescriptor y.desc).map (fun d => d.parameters.length) = some n) ∧ maxL ≤ 40) (hdd : d' + 1 ≤ d) (hG : G[o]? = some (0, ci, ks)) (hci : vwCl[ci]? = some (C0, T0, N0)) (hn : As.length = n) (hst : st = As.reverse ++ .ref (ad o) :: rest) (hr : (rest.map fun v => v.category).sum ≤ 8) (hM : AX l D cy ad A G y bytes maxL ret' d' (.ref (ad o) :: As) M w M2) (hk : w.toList ++ rest = st') (k : AW l D cy ad A G own cc nL ret d v M1 (pc + 3) lv st' M2) : AW l D cy ad A G own cc nL ret d v M1 pc lv st M := by
  subst hst; subst hk
  obtain ⟨h2, h2b, h3, h5, h6, h7⟩ := hw
  intro p e s m args below meth c H locs ls C hP hS hl
  refine aw_go (va_runVN (C := C0) (As := As) (rest := rest) (ws := aw_ws y bytes maxL ret') (rm := aw_R d') ⟨C.1, C.2.1, C.2.2.1, C.2.2.2.1, C.2.2.2.2.1⟩ hM ⟨va_cnB n C.2.2.2.2.1 (aw_gd h5) rfl rfl rfl (C.2.2.2.2.2.2.2.2.1.2.1 _ hnm) (C.2.2.2.2.1 _ h3) h6 (aw_rm hdd h7), C.2.2.2.2.1 _ h2, C.2.2.2.2.1 _ h2b⟩ ⟨aw_blind, va_recv C.2.2.2.2.2.1 hP hci (aw_W_at hG), aw_pre C.2.2.2.2.2.1 C.2.2.2.2.2.2.1 C.2.2.2.2.2.2.2.1 C.2.2.2.2.2.2.2.2.1.1 C.2.2.2.2.2.2.2.2.1.2 hP hS⟩ rfl hn hl.1 rfl (lv_room hr) hd ⟨Nat.le_refl _, Nat.le_refl _⟩) hS (fun H1 locs1 hP1 hS1 => k p e s m args below meth c H1 locs1 ls C hP1 hS1 hl)
end AMS
