theorem w_obj_i : Cond.instanceMethod Lib.objectInit ∈ tb_g := tb_in (i := 89) (by decide +kernel) rfl
theorem w_obj_c : Cond.code Lib.objectInit ⟨#[0xb1]⟩ 1 none ∈ tb_g := tb_in (i := 90) (by decide +kernel) rfl
theorem w_ac_i : Cond.arrayClass .int ∈ tb_g := tb_in (i := 170) (by decide +kernel) rfl
theorem w_ac_b : Cond.arrayClass .byte ∈ tb_g := tb_in (i := 169) (by decide +kernel) rfl
def bw_R (d mc ms : Nat) : Room := { frames := d, cells := mc, slots := ms, locals := 64 * d }
def bw_nm : List (String × Nat × MethodName × String) := [("LoopsBelow$State", 11, yX4_init, "LoopsBelow"), ("LoopsBelow$State", 54, yX1_init, "LoopsBelow"), ("LoopsBelow$State", 55, yX3_init, "LoopsBelow"), ("LoopsBelow", 25, yX4_init, "LoopsBelow"), ("LoopsBelow", 58, yX8_init, "LoopsBelow"), ("LoopsBelow", 65, yX0_init, "LoopsBelow"), ("LoopsBelow", 76, yX6_init, "LoopsBelow")]
def bw_ao : List String := ["LoopsBelow$Cloth", "LoopsBelow$Law", "LoopsBelow$Gauge", "LoopsBelow$Sheet"]
def bw_N (tx : Nat) (U : State) : Prop := (∀ q ∈ bw_nm, va_Nw (.methodLinkNest q.1 q.2.1 q.2.2.1 q.2.2.2) U) ∧ (∀ C ∈ bw_ao, va_AO C U) ∧ vk_R "LoopsBelow$TextReader" 18 "tmk" tx U
theorem bw_N.warm {tx : Nat} {s U : State} (hW : s.WarmedH U.vm) (h : bw_N tx s) : bw_N tx U := ⟨fun q hq => va_Nw.warmM hW (h.1 q hq), fun C hC => (h.2.1 C hC).moved hW.alike, h.2.2.warm hW⟩
theorem bw_N.same {tx : Nat} {u U : State} (hv : U.vm = u.vm) (h : bw_N tx u) : bw_N tx U := ⟨fun q hq => va_Nw.same rfl hv.symm (h.1 q hq), fun C hC => (h.2.1 C hC).moved (by rw [hv]; exact Vm.Alike.refl _), h.2.2.same hv⟩
def bw_B (D : va_G) (cy : Nat → ClassId) (tx sz : Nat) (ws0 : va_W) (U : State) : Prop := U.heap.size = sz ∧ va_P D vwCl ws0 U.heap ∧ va_K D vwCl (aw_tys cy) U ∧ va_D (fun _ => True) ws0 ∧ bw_N tx U
def bw_Q (D : va_G) (ws0 : va_W) (Wf : (Nat → Nat) → va_W) (sz : Nat) : Array Value → State → Outcome → State → Prop := va_Qv (fun _ : Nat → Nat => True) (fun q t => va_P D vwCl (Wf q) t.heap ∧ va_D (va_A ws0 sz) (Wf q)) (va_A ws0 sz)
/-- a constructor: from the cells ws0 it returns, with the cells Wf q, the new ones at the addresses q -/
def BX (l : Launch) (D : va_G) (cy : Nat → ClassId) (tx : Nat) (y : MethodName) (cc : ByteArray) (maxL d mc ms : Nat) (av : List Value) (ws0 : va_W) (Wf : (Nat → Nat) → va_W) : Prop :=
  ∀ sz : Nat, Met l y (aw_ws y cc maxL none) (bw_R d mc ms) (va_Pc av (bw_B D cy tx sz ws0)) (bw_Q D ws0 Wf sz) mc ms (va_A ws0 sz)
def bw_C (D : va_G) (cy : Nat → ClassId) (tx : Nat) (own : String) (cc : ByteArray) (nL : Nat) (p : Program) (s : State) (m : MethodId) (args : Array Value) (meth : Method) (c : Code) : Prop :=
  p.tables.exec = Jvm.exec ∧ c.code = cc ∧ c.maxLocals = nL ∧ s.vm.findClass own = some m.cls ∧ (∀ w ∈ tb_g, w.before args s = true) ∧ va_K D vwCl (aw_tys cy) s ∧ bw_N tx s ∧ meth.sig.returnType = none ∧ meth.locks = false ∧ meth.name = "<init>"
def BW (l : Launch) (D : va_G) (cy : Nat → ClassId) (tx : Nat) (own : String) (cc : ByteArray) (nL d mc ms : Nat) (ws0 : va_W) (Wf : (Nat → Nat) → va_W) (nc ns pc : Nat) (lv : List (Nat × Value)) (st : List Value) (ws : va_W) : Prop :=
  ∀ (p : Program) (e : Env) (s : State) (m : MethodId) (args : Array Value) (below : List Frame) (meth : Method) (c : Code) (H : Heap) (locs : List Loc) (ls : Array Slot),
    bw_C D cy tx own cc nL p s m args meth c → va_P D vwCl ws H → va_D (va_A ws0 s.heap.size) ws → va_S (va_A ws0 s.heap.size) s.heap H locs → lv_has ls nL lv →
    W p l e (bw_R d mc ms) s m args below meth c H locs nc ns (MQ below (bw_Q D ws0 Wf s.heap.size) args s mc ms (va_A ws0 s.heap.size)) (F0 m pc ls st)
section BWS
variable {l : Launch} {D : va_G} {cy : Nat → ClassId} {tx : Nat} {own : String} {cc : ByteArray} {nL d mc ms : Nat} {ws0 : va_W} {Wf : (Nat → Nat) → va_W} {nc ns pc : Nat} {lv lv' : List (Nat × Value)} {st : List Value} {ws : va_W}
theorem bw_hA {s : State} : ∀ q, s.heap.size ≤ q → va_A ws0 s.heap.size q := fun _ h => Or.inr h
theorem BX.of {y : MethodName} {maxL : Nat} {av : List Value} (hy : plainName y.cls = true) (ho : y.cls = own) (hn : y.name = "<init>") (hl : (lg_sl av).length ≤ maxL) (k : BW l D cy tx own cc maxL d mc ms ws0 Wf 0 0 0 (lv_args 0 av) [] ws0) : BX l D cy tx y cc maxL d mc ms av ws0 Wf := by
  intro sz
  refine Met.ofW (cc := cc) (maxL := maxL) (ret := none) hy rfl ?_
  intro p e s m args below meth c s₁ B hml hv
  obtain ⟨rfl, rfl, hP, hK, hD, hN⟩ := hv
  have hts := atoms_spec (ws := aw_ws y cc maxL none) B.pre
  rw [lg_entry_eq]
  exact k p e s m _ below meth c s.heap [] _ ⟨B.exec, B.bytes, hml, by rw [← ho]; exact findClass_of_methodNamed B.named, fun w hw => hts w (List.mem_cons_of_mem _ hw), hK, hN, B.returns, B.notSynchronized, by rw [(name_of_methodNamed B.named B.method).1]; exact hn⟩ hP (hD.self) va_S.rf (lv_entry av hl)
theorem y_iconst {n : Int} {w : Int32} (hd : decode cc pc = .ok (.iconst n, 1)) (hv : Int32.ofInt n = w) (k : BW l D cy tx own cc nL d mc ms ws0 Wf nc ns (pc + 1) lv (.int w :: st) ws) : BW l D cy tx own cc nL d mc ms ws0 Wf nc ns pc lv (st) ws := fun p e s m args below meth c H locs ls C hP hD hS hl => lv_iconst C.1 C.2.1 hd hv (k p e s m args below meth c H locs ls C hP hD hS hl)
theorem y_bipush {n : Int} {w : Int32} (hd : decode cc pc = .ok (.bipush n, 2)) (hv : (Int8.ofInt n).toInt32 = w) (k : BW l D cy tx own cc nL d mc ms ws0 Wf nc ns (pc + 2) lv (.int w :: st) ws) : BW l D cy tx own cc nL d mc ms ws0 Wf nc ns pc lv (st) ws := fun p e s m args below meth c H locs ls C hP hD hS hl => lv_bipush C.1 C.2.1 hd hv (k p e s m args below meth c H locs ls C hP hD hS hl)
theorem y_sipush {n : Int} {w : Int32} (hd : decode cc pc = .ok (.sipush n, 3)) (hv : (Int16.ofInt n).toInt32 = w) (k : BW l D cy tx own cc nL d mc ms ws0 Wf nc ns (pc + 3) lv (.int w :: st) ws) : BW l D cy tx own cc nL d mc ms ws0 Wf nc ns pc lv (st) ws := fun p e s m args below meth c H locs ls C hP hD hS hl => lv_sipush C.1 C.2.1 hd hv (k p e s m args below meth c H locs ls C hP hD hS hl)
theorem y_dup {x : Value} (hd : decode cc pc = .ok (.dup, 1)) (hc : x.category = 1) (k : BW l D cy tx own cc nL d mc ms ws0 Wf nc ns (pc + 1) lv (x :: x :: st) ws) : BW l D cy tx own cc nL d mc ms ws0 Wf nc ns pc lv (x :: st) ws := fun p e s m args below meth c H locs ls C hP hD hS hl => lv_dup C.1 C.2.1 hd hc (k p e s m args below meth c H locs ls C hP hD hS hl)
theorem y_goto {off : Int} (tgt : Nat) (hd : decode cc pc = .ok (.goto off, 3)) (ht : (pc : Int) + off = (tgt : Int)) (k : BW l D cy tx own cc nL d mc ms ws0 Wf nc ns tgt lv (st) ws) : BW l D cy tx own cc nL d mc ms ws0 Wf nc ns pc lv (st) ws := fun p e s m args below meth c H locs ls C hP hD hS hl => lv_goto C.1 C.2.1 hd ht (k p e s m args below meth c H locs ls C hP hD hS hl)
theorem y_iload_n {j : Fin 4} {x : Int32} (i : Nat) (hd : decode cc pc = .ok (.iload_n j, 1)) (hi : (j : Nat) = i) (hx : aw_lk lv i = some (.int x)) (k : BW l D cy tx own cc nL d mc ms ws0 Wf nc ns (pc + 1) lv (.int x :: st) ws) : BW l D cy tx own cc nL d mc ms ws0 Wf nc ns pc lv st ws := fun p e s m args below meth c H locs ls C hP hD hS hl => lv_iload_n C.1 C.2.1 hd hi (aw_lk_at hl hx) (k p e s m args below meth c H locs ls C hP hD hS hl)
theorem y_aload_n {j : Fin 4} {x : Nat} (i : Nat) (hd : decode cc pc = .ok (.aload_n j, 1)) (hi : (j : Nat) = i) (hx : aw_lk lv i = some (.ref x)) (k : BW l D cy tx own cc nL d mc ms ws0 Wf nc ns (pc + 1) lv (.ref x :: st) ws) : BW l D cy tx own cc nL d mc ms ws0 Wf nc ns pc lv st ws := fun p e s m args below meth c H locs ls C hP hD hS hl => lv_aload_n C.1 C.2.1 hd hi (aw_lk_at hl hx) (k p e s m args below meth c H locs ls C hP hD hS hl)
theorem y_istore_n {j : Fin 4} {x : Int32} (i : Nat) (lv' : List (Nat × Value)) (hd : decode cc pc = .ok (.istore_n j, 1)) (hi : (j : Nat) = i) (hn : i < nL) (hv : (i, Value.int x) :: lv.filter (fun q => !(q.1 == i) && !(q.1 + 1 == i && q.2.category == 2)) = lv') (k : BW l D cy tx own cc nL d mc ms ws0 Wf nc ns (pc + 1) lv' st ws) : BW l D cy tx own cc nL d mc ms ws0 Wf nc ns pc lv (.int x :: st) ws := fun p e s m args below meth c H locs ls C hP hD hS hl => lv_istore_n C.1 C.2.1 hd hi hl hn hv (fun ls' hl' => k p e s m args below meth c H locs ls' C hP hD hS hl')
theorem y_iinc {i : Nat} {n : Int} {x : Int32} (y : Int32) (lv' : List (Nat × Value)) (hd : decode cc pc = .ok (.iinc i n, 3)) (hx : aw_lk lv i = some (.int x)) (hy : x + Int32.ofInt n = y) (hn : i < nL) (hv : (i, Value.int y) :: lv.filter (fun q => !(q.1 == i) && !(q.1 + 1 == i && q.2.category == 2)) = lv') (k : BW l D cy tx own cc nL d mc ms ws0 Wf nc ns (pc + 3) lv' st ws) : BW l D cy tx own cc nL d mc ms ws0 Wf nc ns pc lv st ws := by
  obtain ⟨j, hj⟩ := aw_lk_ix hx
  exact fun p e s m args below meth c H locs ls C hP hD hS hl => lv_iinc C.1 C.2.1 hd hl hj hy hn hv (fun ls' hl' => k p e s m args below meth c H locs ls' C hP hD hS hl')
theorem y_ge_t {x y : Int32} {off : Int} (tgt : Nat) (hd : decode cc pc = .ok (.if_icmp .ge off, 3)) (ht : (pc : Int) + off = (tgt : Int)) (h : y ≤ x) (k : BW l D cy tx own cc nL d mc ms ws0 Wf nc ns tgt lv st ws) : BW l D cy tx own cc nL d mc ms ws0 Wf nc ns pc lv (.int y :: .int x :: st) ws := fun p e s m args below meth c H locs ls C hP hD hS hl => lv_icmp_ge C.1 C.2.1 hd ht (fun _ => k p e s m args below meth c H locs ls C hP hD hS hl) (fun q => absurd h q)
theorem y_ge_f {x y : Int32} {off : Int} (tgt : Nat) (hd : decode cc pc = .ok (.if_icmp .ge off, 3)) (ht : (pc : Int) + off = (tgt : Int)) (h : ¬ y ≤ x) (k : BW l D cy tx own cc nL d mc ms ws0 Wf nc ns (pc + 3) lv st ws) : BW l D cy tx own cc nL d mc ms ws0 Wf nc ns pc lv (.int y :: .int x :: st) ws := fun p e s m args below meth c H locs ls C hP hD hS hl => lv_icmp_ge C.1 C.2.1 hd ht (fun q => absurd q h) (fun _ => k p e s m args below meth c H locs ls C hP hD hS hl)
theorem y_lds (ho : own = "LoopsBelow$TextReader") (hd : decode cc pc = .ok (.ldc 18, 2)) (k : BW l D cy tx own cc nL d mc ms ws0 Wf nc ns (pc + 2) lv (.ref tx :: st) ws) : BW l D cy tx own cc nL d mc ms ws0 Wf nc ns pc lv st ws := fun p e s m args below meth c H locs ls C hP hD hS hl => va_ldcS C.1 C.2.1 C.2.2.2.1 (ho ▸ C.2.2.2.2.2.2.1.2.2) hd (k p e s m args below meth c H locs ls C hP hD hS hl)
theorem y_obj {idx : Nat} {a : Nat} (hd : decode cc pc = .ok (.invokespecial idx, 3)) (hw : Cond.methodLink own idx Lib.objectInit ∈ tb_g) (hdd : 1 ≤ d) (hr : (st.map fun v => v.category).sum ≤ 8) (k : BW l D cy tx own cc nL d mc ms ws0 Wf nc ns (pc + 3) lv st ws) : BW l D cy tx own cc nL d mc ms ws0 Wf nc ns pc lv (.ref a :: st) ws := fun p e s m args below meth c H locs ls C hP hD hS hl => W.objInit C.1 C.2.1 C.2.2.2.1 (C.2.2.2.2.1 _ hw) (C.2.2.2.2.1 _ w_obj_i) (C.2.2.2.2.1 _ w_obj_c) rfl (hl.1.trans C.2.2.1.symm) rfl hd hdd (by show 2 * 0 + _ + 12 ≤ 64 * d; omega) (k p e s m args below meth c H locs ls C hP hD hS hl)
theorem y_get {idx ci f a : Nat} {fs : List Value} {w : Value} (hd : decode cc pc = .ok (.getfield idx, 3)) (hw : aw_L own idx ci f) (q0 : Nat) (he : ws[q0]? = some (a, .inr (ci, fs))) (hv : fs[f]? = some w) (k : BW l D cy tx own cc nL d mc ms ws0 Wf nc ns (pc + 3) lv (w :: st) ws) : BW l D cy tx own cc nL d mc ms ws0 Wf nc ns pc lv (.ref a :: st) ws := by
  obtain ⟨C0, T, N, ty0, h1, h2, h3, h4, h5, -, -⟩ := hw
  intro p e s m args below meth c H locs ls C hP hD hS hl
  exact va_get C.1 C.2.1 C.2.2.2.2.1 h5 C.2.2.2.1 C.2.2.2.2.2.1 hP q0 he h1 f h2 (C.2.2.2.2.1 _ h3) (fun x hx => by rw [h4] at hx; exact hx) hv hd (k p e s m args below meth c H locs ls C hP hD hS hl)
theorem y_put {idx ci f a : Nat} {fs : List Value} {w : Value} {ty : FieldType} (ws1 : va_W) (hd : decode cc pc = .ok (.putfield idx, 3)) (hw : aw_L own idx ci f) (hWr : aw_LW ci f ty) (q0 : Nat) (he : ws[q0]? = some (a, .inr (ci, fs))) (hlen : f < fs.length) (hn : narrow ty w = w) (hfit : fits ty w = true) (hws : ws.set q0 (a, .inr (ci, fs.set f w)) = ws1) (k : BW l D cy tx own cc nL d mc ms ws0 Wf nc ns (pc + 3) lv st ws1) : BW l D cy tx own cc nL d mc ms ws0 Wf nc ns pc lv (w :: .ref a :: st) ws := by
  subst hws
  obtain ⟨C0, T, N, ty0, h1, h2, h3, h4, h5, h6, h7⟩ := hw
  obtain ⟨g1, g2⟩ := hWr C0 T N h1
  intro p e s m args below meth c H locs ls C hP hD hS hl
  exact va_put C.1 C.2.1 C.2.2.2.2.1 h5 ty0 h6 h7 C.2.2.2.1 C.2.2.2.2.2.1 hP hD hS q0 he h1 f h2 (C.2.2.2.2.1 _ h3) (fun x hx => by rw [h4] at hx; exact hx) g1 g2 hn hfit hlen hd (fun H1 locs1 hP1 hD1 hS1 => k p e s m args below meth c H1 locs1 ls C hP1 hD1 hS1 hl)
/-- a final field of the class's own -/
def bw_LF (own : String) (ci k : Nat) (ty : FieldType) : Prop := ∀ (C : String) (T : u_T) (N : Nat), vwCl[ci]? = some (C, T, N) → (T k).2.2.2 = true ∧ parseFieldDescriptor (T k).2.2.1 = some ty ∧ (T k).1 = own
theorem y_putF {idx ci f a : Nat} {fs : List Value} {w : Value} {ty : FieldType} (ws1 : va_W) (hd : decode cc pc = .ok (.putfield idx, 3)) (hw : aw_L own idx ci f) (hWr : bw_LF own ci f ty) (q0 : Nat) (he : ws[q0]? = some (a, .inr (ci, fs))) (hlen : f < fs.length) (hn : narrow ty w = w) (hfit : fits ty w = true) (hws : ws.set q0 (a, .inr (ci, fs.set f w)) = ws1) (k : BW l D cy tx own cc nL d mc ms ws0 Wf nc ns (pc + 3) lv st ws1) : BW l D cy tx own cc nL d mc ms ws0 Wf nc ns pc lv (w :: .ref a :: st) ws := by
  subst hws
  obtain ⟨C0, T, N, ty0, h1, h2, h3, h4, h5, h6, h7⟩ := hw
  obtain ⟨g1, g2, g3⟩ := hWr C0 T N h1
  intro p e s m args below meth c H locs ls C hP hD hS hl
  exact va_putF C.1 C.2.1 C.2.2.2.2.1 h5 ty0 h6 h7 C.2.2.2.1 C.2.2.2.2.2.1 hP hD hS q0 he h1 f h2 (C.2.2.2.2.1 _ h3) (fun x hx => by rw [h4] at hx; exact hx) g1 C.2.2.2.2.2.2.2.2.2 g3 g2 hn hfit hlen hd (fun H1 locs1 hP1 hD1 hS1 => k p e s m args below meth c H1 locs1 ls C hP1 hD1 hS1 hl)
/-- the words of 'new' -/
def bw_NW (own : String) (idx ci : Nat) (fs : List Value) : Prop := ∃ (C : String) (T : u_T) (N : Nat) (ty0 : Nat → FieldType), vwCl[ci]? = some (C, T, N) ∧ (∀ w ∈ u_ws C T N, w ∈ tb_g) ∧ (∀ k, k < N → parseFieldDescriptor (T k).2.2.1 = some (ty0 k)) ∧ Cond.classLink own idx C ∈ tb_g ∧ Cond.instantiable C N ∈ tb_g ∧ Cond.initialized C ∈ tb_g ∧ fs.length = N ∧ ∀ j, j < N → defaultValue (ty0 j) = vp_V fs j
theorem y_new {idx ci : Nat} {fs : List Value} (hd : decode cc pc = .ok (.new idx, 3)) (hw : bw_NW own idx ci fs) (h1 : nc + 1 ≤ mc) (h2 : ns + fs.length ≤ ms) (k : ∀ q : Nat, BW l D cy tx own cc nL d mc ms ws0 Wf (nc + 1) (ns + fs.length) (pc + 3) lv (.ref q :: st) (ws ++ [(q, .inr (ci, fs))])) : BW l D cy tx own cc nL d mc ms ws0 Wf nc ns pc lv st ws := by
  obtain ⟨C0, T, N, ty0, g1, g2, g3, g4, g5, g6, g7, g8⟩ := hw
  subst g7
  intro p e s m args below meth c H locs ls C hP hD hS hl
  exact va_new C.1 C.2.1 C.2.2.2.2.1 g2 ty0 g3 C.2.2.2.1 (C.2.2.2.2.1 _ g4) (C.2.2.2.2.1 _ g5) (C.2.2.2.2.1 _ g6) C.2.2.2.2.2.1 hP hD hS bw_hA g1 g8 h1 h2 hd (fun q H1 hP1 hD1 hS1 => k q p e s m args below meth c H1 locs ls C hP1 hD1 hS1 hl)
theorem y_newi {n : Int32} (N : Nat) (hd : decode cc pc = .ok (.newarray .int, 2)) (hn : ¬ n < 0) (hN : n.toNatClampNeg = N) (hb : N ≤ 300) (h1 : nc + 1 ≤ mc) (h2 : ns + N ≤ ms) (k : ∀ q : Nat, BW l D cy tx own cc nL d mc ms ws0 Wf (nc + 1) (ns + N) (pc + 2) lv (.ref q :: st) (ws ++ [(q, .inl (cy 0, N, .inl (fun _ => 0)))])) : BW l D cy tx own cc nL d mc ms ws0 Wf nc ns pc lv (.int n :: st) ws := by
  intro p e s m args below meth c H locs ls C hP hD hS hl
  refine va_newa (atype := .int) (ty := .int) (a0 := (N, .inl (fun _ => 0))) C.1 C.2.1 (C.2.2.2.2.1 _ w_ac_i) rfl C.2.2.2.2.2.1 hP hD hS bw_hA (fun _ => rfl) hn hN (by show N * 4 ≤ _; omega) h1 h2 hd (fun q cA H1 hK1 hP1 hD1 hS1 => ?_)
  have e1 : cA = cy 0 := by
    have a1 := (hK1.2 (aw_tys cy).length (cA, .int) (by rw [List.getElem?_append_right (Nat.le_refl _), Nat.sub_self]; rfl)).2
    have a2 := (C.2.2.2.2.2.1.2 0 (cy 0, .int) rfl).2
    exact Option.some.inj (a1.symm.trans a2)
  subst e1
  exact k q p e s m args below meth c H1 locs ls C hP1 hD1 hS1 hl
theorem y_newb {n : Int32} (N : Nat) (hd : decode cc pc = .ok (.newarray .byte, 2)) (hn : ¬ n < 0) (hN : n.toNatClampNeg = N) (hb : N ≤ 300) (h1 : nc + 1 ≤ mc) (h2 : ns + N ≤ ms) (k : ∀ q : Nat, BW l D cy tx own cc nL d mc ms ws0 Wf (nc + 1) (ns + N) (pc + 2) lv (.ref q :: st) (ws ++ [(q, .inl (cy 1, N, .inl (fun _ => 0)))])) : BW l D cy tx own cc nL d mc ms ws0 Wf nc ns pc lv (.int n :: st) ws := by
  intro p e s m args below meth c H locs ls C hP hD hS hl
  refine va_newa (atype := .byte) (ty := .byte) (a0 := (N, .inl (fun _ => 0))) C.1 C.2.1 (C.2.2.2.2.1 _ w_ac_b) rfl C.2.2.2.2.2.1 hP hD hS bw_hA (fun _ => rfl) hn hN (by show N * 1 ≤ _; omega) h1 h2 hd (fun q cA H1 hK1 hP1 hD1 hS1 => ?_)
  have e1 : cA = cy 1 := by
    have a1 := (hK1.2 (aw_tys cy).length (cA, .byte) (by rw [List.getElem?_append_right (Nat.le_refl _), Nat.sub_self]; rfl)).2
    have a2 := (C.2.2.2.2.2.1.2 1 (cy 1, .byte) rfl).2
    exact Option.some.inj (a1.symm.trans a2)
  subst e1
  exact k q p e s m args below meth c H1 locs ls C hP1 hD1 hS1 hl
theorem y_newq {n : Int32} {idx t : Nat} {C0 : String} (N : Nat) (hd : decode cc pc = .ok (.anewarray idx, 3)) (hw : Cond.classLink own idx C0 ∈ tb_g) (hC : C0 ∈ bw_ao) (ht : ∀ cy : Nat → ClassId, (aw_tys cy)[t]? = some (cy t, .object C0)) (hn : ¬ n < 0) (hN : n.toNatClampNeg = N) (hb : N ≤ 300) (h1 : nc + 1 ≤ mc) (h2 : ns + N ≤ ms) (k : ∀ q : Nat, BW l D cy tx own cc nL d mc ms ws0 Wf (nc + 1) (ns + N) (pc + 3) lv (.ref q :: st) (ws ++ [(q, .inl (cy t, N, .inr (.inr (.inr (.inr (fun _ => none))))))])) : BW l D cy tx own cc nL d mc ms ws0 Wf nc ns pc lv (.int n :: st) ws := by
  intro p e s m args below meth c H locs ls C hP hD hS hl
  refine va_newq C.1 C.2.1 C.2.2.2.1 (C.2.2.2.2.1 _ hw) (C.2.2.2.2.2.2.1.2.1 _ hC) C.2.2.2.2.2.1 hP hD hS bw_hA hn hN (by omega) h1 h2 hd (fun q cA H1 hK1 hP1 hD1 hS1 => ?_)
  have e1 : cA = cy t := by
    obtain ⟨-, k1, comp1, a1, a2, a3, a4⟩ := hK1.2 (aw_tys cy).length (cA, .object C0) (by rw [List.getElem?_append_right (Nat.le_refl _), Nat.sub_self]; rfl)
    obtain ⟨-, k2, comp2, b1, b2, b3, b4⟩ := C.2.2.2.2.2.1.2 t _ (ht cy)
    exact Option.some.inj (a4.symm.trans b4)
  subst e1
  exact k q p e s m args below meth c H1 locs ls C hP1 hD1 hS1 hl
theorem y_aast {n t ci a v : Nat} {i : Int32} {r : vw_C} {vs : List Value} {f : Nat → Option Nat} (ws1 : va_W) (j : Nat) (hd : decode cc pc = .ok (.aastore, 1)) (q0 qk : Nat) (ha : ws[q0]? = some (a, .inl (cy t, n, .inr (.inr (.inr (.inr f)))))) (ht : ∀ cy : Nat → ClassId, (aw_tys cy)[t]? = some (cy t, .object r.1)) (hv : ws[qk]? = some (v, .inr (ci, vs))) (hc : vwCl[ci]? = some r) (hin : ¬ aw_in i n) (hj : i.toNatClampNeg = j) (hws : ws.set q0 (a, .inl (cy t, n, .inr (.inr (.inr (.inr (va_up f j (some v))))))) = ws1) (k : BW l D cy tx own cc nL d mc ms ws0 Wf nc ns (pc + 1) lv st ws1) : BW l D cy tx own cc nL d mc ms ws0 Wf nc ns pc lv (.ref v :: .int i :: .ref a :: st) ws := by
  subst hws; subst hj
  intro p e s m args below meth c H locs ls C hP hD hS hl
  exact va_astq C.1 C.2.1 C.2.2.2.2.2.1 hP hD hS q0 t qk ci ha (ht cy) hv hc hin hd (fun H1 locs1 hP1 hD1 hS1 => k p e s m args below meth c H1 locs1 ls C hP1 hD1 hS1 hl)
theorem y_aald {n t a r : Nat} {i : Int32} {C0 : String} {f : Nat → Option Nat} (hd : decode cc pc = .ok (.aaload, 1)) (q0 : Nat) (ha : ws[q0]? = some (a, .inl (cy t, n, .inr (.inr (.inr (.inr f)))))) (ht : ∀ cy : Nat → ClassId, (aw_tys cy)[t]? = some (cy t, .object C0)) (hin : ¬ aw_in i n) (hr : f i.toNatClampNeg = some r) (k : BW l D cy tx own cc nL d mc ms ws0 Wf nc ns (pc + 1) lv (.ref r :: st) ws) : BW l D cy tx own cc nL d mc ms ws0 Wf nc ns pc lv (.int i :: .ref a :: st) ws := by
  intro p e s m args below meth c H locs ls C hP hD hS hl
  refine va_aldq C.1 C.2.1 C.2.2.2.2.2.1 hP q0 t ha (ht cy) hin hd ?_
  rw [hr]
  exact k p e s m args below meth c H locs ls C hP hD hS hl
theorem y_iast {n a : Nat} {i x : Int32} {f : Nat → Int32} (ws1 : va_W) (j : Nat) (hd : decode cc pc = .ok (.iastore, 1)) (q0 : Nat) (ha : ws[q0]? = some (a, .inl (cy 0, n, .inl f))) (hin : ¬ aw_in i n) (hj : i.toNatClampNeg = j) (hws : ws.set q0 (a, .inl (cy 0, n, .inl (upd f j x))) = ws1) (k : BW l D cy tx own cc nL d mc ms ws0 Wf nc ns (pc + 1) lv st ws1) : BW l D cy tx own cc nL d mc ms ws0 Wf nc ns pc lv (.int x :: .int i :: .ref a :: st) ws := by
  subst hws; subst hj
  intro p e s m args below meth c H locs ls C hP hD hS hl
  exact va_iast C.1 C.2.1 C.2.2.2.2.2.1 hP hD hS q0 0 ha rfl hin hd (fun H1 locs1 hP1 hD1 hS1 => k p e s m args below meth c H1 locs1 ls C hP1 hD1 hS1 hl)
theorem y_ret (q : Nat → Nat) (hd : decode cc pc = .ok (.return_, 1)) (hws : ws = Wf q) (h1 : nc ≤ mc) (h2 : ns ≤ ms) : BW l D cy tx own cc nL d mc ms ws0 Wf nc ns pc lv [] ws := by
  subst hws
  intro p e s m args below meth c H locs ls C hP hD hS hl
  refine W.widen (k := mc) (n := ms) h1 h2 ?_
  exact W.vret C.1 C.2.1 C.2.2.2.2.2.2.2.1 (fun t ht _ => ⟨⟨q, rfl, trivial, by rw [ht]; exact hP, hD⟩, hS.F ht⟩) hS.2.2 hd (hlocks := C.2.2.2.2.2.2.2.2.1)
theorem bw_go {p : Program} {e : Env} {R : Room} {s : State} {m : MethodId} {args : Array Value} {below : List Frame} {meth : Method} {c : Code} {H : Heap} {locs : List Loc} {Q : State → Prop} {ls : Array Slot} {st0 rest : List Value} {a : Array Value} {A : Nat → Prop} {mc' ms' b : Nat} {e0 : va_E} {wr : va_W} {Wc : (Nat → Nat) → va_W}
    (hr : va_Run p l e R s m args below meth c H locs nc ns mc' ms' (F0 m pc ls st0) rest (bw_Q D [(b, e0)] Wc H.size a) (va_A [(b, e0)] H.size)) (hP : va_P D vwCl (wr ++ [(b, e0)]) H) (hD : va_D A (wr ++ [(b, e0)])) (hS : va_S A s.heap H locs) (hA : ∀ q, s.heap.size ≤ q → A q)
    (kk : ∀ (q : Nat → Nat) (H1 : Heap) (locs1 : List Loc), va_P D vwCl (wr ++ Wc q) H1 → va_D A (wr ++ Wc q) → va_S A s.heap H1 locs1 → W p l e R s m args below meth c H1 locs1 (nc + mc') (ns + ms') Q (F0 m (pc + 3) ls rest)) : W p l e R s m args below meth c H locs nc ns Q (F0 m pc ls st0) := by
  have hlen : (wr ++ [(b, e0)])[wr.length]? = some (b, e0) := by rw [List.getElem?_append_right (Nat.le_refl _), Nat.sub_self]; rfl
  have hF : ∀ q, va_A [(b, e0)] H.size q → A q := va_free hD hS hA [wr.length] (by simp)
  refine va_callv hr hS (fun q _ h => hF q h) hF (fun u t H1 locs1 ht hvm _ hB hz1 hk1 hS1 => ?_)
  obtain ⟨hP1, hD1⟩ := hB
  rw [ht] at hP1
  have hR : (List.range wr.length).map (fun i => (wr ++ [(b, e0)])[i]?) = wr.map some := by
    apply List.ext_getElem?
    intro i
    simp only [List.getElem?_map, List.getElem?_range']
    by_cases hi : i < wr.length
    · rw [List.getElem?_range hi]
      simp [hi, List.getElem?_append_left hi]
    · rw [List.getElem?_eq_none (by simpa using Nat.le_of_not_lt hi)]
      simp [Nat.le_of_not_lt hi]
  have hnd : ∀ n, va_nd (List.range n) = true := by
    intro n
    have : ∀ (k n : Nat), va_nd (List.range' k n) = true := by
      intro k n
      induction n generalizing k with
      | zero => rfl
      | succ n ih =>
        rw [List.range'_succ]
        simp only [va_nd, Bool.and_eq_true, decide_eq_true_eq]
        exact ⟨fun h => by simp [List.mem_range'] at h; omega, ih (k + 1)⟩
    rw [List.range_eq_range']
    exact this 0 n
  obtain ⟨hP2, hD2⟩ := va_join (wr := wr) (wc := [(b, e0)]) (w1 := Wc u) hP hD [wr.length] (List.range wr.length) (by simp) hR (hnd _) (fun i hi h => by
    have h1 := List.mem_range.mp hi
    have h2 : i = wr.length := by simpa using h
    omega) hk1 hF hP1 hD1
  exact kk u H1 locs1 hP2 hD2 hS1
theorem y_eq (ws1 : va_W) (h : ws = ws1) (k : BW l D cy tx own cc nL d mc ms ws0 Wf nc ns pc lv st ws1) : BW l D cy tx own cc nL d mc ms ws0 Wf nc ns pc lv st ws := by subst h; exact k
theorem bw_rm {d d' maxL mc ms mc' ms' : Nat} (h : d' + 1 ≤ d) (hm : maxL ≤ 40) : (bw_R d' mc' ms').frames + 1 ≤ (bw_R d mc ms).frames ∧ 8 + (maxL + 11) + (bw_R d' mc' ms').locals ≤ (bw_R d mc ms).locals := ⟨h, by show 8 + (maxL + 11) + 64 * d' ≤ 64 * d; omega⟩
theorem bw_blind {sz : Nat} {av : List Value} : FrameBlind (va_Pc av (bw_B D cy tx sz ws0)) := by
  intro a U g mk h
  obtain ⟨h1, h2, hP, hK, hD, hN⟩ := h
  exact ⟨h1, h2, hP, va_K.moved (u := U) (U := U.calling g mk a) (Vm.Alike.refl U.vm) hK, hD, hN.same (U := U.calling g mk a) rfl⟩
theorem bw_pre {s : State} {H : Heap} {A : Nat → Prop} {av : List Value} {wr : va_W} {b : Nat} {e0 : va_E} (hK : va_K D vwCl (aw_tys cy) s) (hN : bw_N tx s) (hP : va_P D vwCl (wr ++ [(b, e0)]) H) (hD : va_D A (wr ++ [(b, e0)])) :
    ∀ U : State, U.heap = H → s.WarmedH U.vm → va_Pc av (bw_B D cy tx H.size [(b, e0)]) av.toArray U := by
  intro U hU hW
  have hlen : (wr ++ [(b, e0)])[wr.length]? = some (b, e0) := by rw [List.getElem?_append_right (Nat.le_refl _), Nat.sub_self]; rfl
  exact ⟨rfl, by rw [hU], by rw [hU]; exact hP.sub [wr.length] (by simp), hK.moved hW.alike, (hD.sub (ws' := [(b, e0)]) [wr.length] rfl (by simp)).weaken (fun _ _ _ _ => trivial), hN.warm hW⟩
theorem y_callI {idx n d' maxL mc' ms' b : Nat} {y : MethodName} {bytes : ByteArray} {As rest : List Value} {e0 : va_E} {wr : va_W} {Wc : (Nat → Nat) → va_W} (hd : decode cc pc = .ok (.invokespecial idx, 3)) (hw : Cond.methodLink own idx y ∈ tb_g ∧ Cond.instanceMethod y ∈ tb_g ∧ Cond.initialized y.cls ∈ tb_g ∧ Cond.code y bytes maxL none ∈ tb_g ∧ y.name = "<init>" ∧ (y.cls ≠ "java/lang/invoke/MethodHandle" ∧ y.cls ≠ "java/lang/invoke/VarHandle" ∧ (parseMethodDescriptor y.desc).map (fun d => d.parameters.length) = some n) ∧ maxL ≤ 40) (hdd : d' + 1 ≤ d) (hn : As.length = n) (hst : st = As.reverse ++ .ref b :: rest) (hr : (rest.map fun v => v.category).sum ≤ 8) (hM : BX l D cy tx y bytes maxL d' mc' ms' (.ref b :: As) [(b, e0)] Wc) (hws : ws = wr ++ [(b, e0)]) (h1 : nc + mc' ≤ mc) (h2 : ns + ms' ≤ ms) (k : ∀ q : Nat → Nat, BW l D cy tx own cc nL d mc ms ws0 Wf (nc + mc') (ns + ms') (pc + 3) lv rest (wr ++ Wc q)) : BW l D cy tx own cc nL d mc ms ws0 Wf nc ns pc lv st ws := by
  subst hst; subst hws
  obtain ⟨g1, g2, g3, g4, g5, g6, g7⟩ := hw
  intro p e s m args below meth c H locs ls C hP hD hS hl
  exact bw_go (va_runI (As := As) (rest := rest) (ws := aw_ws y bytes maxL none) (rm := bw_R d' mc' ms') ⟨C.1, C.2.1, C.2.2.1, C.2.2.2.1, C.2.2.2.2.1⟩ (hM H.size) (cwI n C.2.2.2.2.1 (aw_gd g4) rfl rfl rfl (C.2.2.2.2.1 _ g3) (C.2.2.2.2.1 _ g1) (C.2.2.2.2.1 _ g2) g5 g6 (bw_rm hdd g7)) ⟨bw_blind, bw_pre C.2.2.2.2.2.1 C.2.2.2.2.2.2.1 hP hD⟩ rfl hn hl.1 rfl (lv_room hr) hd ⟨h1, h2⟩) hP hD hS bw_hA (fun q H1 locs1 hP1 hD1 hS1 => k q p e s m args below meth c H1 locs1 ls C hP1 hD1 hS1 hl)
theorem y_callIN {idx n d' maxL mc' ms' b : Nat} {host : String} {y : MethodName} {bytes : ByteArray} {As rest : List Value} {e0 : va_E} {wr : va_W} {Wc : (Nat → Nat) → va_W} (hd : decode cc pc = .ok (.invokespecial idx, 3)) (hnm : (own, idx, y, host) ∈ bw_nm) (hw : Cond.instanceMethod y ∈ tb_g ∧ Cond.initialized y.cls ∈ tb_g ∧ Cond.code y bytes maxL none ∈ tb_g ∧ y.name = "<init>" ∧ (y.cls ≠ "java/lang/invoke/MethodHandle" ∧ y.cls ≠ "java/lang/invoke/VarHandle" ∧ (parseMethodDescriptor y.desc).map (fun d => d.parameters.length) = some n) ∧ maxL ≤ 40) (hdd : d' + 1 ≤ d) (hn : As.length = n) (hst : st = As.reverse ++ .ref b :: rest) (hr : (rest.map fun v => v.category).sum ≤ 8) (hM : BX l D cy tx y bytes maxL d' mc' ms' (.ref b :: As) [(b, e0)] Wc) (hws : ws = wr ++ [(b, e0)]) (h1 : nc + mc' ≤ mc) (h2 : ns + ms' ≤ ms) (k : ∀ q : Nat → Nat, BW l D cy tx own cc nL d mc ms ws0 Wf (nc + mc') (ns + ms') (pc + 3) lv rest (wr ++ Wc q)) : BW l D cy tx own cc nL d mc ms ws0 Wf nc ns pc lv st ws := by
  subst hst; subst hws
  obtain ⟨g2, g3, g4, g5, g6, g7⟩ := hw
  intro p e s m args below meth c H locs ls C hP hD hS hl
  exact bw_go (va_runIN (As := As) (rest := rest) (ws := aw_ws y bytes maxL none) (rm := bw_R d' mc' ms') ⟨C.1, C.2.1, C.2.2.1, C.2.2.2.1, C.2.2.2.2.1⟩ (hM H.size) ⟨va_cnB n C.2.2.2.2.1 (aw_gd g4) rfl rfl rfl (C.2.2.2.2.2.2.1.1 _ hnm) (C.2.2.2.2.1 _ g3) g6 (bw_rm hdd g7), g5, C.2.2.2.2.1 _ g2⟩ ⟨bw_blind, bw_pre C.2.2.2.2.2.1 C.2.2.2.2.2.2.1 hP hD⟩ rfl hn hl.1 rfl (lv_room hr) hd ⟨h1, h2⟩) hP hD hS bw_hA (fun q H1 locs1 hP1 hD1 hS1 => k q p e s m args below meth c H1 locs1 ls C hP1 hD1 hS1 hl)
end BWS
