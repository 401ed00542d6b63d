-- THE FLAT PICTURE: every cell that a side of the law holds has a number o; what it holds is a row of ints M o; references are fixed by the table G
abbrev aw_M : Type := Nat → Nat → Int32
def aw_un (M : aw_M) (o : Nat) (f : Nat → Int32) : aw_M := fun a => if a = o then f else M a
def aw_u (M : aw_M) (o j : Nat) (v : Int32) : aw_M := aw_un M o (upd (M o) j v)
-- a row of the table: (0, class, fields: 0 a number, 1 a text, r + 2 the cell r), (1, n) ints, (2, n) bytes, (t + 3, n, cells) references
abbrev aw_D : Type := Nat × Nat × List Nat
def aw_fv (ad : Nat → Nat) (f : Nat → Int32) (j kd : Nat) : Value := match kd with
  | 0 => .int (f j)
  | 1 => .ref (ad (900 + (f j).toNatClampNeg))
  | r + 2 => .ref (ad r)
def aw_cell (cy : Nat → ClassId) (ad : Nat → Nat) (q : aw_D) (f : Nat → Int32) : va_E := match q.1 with
  | 0 => .inr (q.2.1, q.2.2.mapIdx (aw_fv ad f))
  | 1 => .inl (cy 0, q.2.1, .inl f)
  | 2 => .inl (cy 1, q.2.1, .inl f)
  | t + 3 => .inl (cy (t + 2), q.2.1, .inr (.inr (.inr (.inr (fun j => (q.2.2[j]?).map ad)))))
def aw_W (cy : Nat → ClassId) (ad : Nat → Nat) (G : List aw_D) (M : aw_M) : va_W := G.mapIdx (fun k q => (ad k, aw_cell cy ad q (M k)))
def aw_tys (cy : Nat → ClassId) : List (ClassId × FieldType) := [(cy 0, .int), (cy 1, .byte), (cy 2, .object "LoopsBelow$Cloth"), (cy 3, .object "LoopsBelow$Law"), (cy 4, .object "LoopsBelow$Gauge"), (cy 5, .object "LoopsBelow$Sheet")]
theorem aw_W_at {cy : Nat → ClassId} {ad : Nat → Nat} {G : List aw_D} {M : aw_M} {k : Nat} {q : aw_D} (h : G[k]? = some q) : (aw_W cy ad G M)[k]? = some (ad k, aw_cell cy ad q (M k)) := by
  rw [aw_W, List.getElem?_mapIdx, h]; rfl
theorem aw_W_set {cy : Nat → ClassId} {ad : Nat → Nat} {G : List aw_D} {M : aw_M} {k : Nat} {q : aw_D} {f : Nat → Int32} (h : G[k]? = some q) : (aw_W cy ad G M).set k (ad k, aw_cell cy ad q f) = aw_W cy ad G (aw_un M k f) := by
  apply List.ext_getElem?
  intro j
  by_cases hj : j = k
  · subst hj
    have hl : j < (aw_W cy ad G M).length := (List.getElem?_eq_some_iff.mp (aw_W_at h)).1
    rw [List.getElem?_set_self hl, aw_W_at h]
    simp [aw_un]
  · rw [List.getElem?_set_ne (Ne.symm hj)]
    simp only [aw_W, List.getElem?_mapIdx]
    cases G[j]? with
    | none => rfl
    | some x => simp [aw_un, hj]
theorem aw_D_any {A : Nat → Prop} {cy : Nat → ClassId} {ad : Nat → Nat} {G : List aw_D} {M M' : aw_M} (h : va_D A (aw_W cy ad G M)) : va_D A (aw_W cy ad G M') := by
  have key : ∀ (k : Nat) (q : Nat × va_E), (aw_W cy ad G M')[k]? = some q → ∃ q0, (aw_W cy ad G M)[k]? = some q0 ∧ q0.1 = q.1 := by
    intro k q hk
    rw [aw_W, List.getElem?_mapIdx] at hk
    cases hg : G[k]? with
    | none => rw [hg] at hk; cases hk
    | some x => rw [hg] at hk; cases hk; exact ⟨_, aw_W_at hg, rfl⟩
  refine ⟨fun i j p q hi hj e => ?_, fun k q hk => ?_⟩
  · obtain ⟨p0, h1, h2⟩ := key i p hi
    obtain ⟨q0, h3, h4⟩ := key j q hj
    exact h.1 i j p0 q0 h1 h3 (h2.trans (e.trans h4.symm))
  · obtain ⟨q0, h1, h2⟩ := key k q hk
    rw [← h2]
    exact h.2 k q0 h1
-- the tables' words that every method may use; the nest mates' links, which go another way
def tb_g : List Cond := lw_tbl.filter goodWord
theorem tb_in {i : Nat} {w : Cond} (h : lw_tbl[i]? = some w) (hg : goodWord w = true) : w ∈ tb_g := List.mem_filter.mpr ⟨List.mem_of_getElem? h, hg⟩
theorem tb_good : GoodIn tb_g tb_g := fun _ h => ⟨h, good_of_word (List.mem_filter.mp h).2⟩
def tb_nm : List (String × Nat × MethodName × String) := [("LoopsBelow$State", 83, yX9_held, "LoopsBelow"), ("LoopsBelow$Cloth", 31, yX9_above, "LoopsBelow"), ("LoopsBelow$Gauge", 87, yX9_held, "LoopsBelow"), ("LoopsBelow$TextReader", 30, yX9_held, "LoopsBelow"), ("LoopsBelow$Law", 24, yX9_held, "LoopsBelow"), ("LoopsBelow$RowSearch", 19, yX9_held, "LoopsBelow"), ("LoopsBelow", 276, yX5_extend, "LoopsBelow"), ("LoopsBelow$Choir", 47, yX9_above, "LoopsBelow")]
def tb_nf : List (String × Nat × String × String × String × String) := [("LoopsBelow$State", 90, "LoopsBelow", "DEED_SECONDS", "[I", "LoopsBelow"), ("LoopsBelow$Choir", 44, "LoopsBelow", "BODIES", "[I", "LoopsBelow")]
def aw_N (U : State) : Prop := (∀ q ∈ tb_nm, va_Nw (.methodLinkNest q.1 q.2.1 q.2.2.1 q.2.2.2) U) ∧ ∀ q ∈ tb_nf, va_Nw (.fieldLinkNest q.1 q.2.1 q.2.2.1 q.2.2.2.1 q.2.2.2.2.1 q.2.2.2.2.2) U
theorem aw_N.warm {s U : State} (hW : s.WarmedH U.vm) (h : aw_N s) : aw_N U := ⟨fun q hq => va_Nw.warmM hW (h.1 q hq), fun q hq => va_Nw.warmF hW (h.2 q hq)⟩
theorem aw_N.same {u U : State} (h : u.vm = U.vm) (hN : aw_N u) : aw_N U := ⟨fun q hq => va_Nw.same rfl h (hN.1 q hq), fun q hq => va_Nw.same rfl h (hN.2 q hq)⟩
-- what lies outside: the two static rows (cells 910, 911), the two texts (cells 900, 901; their bytes 904, 905)
def aw_t0 : List Int32 := [11, 20, 9, 2, 2, 5, 5]
def aw_t1 : List Int32 := [10, 11, 12, 13, 20, 0, 0, 0, 0, 30, 0, 0, 0, 0, 40, 0, 0, 0, 0, 50, 0, 60, 0, 0, 0, 0, 70, 71]
def aw_tx : List (List Int32) := [[116, 109, 107], [116, 109, 108]]
def aw_E (ad : Nat → Nat) (A : Nat → Prop) (U : State) (H : Heap) : Prop :=
  (va_Z "LoopsBelow" "DEED_SECONDS" "[I" (.ref (ad 910)) A U H ∧ va_T .int (ad 910) 7 (fun j => .int (aw_t0.getD j 0)) A U H) ∧
  (va_Z "LoopsBelow" "BODIES" "[I" (.ref (ad 911)) A U H ∧ va_T .int (ad 911) 28 (fun j => .int (aw_t1.getD j 0)) A U H) ∧
  va_Z "java/lang/String" "COMPACT_STRINGS" "Z" (.int 1) A U H ∧
  vk_S 2 [3, 3] aw_tx (fun i => ad (900 + i)) (fun i => ad (904 + i)) A U H
def aw_T (ad : Nat → Nat) (U : State) : Prop := vk_R "LoopsBelow" 164 "tmk" (ad 900) U ∧ vk_R "LoopsBelow" 166 "tml" (ad 901) U
theorem aw_E.moved {ad : Nat → Nat} {A : Nat → Prop} {u U : State} {H : Heap} (hvm : u.vm.Alike U.vm) (h : aw_E ad A u H) : aw_E ad A U H :=
  ⟨⟨h.1.1.moved hvm, h.1.2.moved hvm⟩, ⟨h.2.1.1.moved hvm, h.2.1.2.moved hvm⟩, h.2.2.1.moved hvm, h.2.2.2.moved hvm⟩
theorem aw_E.kept {ad : Nat → Nat} {A : Nat → Prop} {U : State} {H H1 : Heap} (h : aw_E ad A U H) (hq : ∀ a : Nat, a < H.size → ¬ A a → H1[a]? = H[a]?) : aw_E ad A U H1 :=
  ⟨⟨h.1.1.kept hq, h.1.2.kept hq⟩, ⟨h.2.1.1.kept hq, h.2.1.2.kept hq⟩, h.2.2.1.kept hq, h.2.2.2.kept hq⟩
theorem aw_T.warm {ad : Nat → Nat} {s U : State} (hW : s.WarmedH U.vm) (h : aw_T ad s) : aw_T ad U := ⟨h.1.warm hW, h.2.warm hW⟩
theorem aw_T.same {ad : Nat → Nat} {u U : State} (hv : U.vm = u.vm) (h : aw_T ad u) : aw_T ad U := ⟨h.1.same hv, h.2.same hv⟩
-- room: a call's depth
def aw_R (d : Nat) : Room := { frames := d, cells := 0, slots := 0, locals := 64 * d }
def aw_ws (y : MethodName) (cc : ByteArray) (maxL : Nat) (ret : Option FieldType) : List Cond := Cond.code y cc maxL ret :: tb_g
-- a method's start and end
def aw_B (D : va_G) (cy : Nat → ClassId) (ad : Nat → Nat) (A : Nat → Prop) (G : List aw_D) (M : aw_M) (U : State) : Prop :=
  va_P D vwCl (aw_W cy ad G M) U.heap ∧ va_K D vwCl (aw_tys cy) U ∧ va_D A (aw_W cy ad G M) ∧ aw_E ad A U U.heap ∧ aw_T ad U ∧ aw_N U
def aw_Q (D : va_G) (cy : Nat → ClassId) (ad : Nat → Nat) (A : Nat → Prop) (G : List aw_D) (v : Option Value) (M1 : aw_M) : Array Value → State → Outcome → State → Prop := fun _ st oc t =>
  (oc = .returned v ∧ va_P D vwCl (aw_W cy ad G M1) t.heap) ∧ va_F A st t
/-- method y, from the picture M, with the arguments av: it returns v, and leaves the picture M1 -/
def AX (l : Launch) (D : va_G) (cy : Nat → ClassId) (ad : Nat → Nat) (A : Nat → Prop) (G : List aw_D) (y : MethodName) (cc : ByteArray) (maxL : Nat) (ret : Option FieldType) (d : Nat) (av : List Value) (M : aw_M) (v : Option Value) (M1 : aw_M) : Prop :=
  Met l y (aw_ws y cc maxL ret) (aw_R d) (va_Pc av (aw_B D cy ad A G M)) (aw_Q D cy ad A G v M1) 0 0 A
def aw_C (D : va_G) (cy : Nat → ClassId) (ad : Nat → Nat) (A : Nat → Prop) (G : List aw_D) (own : String) (cc : ByteArray) (nL : Nat) (ret : Option FieldType) (p : Program) (s : State) (m : MethodId) (args : Array Value) (meth : Method) (c : Code) : Prop :=
  p.tables.exec = Jvm.exec ∧ c.code = cc ∧ c.maxLocals = nL ∧ s.vm.findClass own = some m.cls ∧ (∀ w ∈ tb_g, w.before args s = true) ∧ va_K D vwCl (aw_tys cy) s ∧ va_D A (aw_W cy ad G (fun _ _ => 0)) ∧ aw_E ad A s s.heap ∧ (aw_T ad s ∧ aw_N s) ∧ meth.sig.returnType = ret ∧ meth.locks = false
/-- from pc on, with these locals, this stack, this picture: the method comes to return v, and leaves the picture M1 -/
def AW (l : Launch) (D : va_G) (cy : Nat → ClassId) (ad : Nat → Nat) (A : Nat → Prop) (G : List aw_D) (own : String) (cc : ByteArray) (nL : Nat) (ret : Option FieldType) (d : Nat) (v : Option Value) (M1 : aw_M) (pc : Nat) (lv : List (Nat × Value)) (st : List Value) (M : aw_M) : Prop :=
  ∀ (p : Program) (e : Env) (s : State) (m : MethodId) (args : Array Value) (below : List Frame) (meth : Method) (c : Code) (H : Heap) (locs : List Loc) (ls : Array Slot),
    aw_C D cy ad A G own cc nL ret p s m args meth c → va_P D vwCl (aw_W cy ad G M) H → va_S A s.heap H locs → lv_has ls nL lv →
    W p l e (aw_R d) s m args below meth c H locs 0 0 (MQ below (aw_Q D cy ad A G v M1) args s 0 0 A) (F0 m pc ls st)
section AWS
variable {l : Launch} {D : va_G} {cy : Nat → ClassId} {ad : Nat → Nat} {A : Nat → Prop} {G : List aw_D} {own : String} {cc : ByteArray} {nL : Nat} {ret : Option FieldType} {d : Nat} {v : Option Value} {M1 : aw_M} {pc : Nat} {lv : List (Nat × Value)} {st : List Value} {M : aw_M}
theorem aw_blind {av : List Value} : FrameBlind (va_Pc av (aw_B D cy ad A G M)) := by
  intro a U g mk h
  obtain ⟨h1, hP, hK, hD, hE, hT, hN⟩ := h
  exact ⟨h1, hP, va_K.moved (u := U) (U := U.calling g mk a) (Vm.Alike.refl U.vm) hK, hD, aw_E.moved (u := U) (U := U.calling g mk a) (Vm.Alike.refl U.vm) hE, hT.same (U := U.calling g mk a) rfl, hN.same (U := U.calling g mk a) rfl⟩
theorem aw_pre {s : State} {H : Heap} {locs : List Loc} {av : List Value} (hK : va_K D vwCl (aw_tys cy) s) (hD : va_D A (aw_W cy ad G (fun _ _ => 0))) (hE : aw_E ad A s s.heap) (hT : aw_T ad s) (hN : aw_N s) (hP : va_P D vwCl (aw_W cy ad G M) H) (hS : va_S A s.heap H locs) :
    ∀ U : State, U.heap = H → s.WarmedH U.vm → va_Pc av (aw_B D cy ad A G M) av.toArray U := by
  intro U hU hW
  refine ⟨rfl, by rw [hU]; exact hP, hK.moved hW.alike, aw_D_any hD, ?_, hT.warm hW, hN.warm hW⟩
  rw [hU]
  exact (hE.moved hW.alike).kept (fun a h1 h2 => hS.2.1 a h1 h2)
theorem AX.of {y : MethodName} {maxL : Nat} {av : List Value} (hy : plainName y.cls = true) (ho : y.cls = own) (hl : (lg_sl av).length ≤ maxL) (k : AW l D cy ad A G own cc maxL ret d v M1 0 (lv_args 0 av) [] M) : AX l D cy ad A G y cc maxL ret d av M v M1 := by
  refine Met.ofW (cc := cc) (maxL := maxL) (ret := ret) hy rfl ?_
  intro p e s m args below meth c s₁ B hml hv
  obtain ⟨rfl, hP, hK, hD, hE, hT, hN⟩ := hv
  have hts := atoms_spec (ws := aw_ws y cc maxL ret) B.pre
  rw [lg_entry_eq]
  exact k p e s m _ below meth c s.heap [] _ ⟨B.exec, B.bytes, hml, by rw [← ho]; exact findClass_of_methodNamed B.named, fun w hw => hts w (List.mem_cons_of_mem _ hw), hK, aw_D_any hD, hE, ⟨hT, hN⟩, B.returns, B.notSynchronized⟩ hP va_S.rf (lv_entry av hl)
theorem aw_go {p : Program} {e : Env} {R : Room} {s : State} {m : MethodId} {args : Array Value} {below : List Frame} {meth : Method} {c : Code} {H : Heap} {locs : List Loc} {Q : State → Prop} {ls : Array Slot} {st0 rest : List Value} {a : Array Value} {v : Option Value} {M1 : aw_M}
    (hr : va_Run p l e R s m args below meth c H locs 0 0 0 0 (F0 m pc ls st0) rest (aw_Q D cy ad A G v M1 a) A) (hS : va_S A s.heap H locs)
    (kk : ∀ (H1 : Heap) (locs1 : List Loc), va_P D vwCl (aw_W cy ad G M1) H1 → va_S A s.heap H1 locs1 → W p l e R s m args below meth c H1 locs1 0 0 Q (F0 m (pc + 3) ls (v.toList ++ rest))) : W p l e R s m args below meth c H locs 0 0 Q (F0 m pc ls st0) := by
  intro T hT X
  obtain ⟨w, st₀, t, T', L, h0, X', hL, e1, e2, ⟨⟨hv, hb⟩, hz, hk⟩, st⟩ := hr T hT X
  cases hv
  rw [h0] at hz hk
  obtain ⟨t2, a1, b1⟩ := kk T'.heap (locs ++ L) (by rw [e1]; exact hb)
    ⟨Nat.le_trans hS.1 (by rw [e1]; exact hz), fun q h1 h2 => by rw [e1, hk q (Nat.lt_of_lt_of_le h1 hS.1) h2]; exact hS.2.1 q h1 h2, fun q hq => by
      rcases List.mem_append.mp hq with h | h
      · exact hS.2.2 q h
      · exact hL q h⟩ T' rfl X'
  exact ⟨t2, st t2 a1, b1⟩
end AWS
