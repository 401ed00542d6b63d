/-! THE CLAIM OUT OF ONE WALK OF THE LAW'S BODY. Your part is whole_start (and what it stands on); all else here is the same for every law, but numbers. -/
def R_law : String := "LoopsBelowLaw"
def lw_P (b : Addr) (xs : List Int32) (args : Array Value) (s : State) : Prop := args = #[.ref b] ∧ s.IntsAt b xs ∧ xs.length ≤ 3072 ∧ (Jvm.Cond.and given_1 narrow_1).before args s = true
def lw_Q (_ : Array Value) (s : State) (o : Outcome) (t : State) : Prop := o = .returned (some (.int 1)) ∧ Framed s o t [] 600000 7302250
def lw_Z (below : List Frame) (a : Array Value) (s : State) : State → Prop := fun t => ∃ o, t.status = .running ∧ Ended t below o ∧ lw_Q a s o t
/-- the law's own end, with 1 on the stack, nothing written that was there before, its room as the claim has it -/
theorem lw_ret {p : Program} {l : Launch} {e : Env} {s : State} {m : MethodId} {below : List Frame} {meth : Method} {c : Code} {b : Nat} (hx : p.tables.exec = Jvm.exec) (hb : c.code = code) (hr : meth.sig.returnType = ret) (hlocks : meth.locks = false) {pc : Nat} {H : Heap} {ls : Array Slot} (hdg : decode code pc = .ok (.ireturn, 1)) : W p l e room_1 s m #[Value.ref b] below meth c H [] 600000 7302250 (lw_Z below #[Value.ref b] s) (F0 m pc ls [.int 1]) := by
  intro T hT X
  obtain ⟨fs, hret, hrun, hended, hW, hframe⟩ := X.leave (v := some (.int 1)) (hlocks := hlocks) (fun h => by rw [hr] at h; cases h)
  have hmeth' : T.vm.method? m = some meth := X.method'
  refine ⟨T.setFrames fs, ?_, .returned (some (.int 1)), hrun, hended, rfl, ⟨_, rfl⟩, hW, hframe⟩
  jvm_step X.here [X.here.top, hx, hb, hdg, hmeth', hr, ret, narrow_b1]
  (try refine ⟨rfl, ?_⟩); (try refine ⟨rfl, ?_⟩)
  first | (intro acts; rw [hret _ acts rfl rfl rfl]) | rw [hret _ _ rfl rfl rfl]
  exact Steps.refl _
/-- what holds at the law's entry: the machine, the code, the tables' words (any of lw_tbl by 'hts w (by decide +kernel)'), the script of L ints xs at the cell b, what the Statement gives of the start (any of its parts by flat_of_before) -/
def lw_At (p : Program) (s : State) (m : MethodId) (meth : Method) (c : Code) (b L : Nat) (xs : Nat → Int32) : Prop :=
  p.tables.exec = Jvm.exec ∧ c.code = code ∧ meth.sig.returnType = ret ∧ c.maxLocals = 4 ∧ s.vm.findClass R_law = some m.cls ∧ (∀ w ∈ lw_tbl, w.before #[Value.ref b] s = true) ∧ va_X b L xs s s.heap ∧ b < s.heap.size ∧ meth.locks = false ∧ (Jvm.Cond.and given_1 narrow_1).before #[Value.ref b] s = true

def LW (p : Program) (l : Launch) (e : Env) (s : State) (m : MethodId) (below : List Frame) (meth : Method) (c : Code) (b : Nat) (D : va_G) (cy : Nat → ClassId) (adC adM : Nat → Nat) (pc : Nat) (lv : List (Nat × Value)) (st : List Value) (Mc Mm : aw_M) : Prop :=
  ∀ (H : Heap) (locs : List Loc) (ls : Array Slot), va_P D vwCl (aw_W cy adC gc_G Mc) H → va_P D vwCl (aw_W cy adM gm_G Mm) H → va_S (fun q => s.heap.size ≤ q) s.heap H locs → lv_has ls 4 lv → W p l e room_1 s m #[Value.ref b] below meth c H locs 80 2846 (lw_Z below #[Value.ref b] s) (F0 m pc ls st)
def LC (p : Program) (s : State) (m : MethodId) (meth : Method) (c : Code) (b L : Nat) (xs : Nat → Int32) (D : va_G) (cy : Nat → ClassId) (adC adM : Nat → Nat) : Prop :=
  lw_At p s m meth c b L xs ∧ va_K D vwCl (aw_tys cy) s ∧ (va_D (fun q => s.heap.size ≤ q) (aw_W cy adC gc_G (fun _ _ => 0)) ∧ va_D (fun q => s.heap.size ≤ q) (aw_W cy adM gm_G (fun _ _ => 0)) ∧ ∀ i j, i < 68 → j < 12 → adC i ≠ adM j) ∧ (aw_E adC (fun q => s.heap.size ≤ q) s s.heap ∧ aw_T adC s) ∧ (aw_E adM (fun q => s.heap.size ≤ q) s s.heap ∧ aw_T adM s) ∧ aw_N s
theorem aw_E.narrow {ad : Nat → Nat} {A B : Nat → Prop} {U : State} {H : Heap} (h : aw_E ad A U H) (hAB : ∀ q, B q → A q) : aw_E ad B U H :=
  ⟨⟨h.1.1.narrow hAB, h.1.2.narrow hAB⟩, ⟨h.2.1.1.narrow hAB, h.2.1.2.narrow hAB⟩, h.2.2.1.narrow hAB, h.2.2.2.narrow hAB⟩
theorem lw_call {p : Program} {l : Launch} {e : Env} {s : State} {m : MethodId} {below : List Frame} {meth : Method} {c : Code} {b L : Nat} {xs : Nat → Int32} {D : va_G} {cy : Nat → ClassId} {ad : Nat → Nat} {G : List aw_D} {M M2 : aw_M} {H : Heap} {locs : List Loc} {Q : State → Prop} {ls : Array Slot} {pc idx n maxL ci : Nat} {ks : List Nat} {C0 : String} {T0 : u_T} {N0 : Nat} {y : MethodName} {bytes : ByteArray} {As rest st : List Value} {r : Int32} (hAt : lw_At p s m meth c b L xs) (hK : va_K D vwCl (aw_tys cy) s) (hD : va_D (fun q => s.heap.size ≤ q) (aw_W cy ad G (fun _ _ => 0))) (hE : aw_E ad (fun q => s.heap.size ≤ q) s s.heap) (hT : aw_T ad s) (hN : aw_N s) (hP : va_P D vwCl (aw_W cy ad G M) H) (hS : va_S (fun q => s.heap.size ≤ q) s.heap H locs) (hls : ls.size = 4) (hd : decode code pc = .ok (.invokevirtual idx, 3)) (hw : aw_V RL idx C0 y bytes maxL (some .int) n) (hG : G[0]? = some (0, ci, ks)) (hci : vwCl[ci]? = some (C0, T0, N0)) (hn : As.length = n) (hst : st = As.reverse ++ .ref (ad 0) :: rest) (hr : (rest.map fun v => v.category).sum ≤ 8)
    (hM : AX l D cy ad (fun q => ∃ k, k < G.length ∧ q = ad k) G y bytes maxL (some .int) 1000 (.ref (ad 0) :: As) M (some (.int r)) M2)
    (kk : ∀ (H1 : Heap) (locs1 : List Loc), va_P D vwCl (aw_W cy ad G M2) H1 → (∀ q, q < H.size → (∀ k, k < G.length → q ≠ ad k) → H1[q]? = H[q]?) → va_S (fun q => s.heap.size ≤ q) s.heap H1 locs1 → W p l e room_1 s m #[Value.ref b] below meth c H1 locs1 80 2846 Q (F0 m (pc + 3) ls (.int r :: rest))) : W p l e room_1 s m #[Value.ref b] below meth c H locs 80 2846 Q (F0 m pc ls st) := by
  subst hst
  obtain ⟨hx, hb, hrt, hml, hown, hts, hX, hbl, hlocks, hgv⟩ := hAt
  obtain ⟨h1, h2, h3, h4, h5, h6, h7⟩ := hw
  have htg : ∀ w ∈ tb_g, w.before #[Value.ref b] s = true := fun w hw => hts w (List.mem_filter.mp hw).1
  have hsub : ∀ q, (∃ k, k < G.length ∧ q = ad k) → s.heap.size ≤ q := by
    rintro q ⟨k, hk, rfl⟩
    exact hD.2 k _ (aw_W_at (List.getElem?_eq_getElem hk))
  have hD1 : va_D (fun q => ∃ k, k < G.length ∧ q = ad k) (aw_W cy ad G M) := by
    refine ⟨(aw_D_any (M' := M) hD).1, fun k q hk => ?_⟩
    rw [aw_W, List.getElem?_mapIdx] at hk
    cases hg : G[k]? with
    | none => rw [hg] at hk; cases hk
    | some x => rw [hg] at hk; cases hk; exact ⟨k, (List.getElem?_eq_some_iff.mp hg).1, rfl⟩
  have run := va_runV (p := p) (e := e) (below := below) (meth := meth) (locs := locs) (cells := 80) (slots := 2846) (R := room_1) (As := As) (rest := rest) (ws := aw_ws y bytes maxL (some .int)) (rm := aw_R 1000) (g := F0 m pc ls (As.reverse ++ .ref (ad 0) :: rest)) ⟨hx, hb, hml, hown, htg⟩ hM (cwV n htg (aw_gc (fun w hw => by rcases (by simpa using hw : w = _ ∨ w = _ ∨ w = _ ∨ w = _) with rfl | rfl | rfl | rfl <;> assumption) h5) rfl rfl rfl h6 ⟨by show 1000 + 1 ≤ 2048; omega, by show 8 + (maxL + 11) + 64 * 1000 ≤ 84000; omega⟩) ⟨aw_blind, va_recv hK hP hci (aw_W_at hG), fun U hU hW => ⟨rfl, by rw [hU]; exact hP, hK.moved hW.alike, hD1, by rw [hU]; exact ((hE.narrow hsub).moved hW.alike).kept (fun a g1 _ => hS.2.1 a g1 (Nat.not_le.mpr g1)), hT.warm hW, hN.warm hW⟩⟩ rfl hn hls rfl (lv_room hr) hd ⟨by show 80 + 0 ≤ 600000; omega, by show 2846 + 0 ≤ 7302250; omega⟩
  intro T hT2 X
  obtain ⟨w, st₀, t, T', Lc, g0, X', hL, e1, e2, ⟨⟨hv, hb1⟩, hz, hk⟩, stp⟩ := run T hT2 X
  cases hv
  rw [g0] at hz hk
  obtain ⟨t2, a1, b1⟩ := kk T'.heap (locs ++ Lc) (by rw [e1]; exact hb1) (fun q g1 g2 => by rw [e1]; exact hk q g1 (fun ⟨k, hk1, hk2⟩ => g2 k hk1 hk2)) ⟨Nat.le_trans hS.1 (by rw [e1]; exact hz), fun q g1 g2 => by
      rw [e1, hk q (Nat.lt_of_lt_of_le g1 hS.1) (fun z => absurd (hsub q z) (Nat.not_le.mpr g1))]
      exact hS.2.1 q g1 g2, fun q hq => by
      rcases List.mem_append.mp hq with h | h
      · exact hS.2.2 q h
      · exact hsub _ (hL q h)⟩ T' rfl X'
  exact ⟨t2, stp t2 a1, b1⟩
section LWS
variable {p : Program} {l : Launch} {e : Env} {s : State} {m : MethodId} {below : List Frame} {meth : Method} {c : Code} {b L : Nat} {xs : Nat → Int32} {D : va_G} {cy : Nat → ClassId} {adC adM : Nat → Nat} {pc : Nat} {lv : List (Nat × Value)} {st : List Value} {Mc Mm : aw_M}
theorem z_iconst {n : Int} {w : Int32} (hC : LC p s m meth c b L xs D cy adC adM) (hd : decode code pc = .ok (.iconst n, 1)) (hv : Int32.ofInt n = w) (k : LW p l e s m below meth c b D cy adC adM (pc + 1) lv (.int w :: st) Mc Mm) : LW p l e s m below meth c b D cy adC adM pc lv (st) Mc Mm := fun H locs ls hPc hPm hS hl => lv_iconst hC.1.1 hC.1.2.1 hd hv (k H locs ls hPc hPm hS hl)
theorem z_bipush {n : Int} {w : Int32} (hC : LC p s m meth c b L xs D cy adC adM) (hd : decode code pc = .ok (.bipush n, 2)) (hv : (Int8.ofInt n).toInt32 = w) (k : LW p l e s m below meth c b D cy adC adM (pc + 2) lv (.int w :: st) Mc Mm) : LW p l e s m below meth c b D cy adC adM pc lv (st) Mc Mm := fun H locs ls hPc hPm hS hl => lv_bipush hC.1.1 hC.1.2.1 hd hv (k H locs ls hPc hPm hS hl)
theorem z_iadd {x y : Int32} (hC : LC p s m meth c b L xs D cy adC adM) (hd : decode code pc = .ok (.iadd, 1))  (k : LW p l e s m below meth c b D cy adC adM (pc + 1) lv (.int (x + y) :: st) Mc Mm) : LW p l e s m below meth c b D cy adC adM pc lv (.int y :: .int x :: st) Mc Mm := fun H locs ls hPc hPm hS hl => lv_iadd hC.1.1 hC.1.2.1 hd  (k H locs ls hPc hPm hS hl)
theorem z_isub {x y : Int32} (hC : LC p s m meth c b L xs D cy adC adM) (hd : decode code pc = .ok (.isub, 1))  (k : LW p l e s m below meth c b D cy adC adM (pc + 1) lv (.int (x - y) :: st) Mc Mm) : LW p l e s m below meth c b D cy adC adM pc lv (.int y :: .int x :: st) Mc Mm := fun H locs ls hPc hPm hS hl => lv_isub hC.1.1 hC.1.2.1 hd  (k H locs ls hPc hPm hS hl)
theorem z_iand {x y : Int32} (hC : LC p s m meth c b L xs D cy adC adM) (hd : decode code pc = .ok (.iand, 1))  (k : LW p l e s m below meth c b D cy adC adM (pc + 1) lv (.int (x &&& y) :: st) Mc Mm) : LW p l e s m below meth c b D cy adC adM pc lv (.int y :: .int x :: st) Mc Mm := fun H locs ls hPc hPm hS hl => lv_iand hC.1.1 hC.1.2.1 hd  (k H locs ls hPc hPm hS hl)
theorem z_land {x y : Int64} (hC : LC p s m meth c b L xs D cy adC adM) (hd : decode code pc = .ok (.land, 1))  (k : LW p l e s m below meth c b D cy adC adM (pc + 1) lv (.long (x &&& y) :: st) Mc Mm) : LW p l e s m below meth c b D cy adC adM pc lv (.long y :: .long x :: st) Mc Mm := fun H locs ls hPc hPm hS hl => lv_land hC.1.1 hC.1.2.1 hd  (k H locs ls hPc hPm hS hl)
theorem z_lor {x y : Int64} (hC : LC p s m meth c b L xs D cy adC adM) (hd : decode code pc = .ok (.lor, 1))  (k : LW p l e s m below meth c b D cy adC adM (pc + 1) lv (.long (x ||| y) :: st) Mc Mm) : LW p l e s m below meth c b D cy adC adM pc lv (.long y :: .long x :: st) Mc Mm := fun H locs ls hPc hPm hS hl => lv_lor hC.1.1 hC.1.2.1 hd  (k H locs ls hPc hPm hS hl)
theorem z_i2l {x : Int32} (hC : LC p s m meth c b L xs D cy adC adM) (hd : decode code pc = .ok (.i2l, 1))  (k : LW p l e s m below meth c b D cy adC adM (pc + 1) lv (.long x.toInt64 :: st) Mc Mm) : LW p l e s m below meth c b D cy adC adM pc lv (.int x :: st) Mc Mm := fun H locs ls hPc hPm hS hl => lv_i2l hC.1.1 hC.1.2.1 hd rfl (k H locs ls hPc hPm hS hl)
theorem z_lshl {x : Int64} {y : Int32} (hC : LC p s m meth c b L xs D cy adC adM) (hd : decode code pc = .ok (.lshl, 1))  (k : LW p l e s m below meth c b D cy adC adM (pc + 1) lv (.long (x <<< (y.toInt64 &&& 63)) :: st) Mc Mm) : LW p l e s m below meth c b D cy adC adM pc lv (.int y :: .long x :: st) Mc Mm := fun H locs ls hPc hPm hS hl => lv_lshl hC.1.1 hC.1.2.1 hd rfl (k H locs ls hPc hPm hS hl)
theorem z_goto {off : Int} (tgt : Nat) (hC : LC p s m meth c b L xs D cy adC adM) (hd : decode code pc = .ok (.goto off, 3)) (ht : (pc : Int) + off = (tgt : Int)) (k : LW p l e s m below meth c b D cy adC adM tgt lv (st) Mc Mm) : LW p l e s m below meth c b D cy adC adM pc lv (st) Mc Mm := fun H locs ls hPc hPm hS hl => lv_goto hC.1.1 hC.1.2.1 hd ht (k H locs ls hPc hPm hS hl)
theorem z_iload_n {j : Fin 4} {x : Int32} (i : Nat) (hC : LC p s m meth c b L xs D cy adC adM) (hd : decode code pc = .ok (.iload_n j, 1)) (hi : (j : Nat) = i) (hx : aw_lk lv i = some (.int x)) (k : LW p l e s m below meth c b D cy adC adM (pc + 1) lv (.int x :: st) Mc Mm) : LW p l e s m below meth c b D cy adC adM pc lv st Mc Mm := fun H locs ls hPc hPm hS hl => lv_iload_n hC.1.1 hC.1.2.1 hd hi (aw_lk_at hl hx) (k H locs ls hPc hPm hS hl)
theorem z_aload_n {j : Fin 4} {x : Nat} (i : Nat) (hC : LC p s m meth c b L xs D cy adC adM) (hd : decode code pc = .ok (.aload_n j, 1)) (hi : (j : Nat) = i) (hx : aw_lk lv i = some (.ref x)) (k : LW p l e s m below meth c b D cy adC adM (pc + 1) lv (.ref x :: st) Mc Mm) : LW p l e s m below meth c b D cy adC adM pc lv st Mc Mm := fun H locs ls hPc hPm hS hl => lv_aload_n hC.1.1 hC.1.2.1 hd hi (aw_lk_at hl hx) (k H locs ls hPc hPm hS hl)
theorem z_iinc {i : Nat} {n : Int} {x : Int32} (y : Int32) (lv' : List (Nat × Value)) (hC : LC p s m meth c b L xs D cy adC adM) (hd : decode code pc = .ok (.iinc i n, 3)) (hx : aw_lk lv i = some (.int x)) (hy : x + Int32.ofInt n = y) (hn : i < 4) (hv : (i, Value.int y) :: lv.filter (fun q => !(q.1 == i) && !(q.1 + 1 == i && q.2.category == 2)) = lv') (k : LW p l e s m below meth c b D cy adC adM (pc + 3) lv' st Mc Mm) : LW p l e s m below meth c b D cy adC adM pc lv st Mc Mm := by
  obtain ⟨j, hj⟩ := aw_lk_ix hx
  exact fun H locs ls hPc hPm hS hl => lv_iinc hC.1.1 hC.1.2.1 hd hl hj hy hn hv (fun ls' hl' => k H locs ls' hPc hPm hS hl')
theorem z_lv (ks : List Nat) (lv' : List (Nat × Value)) (h : lv_pick lv ks = lv') (k : LW p l e s m below meth c b D cy adC adM pc lv' st Mc Mm) : LW p l e s m below meth c b D cy adC adM pc lv st Mc Mm := fun H locs ls hPc hPm hS hl => k H locs ls hPc hPm hS (lv_sub hl ks h)
theorem z_gt {x y : Int32} {off : Int} (tgt : Nat) (hC : LC p s m meth c b L xs D cy adC adM) (hd : decode code pc = .ok (.if_icmp .gt off, 3)) (ht : (pc : Int) + off = (tgt : Int)) (kt : y < x → LW p l e s m below meth c b D cy adC adM tgt lv st Mc Mm) (kf : ¬ y < x → LW p l e s m below meth c b D cy adC adM (pc + 3) lv st Mc Mm) : LW p l e s m below meth c b D cy adC adM pc lv (.int y :: .int x :: st) Mc Mm := fun H locs ls hPc hPm hS hl => lv_icmp_gt hC.1.1 hC.1.2.1 hd ht (fun h => kt h H locs ls hPc hPm hS hl) (fun h => kf h H locs ls hPc hPm hS hl)
theorem z_eq {x : Int32} {off : Int} (tgt : Nat) (hC : LC p s m meth c b L xs D cy adC adM) (hd : decode code pc = .ok (.if_icmp .eq off, 3)) (ht : (pc : Int) + off = (tgt : Int)) (k : LW p l e s m below meth c b D cy adC adM tgt lv st Mc Mm) : LW p l e s m below meth c b D cy adC adM pc lv (.int x :: .int x :: st) Mc Mm := fun H locs ls hPc hPm hS hl => lv_icmp_eq hC.1.1 hC.1.2.1 hd ht (fun _ => k H locs ls hPc hPm hS hl) (fun h => absurd rfl h)
theorem z_sld {i w : Int32} (hC : LC p s m meth c b L xs D cy adC adM) (hd : decode code pc = .ok (.iaload, 1)) (hin : vp_in i L) (hw : xs i.toNatClampNeg = w) (k : LW p l e s m below meth c b D cy adC adM (pc + 1) lv (.int w :: st) Mc Mm) : LW p l e s m below meth c b D cy adC adM pc lv (.int i :: .ref b :: st) Mc Mm := by
  subst hw
  exact fun H locs ls hPc hPm hS hl => va_sld hC.1.1 hC.1.2.1 hC.1.2.2.2.2.2.2.1 hC.1.2.2.2.2.2.2.2.1 (A := fun q => s.heap.size ≤ q) (Nat.not_le.mpr hC.1.2.2.2.2.2.2.2.1) hS hin hd (k H locs ls hPc hPm hS hl)
theorem z_slen {w : Int32} (hC : LC p s m meth c b L xs D cy adC adM) (hd : decode code pc = .ok (.arraylength, 1)) (hw : Int32.ofNat L = w) (k : LW p l e s m below meth c b D cy adC adM (pc + 1) lv (.int w :: st) Mc Mm) : LW p l e s m below meth c b D cy adC adM pc lv (.ref b :: st) Mc Mm := by
  subst hw
  exact fun H locs ls hPc hPm hS hl => va_slen hC.1.1 hC.1.2.1 hC.1.2.2.2.2.2.2.1 hC.1.2.2.2.2.2.2.2.1 (A := fun q => s.heap.size ≤ q) (Nat.not_le.mpr hC.1.2.2.2.2.2.2.2.1) hS hd (k H locs ls hPc hPm hS hl)
theorem z_ldc2 {idx : Nat} {w : Int64} (hC : LC p s m meth c b L xs D cy adC adM) (hd : decode code pc = .ok (.ldc2_w idx, 3)) (hw : Cond.constantLong RL idx w ∈ tb_g) (k : LW p l e s m below meth c b D cy adC adM (pc + 3) lv (.long w :: st) Mc Mm) : LW p l e s m below meth c b D cy adC adM pc lv st Mc Mm := fun H locs ls hPc hPm hS hl => lv_ldc2 (own := RL) hC.1.1 hC.1.2.1 hC.1.2.2.2.2.1 (hC.1.2.2.2.2.2.1 _ (List.mem_filter.mp hw).1) hd (k H locs ls hPc hPm hS hl)
theorem z_tin {x : Int32} {dflt lo hi off : Int} {offs : Array Int} {len : Nat} (w : Int32) (tgt : Nat) (hC : LC p s m meth c b L xs D cy adC adM) (hd : decode code pc = .ok (.tableswitch dflt lo hi offs, len)) (hx : x = w) (h1 : ¬ w.toInt < lo) (h2 : ¬ hi < w.toInt) (ho : offs[(w.toInt - lo).toNat]? = some off) (ht : (pc : Int) + off = (tgt : Int)) (k : LW p l e s m below meth c b D cy adC adM tgt lv st Mc Mm) : LW p l e s m below meth c b D cy adC adM pc lv (.int x :: st) Mc Mm := fun H locs ls hPc hPm hS hl => lv_tableIn hC.1.1 hC.1.2.1 hd (by rw [hx]; exact h1) (by rw [hx]; exact h2) (by rw [hx]; exact ho) ht (k H locs ls hPc hPm hS hl)
theorem z_tout {x : Int32} {dflt lo hi : Int} {offs : Array Int} {len : Nat} (tgt : Nat) (hC : LC p s m meth c b L xs D cy adC adM) (hd : decode code pc = .ok (.tableswitch dflt lo hi offs, len)) (h : x.toInt < lo ∨ hi < x.toInt) (ht : (pc : Int) + dflt = (tgt : Int)) (k : LW p l e s m below meth c b D cy adC adM tgt lv st Mc Mm) : LW p l e s m below meth c b D cy adC adM pc lv (.int x :: st) Mc Mm := fun H locs ls hPc hPm hS hl => lv_tableOut hC.1.1 hC.1.2.1 hd h ht (k H locs ls hPc hPm hS hl)
theorem z_ret (hC : LC p s m meth c b L xs D cy adC adM) (hd : decode code pc = .ok (.ireturn, 1)) : LW p l e s m below meth c b D cy adC adM pc lv [.int 1] Mc Mm := fun H locs ls hPc hPm hS hl => va_forget (fun q hq => hS.2.2 q hq) (W.widen (k := 600000) (n := 7302250) (by decide) (by decide) (lw_ret hC.1.1 hC.1.2.1 hC.1.2.2.1 hC.1.2.2.2.2.2.2.2.2.1 hd))
theorem z_callC {idx n maxL : Nat} {y : MethodName} {bytes : ByteArray} {As rest : List Value} {r : Int32} {M2 : aw_M} (hC : LC p s m meth c b L xs D cy adC adM) (hd : decode code pc = .ok (.invokevirtual idx, 3)) (hw : aw_V RL idx RX9 y bytes maxL (some .int) n) (hn : As.length = n) (hst : st = As.reverse ++ .ref (adC 0) :: rest) (hr : (rest.map fun v => v.category).sum ≤ 8) (hM : AX l D cy adC (fun q => ∃ k, k < gc_G.length ∧ q = adC k) gc_G y bytes maxL (some .int) 1000 (.ref (adC 0) :: As) Mc (some (.int r)) M2) (k : LW p l e s m below meth c b D cy adC adM (pc + 3) lv (.int r :: rest) M2 Mm) : LW p l e s m below meth c b D cy adC adM pc lv st Mc Mm := by
  intro H locs ls hPc hPm hS hl
  refine lw_call hC.1 hC.2.1 hC.2.2.1.1 hC.2.2.2.1.1 hC.2.2.2.1.2 hC.2.2.2.2.2 hPc hS hl.1 hd hw gc_0 rfl hn hst hr hM (fun H1 locs1 hP1 hk1 hS1 => ?_)
  refine k H1 locs1 ls hP1 (hPm.kept (fun j q hq => hk1 q.1 (hPm j q hq).lt (fun i hi e => ?_))) hS1 hl
  rw [aw_W, List.getElem?_mapIdx] at hq
  cases hg : gm_G[j]? with
  | none => rw [hg] at hq; cases hq
  | some x =>
    rw [hg] at hq
    cases hq
    exact hC.2.2.1.2.2 i j hi (List.getElem?_eq_some_iff.mp hg).1 e.symm
theorem z_callM {idx n maxL : Nat} {y : MethodName} {bytes : ByteArray} {As rest : List Value} {r : Int32} {M2 : aw_M} (hC : LC p s m meth c b L xs D cy adC adM) (hd : decode code pc = .ok (.invokevirtual idx, 3)) (hw : aw_V RL idx RX10 y bytes maxL (some .int) n) (hn : As.length = n) (hst : st = As.reverse ++ .ref (adM 0) :: rest) (hr : (rest.map fun v => v.category).sum ≤ 8) (hM : AX l D cy adM (fun q => ∃ k, k < gm_G.length ∧ q = adM k) gm_G y bytes maxL (some .int) 1000 (.ref (adM 0) :: As) Mm (some (.int r)) M2) (k : LW p l e s m below meth c b D cy adC adM (pc + 3) lv (.int r :: rest) Mc M2) : LW p l e s m below meth c b D cy adC adM pc lv st Mc Mm := by
  intro H locs ls hPc hPm hS hl
  refine lw_call hC.1 hC.2.1 hC.2.2.1.2.1 hC.2.2.2.2.1.1 hC.2.2.2.2.1.2 hC.2.2.2.2.2 hPm hS hl.1 hd hw gm_0 rfl hn hst hr hM (fun H1 locs1 hP1 hk1 hS1 => ?_)
  refine k H1 locs1 ls (hPc.kept (fun j q hq => hk1 q.1 (hPc j q hq).lt (fun i hi e => ?_))) hP1 hS1 hl
  rw [aw_W, List.getElem?_mapIdx] at hq
  cases hg : gc_G[j]? with
  | none => rw [hg] at hq; cases hq
  | some x =>
    rw [hg] at hq
    cases hq
    exact hC.2.2.1.2.2 j i (List.getElem?_eq_some_iff.mp hg).1 hi e
end LWS
