theorem ex_K {s : State} {args : Array Value} (hts : ∀ w ∈ lw_tbl, w.before args s = true) : ∃ (D : va_G) (cy : Nat → ClassId), va_K D vwCl (aw_tys cy) s := by
  have htg : ∀ w ∈ tb_g, w.before args s = true := fun w hw => hts w (List.mem_filter.mp hw).1
  have hk : ∀ k : Nat, ∃ p : ClassId × (Nat → Nat), ∀ q : vw_C, vwCl[k]? = some q → u_Kn s q.1 q.2.1 q.2.2 p.1 p.2 := by
    intro k
    match k with
    | 0 => obtain ⟨c0, iS, h⟩ := u_known (C := RX0) (T := TX0) (N := 5) (n := 5) htg wu_X0 (hts _ (List.mem_of_getElem? (i := 318) (by decide +kernel))); exact ⟨(c0, iS), fun q hq => by cases hq; exact h⟩
    | 1 => obtain ⟨c0, iS, h⟩ := u_known (C := RX1) (T := TX1) (N := 5) (n := 5) htg wu_X1 (hts _ (List.mem_of_getElem? (i := 136) (by decide +kernel))); exact ⟨(c0, iS), fun q hq => by cases hq; exact h⟩
    | 2 => obtain ⟨c0, iS, h⟩ := u_known (C := RX2) (T := TX2) (N := 5) (n := 5) htg wu_X2 (hts _ (List.mem_of_getElem? (i := 233) (by decide +kernel))); exact ⟨(c0, iS), fun q hq => by cases hq; exact h⟩
    | 3 => obtain ⟨c0, iS, h⟩ := u_known (C := RX3) (T := TX3) (N := 3) (n := 3) htg wu_X3 (hts _ (List.mem_of_getElem? (i := 171) (by decide +kernel))); exact ⟨(c0, iS), fun q hq => by cases hq; exact h⟩
    | 4 => obtain ⟨c0, iS, h⟩ := u_known (C := RX4) (T := TX4) (N := 6) (n := 6) htg wu_X4 (hts _ (List.mem_of_getElem? (i := 98) (by decide +kernel))); exact ⟨(c0, iS), fun q hq => by cases hq; exact h⟩
    | 5 => obtain ⟨c0, iS, h⟩ := u_known (C := RX5) (T := TX5) (N := 7) (n := 7) htg wu_X5 (hts _ (List.mem_of_getElem? (i := 259) (by decide +kernel))); exact ⟨(c0, iS), fun q hq => by cases hq; exact h⟩
    | 6 => obtain ⟨c0, iS, h⟩ := u_known (C := RX6) (T := TX6) (N := 3) (n := 3) htg wu_X6 (hts _ (List.mem_of_getElem? (i := 343) (by decide +kernel))); exact ⟨(c0, iS), fun q hq => by cases hq; exact h⟩
    | 7 => obtain ⟨c0, iS, h⟩ := u_known (C := RX7) (T := TX7) (N := 10) (n := 10) htg wu_X7 (hts _ (List.mem_of_getElem? (i := 92) (by decide +kernel))); exact ⟨(c0, iS), fun q hq => by cases hq; exact h⟩
    | 8 => obtain ⟨c0, iS, h⟩ := u_known (C := RX8) (T := TX8) (N := 6) (n := 6) htg wu_X8 (hts _ (List.mem_of_getElem? (i := 289) (by decide +kernel))); exact ⟨(c0, iS), fun q hq => by cases hq; exact h⟩
    | 9 => obtain ⟨c0, iS, h⟩ := u_known (C := RX9) (T := TX9) (N := 11) (n := 11) htg wu_X9 (hts _ (List.mem_of_getElem? (i := 84) (by decide +kernel))); exact ⟨(c0, iS), fun q hq => by cases hq; exact h⟩
    | 10 => obtain ⟨c0, iS, h⟩ := u_known (C := RX10) (T := TX10) (N := 27) (n := 27) htg wu_X10 (hts _ (List.mem_of_getElem? (i := 955) (by decide +kernel))); exact ⟨(c0, iS), fun q hq => by cases hq; exact h⟩
    | k + 11 => exact ⟨(0, fun _ => 0), fun q hq => by simp [vwCl] at hq⟩
  obtain ⟨f, hf⟩ := Classical.axiomOfChoice hk
  obtain ⟨a0, k0, m0, p0, p1, p2⟩ := Cond.arrayClass_spec (type := .int) (hts _ (List.mem_of_getElem? (i := 170) (by decide +kernel)))
  obtain ⟨b0, l0, n0, q0, q1, q2⟩ := Cond.arrayClass_spec (type := .byte) (hts _ (List.mem_of_getElem? (i := 169) (by decide +kernel)))
  obtain ⟨e0, c0, d0, r01, r02, r03, r04, r05⟩ := Cond.arrayOver_spec (n := "LoopsBelow$Cloth") (hts _ (List.mem_of_getElem? (i := 133) (by decide +kernel)))
  obtain ⟨e1, c1, d1, r11, r12, r13, r14, r15⟩ := Cond.arrayOver_spec (n := "LoopsBelow$Law") (hts _ (List.mem_of_getElem? (i := 135) (by decide +kernel)))
  obtain ⟨e2, c2, d2, r21, r22, r23, r24, r25⟩ := Cond.arrayOver_spec (n := "LoopsBelow$Gauge") (hts _ (List.mem_of_getElem? (i := 232) (by decide +kernel)))
  obtain ⟨e3, c3, d3, r31, r32, r33, r34, r35⟩ := Cond.arrayOver_spec (n := "LoopsBelow$Sheet") (hts _ (List.mem_of_getElem? (i := 342) (by decide +kernel)))
  refine ⟨(fun k => (f k).1, fun k => (f k).2), fun k => ([a0, b0, c0, c1, c2, c3] : List Nat).getD k 0, fun k q hq => hf k q hq, fun k q hq => ?_⟩
  match k with
  | 0 => cases hq; exact ⟨fun n z => ⟨fun k h => (by cases h), k0, p1, m0, p2⟩, p0⟩
  | 1 => cases hq; exact ⟨fun n z => ⟨fun k h => (by cases h), l0, q1, n0, q2⟩, q0⟩
  | 2 => cases hq; exact ⟨fun n z => ⟨fun k h => (by cases h), d0, r03, e0, r04⟩, d0, e0, r03, r04, r01, r05⟩
  | 3 => cases hq; exact ⟨fun n z => ⟨fun k h => (by cases h), d1, r13, e1, r14⟩, d1, e1, r13, r14, r11, r15⟩
  | 4 => cases hq; exact ⟨fun n z => ⟨fun k h => (by cases h), d2, r23, e2, r24⟩, d2, e2, r23, r24, r21, r25⟩
  | 5 => cases hq; exact ⟨fun n z => ⟨fun k h => (by cases h), d3, r33, e3, r34⟩, d3, e3, r33, r34, r31, r35⟩
  | k + 6 => simp [aw_tys] at hq
theorem ex_N {s : State} {args : Array Value} (hts : ∀ w ∈ lw_tbl, w.before args s = true) : aw_N s := ⟨List.forall_mem_cons.mpr ⟨va_Nw.of rfl (hts _ (List.mem_of_getElem? (i := 464) (by decide +kernel))), List.forall_mem_cons.mpr ⟨va_Nw.of rfl (hts _ (List.mem_of_getElem? (i := 481) (by decide +kernel))), List.forall_mem_cons.mpr ⟨va_Nw.of rfl (hts _ (List.mem_of_getElem? (i := 503) (by decide +kernel))), List.forall_mem_cons.mpr ⟨va_Nw.of rfl (hts _ (List.mem_of_getElem? (i := 540) (by decide +kernel))), List.forall_mem_cons.mpr ⟨va_Nw.of rfl (hts _ (List.mem_of_getElem? (i := 660) (by decide +kernel))), List.forall_mem_cons.mpr ⟨va_Nw.of rfl (hts _ (List.mem_of_getElem? (i := 823) (by decide +kernel))), List.forall_mem_cons.mpr ⟨va_Nw.of rfl (hts _ (List.mem_of_getElem? (i := 825) (by decide +kernel))), List.forall_mem_cons.mpr ⟨va_Nw.of rfl (hts _ (List.mem_of_getElem? (i := 865) (by decide +kernel))), fun _ h => absurd h List.not_mem_nil⟩⟩⟩⟩⟩⟩⟩⟩, List.forall_mem_cons.mpr ⟨va_Nw.of rfl (hts _ (List.mem_of_getElem? (i := 712) (by decide +kernel))), List.forall_mem_cons.mpr ⟨va_Nw.of rfl (hts _ (List.mem_of_getElem? (i := 863) (by decide +kernel))), fun _ h => absurd h List.not_mem_nil⟩⟩⟩
theorem ex_B {s : State} {args : Array Value} (hts : ∀ w ∈ lw_tbl, w.before args s = true) : ∀ q ∈ bw_nm, va_Nw (.methodLinkNest q.1 q.2.1 q.2.2.1 q.2.2.2) s := List.forall_mem_cons.mpr ⟨va_Nw.of rfl (hts _ (List.mem_of_getElem? (i := 99) (by decide +kernel))), List.forall_mem_cons.mpr ⟨va_Nw.of rfl (hts _ (List.mem_of_getElem? (i := 137) (by decide +kernel))), List.forall_mem_cons.mpr ⟨va_Nw.of rfl (hts _ (List.mem_of_getElem? (i := 172) (by decide +kernel))), List.forall_mem_cons.mpr ⟨va_Nw.of rfl (hts _ (List.mem_of_getElem? (i := 230) (by decide +kernel))), List.forall_mem_cons.mpr ⟨va_Nw.of rfl (hts _ (List.mem_of_getElem? (i := 290) (by decide +kernel))), List.forall_mem_cons.mpr ⟨va_Nw.of rfl (hts _ (List.mem_of_getElem? (i := 319) (by decide +kernel))), List.forall_mem_cons.mpr ⟨va_Nw.of rfl (hts _ (List.mem_of_getElem? (i := 344) (by decide +kernel))), fun _ h => absurd h List.not_mem_nil⟩⟩⟩⟩⟩⟩⟩
theorem ex_A {s : State} {args : Array Value} (hts : ∀ w ∈ lw_tbl, w.before args s = true) : ∀ C ∈ bw_ao, va_AO C s := List.forall_mem_cons.mpr ⟨va_AO.of (hts _ (List.mem_of_getElem? (i := 133) (by decide +kernel))), List.forall_mem_cons.mpr ⟨va_AO.of (hts _ (List.mem_of_getElem? (i := 135) (by decide +kernel))), List.forall_mem_cons.mpr ⟨va_AO.of (hts _ (List.mem_of_getElem? (i := 232) (by decide +kernel))), List.forall_mem_cons.mpr ⟨va_AO.of (hts _ (List.mem_of_getElem? (i := 342) (by decide +kernel))), fun _ h => absurd h List.not_mem_nil⟩⟩⟩⟩
def ex_tm (i : Nat) : Term := if i = 0 then .string "LoopsBelow" 164 else .string "LoopsBelow" 166
theorem ex_2 {P : Nat → Prop} (h0 : P 0) (h1 : P 1) : ∀ i : Nat, i < 2 → P i := fun i hi => by
  rcases (show i = 0 ∨ i = 1 by omega) with rfl | rfl
  · exact h0
  · exact h1
set_option maxRecDepth 100000 in
set_option maxHeartbeats 4000000 in
theorem ex_E {s : State} {args : Array Value} (hts : ∀ w ∈ lw_tbl, w.before args s = true) (hgv : (Jvm.Cond.and given_1 narrow_1).before args s = true) : ∃ x : Nat → Nat, aw_E x (fun q => s.heap.size ≤ q) s s.heap ∧ aw_T x s ∧ bw_N (x 900) s := by
  have hs := flat_of_before _ hgv
  have hA : ∀ a : Nat, a < s.heap.size → ¬ (fun q => s.heap.size ≤ q) a := fun a h => Nat.not_le.mpr h
  obtain ⟨t0, ht0, hT0⟩ := va_Tof (tm := .static "LoopsBelow" "DEED_SECONDS" "[I") (ty := .int) (N := 7) (f := fun j => .int (aw_t0.getD j 0)) (A := fun q => s.heap.size ≤ q) (by decide) (hs _ (by decide +kernel)) (va_eqt (hs _ (by decide +kernel))) (fun j hj => va_eqt (by rcases (show j = 0 ∨ j = 1 ∨ j = 2 ∨ j = 3 ∨ j = 4 ∨ j = 5 ∨ j = 6 by omega) with rfl | rfl | rfl | rfl | rfl | rfl | rfl <;> exact hs _ (by decide +kernel))) hA
  obtain ⟨t1, ht1, hT1⟩ := va_Tof (tm := .static "LoopsBelow" "BODIES" "[I") (ty := .int) (N := 28) (f := fun j => .int (aw_t1.getD j 0)) (A := fun q => s.heap.size ≤ q) (by decide) (hs _ (by decide +kernel)) (va_eqt (hs _ (by decide +kernel))) (fun j hj => va_eqt (by rcases (show j = 0 ∨ j = 1 ∨ j = 2 ∨ j = 3 ∨ j = 4 ∨ j = 5 ∨ j = 6 ∨ j = 7 ∨ j = 8 ∨ j = 9 ∨ j = 10 ∨ j = 11 ∨ j = 12 ∨ j = 13 ∨ j = 14 ∨ j = 15 ∨ j = 16 ∨ j = 17 ∨ j = 18 ∨ j = 19 ∨ j = 20 ∨ j = 21 ∨ j = 22 ∨ j = 23 ∨ j = 24 ∨ j = 25 ∨ j = 26 ∨ j = 27 by omega) with rfl | rfl | rfl | rfl | rfl | rfl | rfl | rfl | rfl | rfl | rfl | rfl | rfl | rfl | rfl | rfl | rfl | rfl | rfl | rfl | rfl | rfl | rfl | rfl | rfl | rfl | rfl | rfl <;> exact hs _ (by decide +kernel))) hA
  obtain ⟨adK, adV, hK, hKe⟩ := vk_Sof (N := 2) (tm := ex_tm) (len := [3, 3]) (byt := aw_tx) (A := fun q => s.heap.size ≤ q) (ex_2 (by decide) (by decide)) (ex_2 (hs _ (by decide +kernel)) (hs _ (by decide +kernel))) (ex_2 (hs _ (by decide +kernel)) (hs _ (by decide +kernel))) (ex_2 (hs _ (by decide +kernel)) (hs _ (by decide +kernel))) (ex_2 (hs _ (by decide +kernel)) (hs _ (by decide +kernel)))
    (ex_2 (fun j hj => by
      have hj : j < 3 := hj
      rcases (show j = 0 ∨ j = 1 ∨ j = 2 by omega) with rfl | rfl | rfl <;> exact hs _ (by decide +kernel)) (fun j hj => by
      have hj : j < 3 := hj
      rcases (show j = 0 ∨ j = 1 ∨ j = 2 by omega) with rfl | rfl | rfl <;> exact hs _ (by decide +kernel)))
    (fun i j hi hj hij => by
      rcases (show (i = 0 ∧ j = 1) ∨ (i = 1 ∧ j = 0) by omega) with ⟨rfl, rfl⟩ | ⟨rfl, rfl⟩
      · exact Or.inl (hs _ (by decide +kernel))
      · exact Or.inr (hs _ (by decide +kernel))) hA
  have e18 : (Term.string "LoopsBelow$TextReader" 18).eval args s none [] s = some (.ref (adK 0)) := by
    have h1 : (Cond.eq (.string "LoopsBelow$TextReader" 18) (.string "LoopsBelow" 164)).before args s = true := hs _ (by decide +kernel)
    have h2 : (Term.string "LoopsBelow" 164).eval args s none [] s = some (.ref (adK 0)) := hKe 0 (by decide)
    cases hv : (Term.string "LoopsBelow$TextReader" 18).eval args s none [] s with
    | none => simp [Cond.before, Cond.holds, Cond.value, hv] at h1
    | some w =>
      simp only [Cond.before, Cond.holds, Cond.value, hv, h2] at h1
      cases w <;> simp_all
  have hxK : ∀ i, i < 2 → (fun k : Nat => if k = 910 then t0 else if k = 911 then t1 else if k < 904 then adK (k - 900) else adV (k - 904)) (900 + i) = adK i := ex_2 rfl rfl
  have hxV : ∀ i, i < 2 → (fun k : Nat => if k = 910 then t0 else if k = 911 then t1 else if k < 904 then adK (k - 900) else adV (k - 904)) (904 + i) = adV i := ex_2 rfl rfl
  refine ⟨fun k : Nat => if k = 910 then t0 else if k = 911 then t1 else if k < 904 then adK (k - 900) else adV (k - 904), ⟨⟨va_Zof (hts _ (List.mem_of_getElem? (i := 703) (by decide +kernel))) (hts _ (List.mem_of_getElem? (i := 64) (by decide +kernel))) ht0 hA, hT0⟩, ⟨va_Zof (hts _ (List.mem_of_getElem? (i := 864) (by decide +kernel))) (hts _ (List.mem_of_getElem? (i := 64) (by decide +kernel))) ht1 hA, hT1⟩, va_Zof (hts _ (List.mem_of_getElem? (i := 574) (by decide +kernel))) (hts _ (List.mem_of_getElem? (i := 77) (by decide +kernel))) (va_eqi (hs _ (by decide +kernel))) hA, ⟨fun i hi => ?_, fun i j hi hj e => ?_⟩⟩, ⟨vk_R.of (hts _ (List.mem_of_getElem? (i := 533) (by decide +kernel))) (hKe 0 (by decide)), vk_R.of (hts _ (List.mem_of_getElem? (i := 534) (by decide +kernel))) (hKe 1 (by decide))⟩, ex_B hts, ex_A hts, vk_R.of (hts _ (List.mem_of_getElem? (i := 294) (by decide +kernel))) e18⟩
  · have h1 := hK.1 i hi
    rw [← hxK i hi, ← hxV i hi] at h1
    exact h1
  · exact hK.2 i j hi hj (by rw [← hxK i hi, ← hxK j hj]; exact e)
