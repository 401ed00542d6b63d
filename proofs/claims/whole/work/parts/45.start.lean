theorem cv_ca {cy : Nat → ClassId} {x : Nat → Nat} {h0 : Nat} {q : Nat → Nat} : ∀ i : Nat, i < 68 → ∃ (p : Nat) (e : va_E), (wf_X9 cy (x 900) h0 q)[p]? = some (gc_ad x h0 q i, e) := fun i hi => match i, hi with
  | 0, _ => ⟨0, _, rfl⟩
  | 1, _ => ⟨1, _, rfl⟩
  | 2, _ => ⟨19, _, rfl⟩
  | 3, _ => ⟨2, _, rfl⟩
  | 4, _ => ⟨20, _, rfl⟩
  | 5, _ => ⟨37, _, rfl⟩
  | 6, _ => ⟨3, _, rfl⟩
  | 7, _ => ⟨21, _, rfl⟩
  | 8, _ => ⟨4, _, rfl⟩
  | 9, _ => ⟨22, _, rfl⟩
  | 10, _ => ⟨5, _, rfl⟩
  | 11, _ => ⟨23, _, rfl⟩
  | 12, _ => ⟨6, _, rfl⟩
  | 13, _ => ⟨24, _, rfl⟩
  | 14, _ => ⟨7, _, rfl⟩
  | 15, _ => ⟨8, _, rfl⟩
  | 16, _ => ⟨9, _, rfl⟩
  | 17, _ => ⟨10, _, rfl⟩
  | 18, _ => ⟨11, _, rfl⟩
  | 19, _ => ⟨12, _, rfl⟩
  | 20, _ => ⟨25, _, rfl⟩
  | 21, _ => ⟨26, _, rfl⟩
  | 22, _ => ⟨27, _, rfl⟩
  | 23, _ => ⟨28, _, rfl⟩
  | 24, _ => ⟨29, _, rfl⟩
  | 25, _ => ⟨30, _, rfl⟩
  | 26, _ => ⟨13, _, rfl⟩
  | 27, _ => ⟨16, _, rfl⟩
  | 28, _ => ⟨31, _, rfl⟩
  | 29, _ => ⟨34, _, rfl⟩
  | 30, _ => ⟨14, _, rfl⟩
  | 31, _ => ⟨17, _, rfl⟩
  | 32, _ => ⟨32, _, rfl⟩
  | 33, _ => ⟨35, _, rfl⟩
  | 34, _ => ⟨15, _, rfl⟩
  | 35, _ => ⟨18, _, rfl⟩
  | 36, _ => ⟨33, _, rfl⟩
  | 37, _ => ⟨36, _, rfl⟩
  | 38, _ => ⟨38, _, rfl⟩
  | 39, _ => ⟨39, _, rfl⟩
  | 40, _ => ⟨41, _, rfl⟩
  | 41, _ => ⟨43, _, rfl⟩
  | 42, _ => ⟨45, _, rfl⟩
  | 43, _ => ⟨47, _, rfl⟩
  | 44, _ => ⟨49, _, rfl⟩
  | 45, _ => ⟨40, _, rfl⟩
  | 46, _ => ⟨42, _, rfl⟩
  | 47, _ => ⟨44, _, rfl⟩
  | 48, _ => ⟨46, _, rfl⟩
  | 49, _ => ⟨48, _, rfl⟩
  | 50, _ => ⟨50, _, rfl⟩
  | 51, _ => ⟨51, _, rfl⟩
  | 52, _ => ⟨52, _, rfl⟩
  | 53, _ => ⟨53, _, rfl⟩
  | 54, _ => ⟨54, _, rfl⟩
  | 55, _ => ⟨55, _, rfl⟩
  | 56, _ => ⟨56, _, rfl⟩
  | 57, _ => ⟨57, _, rfl⟩
  | 58, _ => ⟨58, _, rfl⟩
  | 59, _ => ⟨59, _, rfl⟩
  | 60, _ => ⟨61, _, rfl⟩
  | 61, _ => ⟨63, _, rfl⟩
  | 62, _ => ⟨65, _, rfl⟩
  | 63, _ => ⟨60, _, rfl⟩
  | 64, _ => ⟨62, _, rfl⟩
  | 65, _ => ⟨64, _, rfl⟩
  | 66, _ => ⟨66, _, rfl⟩
  | 67, _ => ⟨67, _, rfl⟩
  | i + 68, h => by omega
theorem cv_ma {cy : Nat → ClassId} {tx : Nat} {x : Nat → Nat} {h0 : Nat} {q : Nat → Nat} : ∀ i : Nat, i < 12 → ∃ (p : Nat) (e : va_E), (wf_X10 cy tx h0 q)[p]? = some (gm_ad x h0 q i, e) := fun i hi => match i, hi with
  | 0, _ => ⟨0, _, rfl⟩
  | 1, _ => ⟨1, _, rfl⟩
  | 2, _ => ⟨2, _, rfl⟩
  | 3, _ => ⟨3, _, rfl⟩
  | 4, _ => ⟨4, _, rfl⟩
  | 5, _ => ⟨5, _, rfl⟩
  | 6, _ => ⟨6, _, rfl⟩
  | 7, _ => ⟨7, _, rfl⟩
  | 8, _ => ⟨8, _, rfl⟩
  | 9, _ => ⟨9, _, rfl⟩
  | 10, _ => ⟨10, _, rfl⟩
  | 11, _ => ⟨11, _, rfl⟩
  | i + 12, h => by omega
theorem aw_E.ext {ad x : Nat → Nat} {A : Nat → Prop} {U : State} {H : Heap} (h : ∀ k, 900 ≤ k → ad k = x k) (hE : aw_E x A U H) : aw_E ad A U H := by
  unfold aw_E at hE ⊢
  rw [h 910 (by omega), h 911 (by omega), show (fun i => ad (900 + i)) = fun i => x (900 + i) from funext fun i => h _ (by omega), show (fun i => ad (904 + i)) = fun i => x (904 + i) from funext fun i => h _ (by omega)]
  exact hE
theorem aw_T.ext {ad x : Nat → Nat} {U : State} (h : ∀ k, 900 ≤ k → ad k = x k) (hT : aw_T x U) : aw_T ad U := by
  unfold aw_T at hT ⊢
  rw [h 900 (by omega), h 901 (by omega)]
  exact hT
set_option maxHeartbeats 4000000 in
set_option maxRecDepth 100000 in
theorem law_start (I : Nat → aw_M → aw_M → Prop) (ho : ops I) (h0 : I 0 gc_M0 gm_M0) {p : Program} {e : Env} {s : State} {m : MethodId} {below : List Frame} {meth : Method} {c : Code} (l : Launch) {b L : Nat} {xs : Nat → Int32} (hL : L ≤ 3072) (C0 : lw_At p s m meth c b L xs) : W p l e room_1 s m #[Value.ref b] below meth c s.heap [] 0 0 (lw_Z below #[Value.ref b] s) (entryFrame m ([Value.ref b] : List Value).toArray 4) := by
  obtain ⟨hx, hb, hr, hml, hown, hts, hX, hbl, hlocks, hgv⟩ := id C0
  have htg : ∀ w ∈ tb_g, w.before #[Value.ref b] s = true := fun w hw => hts w (List.mem_filter.mp hw).1
  obtain ⟨D, cy, hK⟩ := ex_K hts
  obtain ⟨x, hE, hT, hB⟩ := ex_E hts hgv
  have hN := ex_N hts
  have hA : ∀ q : Nat, s.heap.size ≤ q → (fun q : Nat => s.heap.size ≤ q) q := fun _ h => h
  have hS : va_S (fun q : Nat => s.heap.size ≤ q) s.heap s.heap [] := va_S.rf
  have hP : va_P D vwCl [] s.heap := fun k q h => by simp at h
  have hD : va_D (fun q : Nat => s.heap.size ≤ q) [] := ⟨fun i j p q h => by simp at h, fun k q h => by simp at h⟩
  have hl := lv_entry ([.ref b]) (n := 4) (Nat.le_of_ble_eq_true rfl)
  rw [lg_entry_eq]
  generalize (lg_sl ([.ref b]) ++ List.replicate (4 - (lg_sl ([.ref b])).length) Slot.unset).toArray = ls at hl ⊢
  have hl : lv_has ls 4 [(0, .ref b)] := hl
  refine va_new (ci := 9) (fs := [.null, .null, .int 0, .null, .null, .null, .null, .null, .null, .null, .null]) (C := RX9) (T := TX9) (N := 11) hx hb htg wu_X9 tyX9 tyX9_ok hown (htg _ (tb_in (i := 83) (by decide +kernel) rfl)) (htg _ (tb_in (i := 84) (by decide +kernel) rfl)) (htg _ (tb_in (i := 64) (by decide +kernel) rfl)) hK hP hD hS hA rfl (by decide +kernel) (by decide) (by decide) dL_law_0 (fun q0 H hP hD hS => ?_)
  refine lv_dup hx hb dL_law_3 rfl ?_
  refine bw_go (l := l) (wr := []) (va_runI (As := []) (rest := [.ref q0]) ⟨hx, hb, hml, hown, htg⟩ (bc_X9 (l := l) (D := D) (cy := cy) (tx := x 900) 1000 (by decide) q0 H.size) (cwI 0 htg (aw_gd (tb_in (i := 87) (by decide +kernel) rfl)) rfl rfl rfl (htg _ (tb_in (i := 64) (by decide +kernel) rfl)) (htg _ (tb_in (i := 85) (by decide +kernel) rfl)) (htg _ (tb_in (i := 86) (by decide +kernel) rfl)) rfl (by decide +kernel) ⟨by decide, by decide⟩) ⟨bw_blind, bw_pre hK hB hP hD⟩ rfl rfl hl.1 rfl (lv_room (Nat.le_of_ble_eq_true rfl)) dL_law_4 ⟨by decide, by decide⟩) hP hD hS hA (fun u H locs hP hD hS => ?_)
  refine lv_astore_n (lv' := [(1, .ref q0), (0, .ref b)]) hx hb dL_law_7 rfl hl (by decide) rfl (fun ls hl => ?_)
  have hP : va_P D vwCl (wf_X9 cy (x 900) q0 u) H := hP
  have hD : va_D (fun q : Nat => s.heap.size ≤ q) (wf_X9 cy (x 900) q0 u) := hD
  refine va_new (ci := 10) (fs := [.null, .null, .null, .null, .int 0, .int 0, .null, .int 0, .int 0, .int 0, .int 0, .int 0, .int 0, .int 0, .int 0, .null, .null, .null, .null, .null, .int 0, .int 0, .null, .int 0, .int 0, .int 0, .int 0]) (C := RX10) (T := TX10) (N := 27) hx hb htg wu_X10 tyX10 tyX10_ok hown (htg _ (tb_in (i := 954) (by decide +kernel) rfl)) (htg _ (tb_in (i := 955) (by decide +kernel) rfl)) (htg _ (tb_in (i := 74) (by decide +kernel) rfl)) hK hP hD hS hA rfl (by decide +kernel) (by decide) (by decide) dL_law_8 (fun q1 H hP hD hS => ?_)
  refine lv_dup hx hb dL_law_11 rfl ?_
  refine bw_go (l := l) (wr := wf_X9 cy (x 900) q0 u) (va_runI (As := []) (rest := [.ref q1]) ⟨hx, hb, hml, hown, htg⟩ (bc_X10 (l := l) (D := D) (cy := cy) (tx := x 900) 1000 (by decide) q1 H.size) (cwI 0 htg (aw_gd (tb_in (i := 958) (by decide +kernel) rfl)) rfl rfl rfl (htg _ (tb_in (i := 74) (by decide +kernel) rfl)) (htg _ (tb_in (i := 956) (by decide +kernel) rfl)) (htg _ (tb_in (i := 957) (by decide +kernel) rfl)) rfl (by decide +kernel) ⟨by decide, by decide⟩) ⟨bw_blind, bw_pre hK hB hP hD⟩ rfl rfl hl.1 rfl (lv_room (Nat.le_of_ble_eq_true rfl)) dL_law_12 ⟨by decide, by decide⟩) hP hD hS hA (fun v H locs hP hD hS => ?_)
  refine lv_astore_n (lv' := [(2, .ref q1), (1, .ref q0), (0, .ref b)]) hx hb dL_law_15 rfl hl (by decide) rfl (fun ls hl => ?_)
  refine lv_iconst (v := nI 0) hx hb dL_law_16 (by decide) ?_
  refine lv_istore_n (lv' := [(3, .int (nI 0)), (2, .ref q1), (1, .ref q0), (0, .ref b)]) hx hb dL_law_17 rfl hl (by decide) rfl (fun ls hl => ?_)
  have hP1 : va_P D vwCl (wf_X9 cy (x 900) q0 u) H := fun k q hk => hP k q (by rw [List.getElem?_append_left (List.getElem?_eq_some_iff.mp hk).1]; exact hk)
  have hP2 : va_P D vwCl (wf_X10 cy (x 900) q1 v) H := fun k q hk => hP ((wf_X9 cy (x 900) q0 u).length + k) q (by rw [List.getElem?_append_right (Nat.le_add_right _ _), Nat.add_sub_cancel_left]; exact hk)
  have hD1 : va_D (fun q : Nat => s.heap.size ≤ q) (wf_X9 cy (x 900) q0 u) := ⟨fun i j p q hi hj e => hD.1 i j p q (by rw [List.getElem?_append_left (List.getElem?_eq_some_iff.mp hi).1]; exact hi) (by rw [List.getElem?_append_left (List.getElem?_eq_some_iff.mp hj).1]; exact hj) e, fun k q hk => hD.2 k q (by rw [List.getElem?_append_left (List.getElem?_eq_some_iff.mp hk).1]; exact hk)⟩
  have hD2 : va_D (fun q : Nat => s.heap.size ≤ q) (wf_X10 cy (x 900) q1 v) := ⟨fun i j p q hi hj e => Nat.add_left_cancel (hD.1 ((wf_X9 cy (x 900) q0 u).length + i) ((wf_X9 cy (x 900) q0 u).length + j) p q (by rw [List.getElem?_append_right (Nat.le_add_right _ _), Nat.add_sub_cancel_left]; exact hi) (by rw [List.getElem?_append_right (Nat.le_add_right _ _), Nat.add_sub_cancel_left]; exact hj) e), fun k q hk => hD.2 ((wf_X9 cy (x 900) q0 u).length + k) q (by rw [List.getElem?_append_right (Nat.le_add_right _ _), Nat.add_sub_cancel_left]; exact hk)⟩
  have hdis : ∀ i j, i < 68 → j < 12 → gc_ad x q0 u i ≠ gm_ad x q1 v j := by
    intro i j hi hj he
    obtain ⟨p1, e1, g1⟩ := cv_ca (cy := cy) (x := x) (h0 := q0) (q := u) i hi
    obtain ⟨p2, e2, g2⟩ := cv_ma (cy := cy) (tx := x 900) (x := x) (h0 := q1) (q := v) j hj
    have l1 := (List.getElem?_eq_some_iff.mp g1).1
    have := hD.1 p1 ((wf_X9 cy (x 900) q0 u).length + p2) _ _ (by rw [List.getElem?_append_left l1]; exact g1) (by rw [List.getElem?_append_right (Nat.le_add_right _ _), Nat.add_sub_cancel_left]; exact g2) he
    omega
  obtain ⟨hPc, hDc⟩ := cv_c hP1 hD1
  obtain ⟨hPm, hDm⟩ := cv_m (x := x) hP2 hD2
  have ac : ∀ k, 900 ≤ k → gc_ad x q0 u k = x k := fun k hk => if_neg (by omega)
  have am : ∀ k, 900 ≤ k → gm_ad x q1 v k = x k := fun k hk => if_neg (by omega)
  have hC : LC p s m meth c b L xs D cy (gc_ad x q0 u) (gm_ad x q1 v) := ⟨C0, hK, ⟨aw_D_any hDc, aw_D_any hDm, hdis⟩, ⟨hE.ext ac, hT.ext ac⟩, ⟨hE.ext am, hT.ext am⟩, hN⟩
  exact law_loop I ho hL hC (L + 1) 0 0 gc_M0 gm_M0 rfl (Nat.zero_le _) (by omega) h0 H locs ls hPc hPm hS (lv_sub hl [3, 2, 1, 0] rfl)
