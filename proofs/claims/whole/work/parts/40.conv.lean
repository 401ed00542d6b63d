def gc_M0 : aw_M := fun o => match o with
  | 1 => fun j => match j with
    | 9 => 1
    | _ => 0
  | 2 => fun j => match j with
    | 9 => 1
    | _ => 0
  | 3 => fun j => match j with
    | 1 => 4
    | 5 => 3
    | _ => 0
  | 4 => fun j => match j with
    | 1 => 4
    | 5 => 3
    | _ => 0
  | 5 => fun j => match j with
    | 1 => 4
    | 5 => 3
    | _ => 0
  | _ => fun _ => 0
def gm_M0 : aw_M := fun o => match o with
  | 1 => upd (upd (upd (upd (upd (fun _ => 0) 1 1) 8 4) 12 3) 5 (-1)) 6 (-1)
  | _ => fun _ => 0
def gc_ad (x : Nat → Nat) (h0 : Nat) (q : Nat → Nat) : Nat → Nat := fun k => if k < 68 then ([h0, (q 0), (q 18), (q 1), (q 19), (q 36), (q 2), (q 20), (q 3), (q 21), (q 4), (q 22), (q 5), (q 23), (q 6), (q 7), (q 8), (q 9), (q 10), (q 11), (q 24), (q 25), (q 26), (q 27), (q 28), (q 29), (q 12), (q 15), (q 30), (q 33), (q 13), (q 16), (q 31), (q 34), (q 14), (q 17), (q 32), (q 35), (q 37), (q 38), (q 40), (q 42), (q 44), (q 46), (q 48), (q 39), (q 41), (q 43), (q 45), (q 47), (q 49), (q 50), (q 51), (q 52), (q 53), (q 54), (q 55), (q 56), (q 57), (q 58), (q 60), (q 62), (q 64), (q 59), (q 61), (q 63), (q 65), (q 66)] : List Nat).getD k 0 else x k
def gm_ad (x : Nat → Nat) (h0 : Nat) (q : Nat → Nat) : Nat → Nat := fun k => if k < 12 then ([h0, (q 0), (q 1), (q 2), (q 3), (q 4), (q 5), (q 6), (q 7), (q 8), (q 9), (q 10)] : List Nat).getD k 0 else x k
theorem bw_arrV {cI : ClassId} {N : Nat} {f g : Nat → Value} (h : ∀ j, j < N → f j = g j) : arrV cI N f = arrV cI N g := by
  have e : (Array.ofFn (n := N) fun j => f j.val) = Array.ofFn (n := N) fun j => g j.val := congrArg Array.ofFn (funext fun j => h j.val j.isLt)
  show ({ cls := cI, slots := (Array.ofFn (n := N) fun j => f j.val), vm := .none } : Cell) = ({ cls := cI, slots := (Array.ofFn (n := N) fun j => g j.val), vm := .none } : Cell)
  rw [e]
theorem bw_ref {D : va_G} {cl : List vw_C} {H : Heap} {a : Nat} {cA : ClassId} {n : Nat} {f g : Nat → Option Nat} (h : ∀ j, j < n → f j = g j) (h1 : va_at D cl (a, .inl (cA, n, .inr (.inr (.inr (.inr f))))) H) : va_at D cl (a, .inl (cA, n, .inr (.inr (.inr (.inr g))))) H := by
  have h2 : H[a]? = some (vp_cell cA (n, .inr (.inr (.inr (.inr f))))) := h1
  show H[a]? = some (vp_cell cA (n, .inr (.inr (.inr (.inr g)))))
  rw [h2]
  exact congrArg some (show arrV cA n (fun j => va_rf (f j)) = arrV cA n (fun j => va_rf (g j)) from bw_arrV fun j hj => by rw [h j hj])
theorem bw_perm {A : Nat → Prop} {D : va_G} {cy : Nat → ClassId} {ad : Nat → Nat} {G : List aw_D} {M : aw_M} {H : Heap} {ws : va_W} (ps : List Nat) (hlen : ps.length = G.length) (hnd : va_nd ps = true) (hat : ∀ (k p : Nat) (q : aw_D), ps[k]? = some p → G[k]? = some q → ∃ e, ws[p]? = some (ad k, e) ∧ (va_at D vwCl (ad k, e) H → va_at D vwCl (ad k, aw_cell cy ad q (M k)) H)) (hP : va_P D vwCl ws H) (hD : va_D A ws) : va_P D vwCl (aw_W cy ad G M) H ∧ va_D A (aw_W cy ad G M) := by
  have key : ∀ (k : Nat) (c : Nat × va_E), (aw_W cy ad G M)[k]? = some c → ∃ (q : aw_D) (p : Nat), G[k]? = some q ∧ ps[k]? = some p ∧ c = (ad k, aw_cell cy ad q (M k)) := by
    intro k c hk
    rw [aw_W, List.getElem?_mapIdx] at hk
    cases hg : G[k]? with
    | none => rw [hg] at hk; cases hk
    | some q =>
      rw [hg] at hk
      have hl : k < ps.length := by rw [hlen]; exact (List.getElem?_eq_some_iff.mp hg).1
      exact ⟨q, ps[k], rfl, List.getElem?_eq_getElem hl, (Option.some.inj hk).symm⟩
  refine ⟨fun k c hk => ?_, fun i j c c' hi hj e => ?_, fun k c hk => ?_⟩
  · obtain ⟨q, p, h1, h2, rfl⟩ := key k c hk
    obtain ⟨e, h3, h4⟩ := hat k p q h2 h1
    exact h4 (hP p _ h3)
  · obtain ⟨q, p, h1, h2, rfl⟩ := key i c hi
    obtain ⟨q', p', h1', h2', rfl⟩ := key j c' hj
    obtain ⟨e1, h3, -⟩ := hat i p q h2 h1
    obtain ⟨e2, h3', -⟩ := hat j p' q' h2' h1'
    have hpp := hD.1 p p' _ _ h3 h3' e
    subst hpp
    exact va_nd_inj ps hnd i j p h2 h2'
  · obtain ⟨q, p, h1, h2, rfl⟩ := key k c hk
    obtain ⟨e, h3, -⟩ := hat k p q h2 h1
    exact hD.2 p (ad k, e) h3
theorem gc_0k {cy : Nat → ClassId} {ad : Nat → Nat} {f : Nat → Int32} : aw_cell cy ad (0, 9, [3, 4, 0, 7, 40, 53, 54, 55, 58, 60, 69]) f = .inr (9, [.ref (ad 1), .ref (ad 2), .int (f 2), .ref (ad 5), .ref (ad 38), .ref (ad 51), .ref (ad 52), .ref (ad 53), .ref (ad 56), .ref (ad 58), .ref (ad 67)]) := by simp [aw_cell, aw_fv, List.mapIdx_cons]
theorem gc_1k {cy : Nat → ClassId} {ad : Nat → Nat} {f : Nat → Int32} : aw_cell cy ad (0, 7, [5, 8, 10, 12, 14, 0, 0, 0, 0, 0]) f = .inr (7, [.ref (ad 3), .ref (ad 6), .ref (ad 8), .ref (ad 10), .ref (ad 12), .int (f 5), .int (f 6), .int (f 7), .int (f 8), .int (f 9)]) := by simp [aw_cell, aw_fv, List.mapIdx_cons]
theorem gc_2k {cy : Nat → ClassId} {ad : Nat → Nat} {f : Nat → Int32} : aw_cell cy ad (0, 7, [6, 9, 11, 13, 15, 0, 0, 0, 0, 0]) f = .inr (7, [.ref (ad 4), .ref (ad 7), .ref (ad 9), .ref (ad 11), .ref (ad 13), .int (f 5), .int (f 6), .int (f 7), .int (f 8), .int (f 9)]) := by simp [aw_cell, aw_fv, List.mapIdx_cons]
theorem gc_3k {cy : Nat → ClassId} {ad : Nat → Nat} {f : Nat → Int32} : aw_cell cy ad (0, 4, [0, 0, 0, 0, 0, 0]) f = .inr (4, [.int (f 0), .int (f 1), .int (f 2), .int (f 3), .int (f 4), .int (f 5)]) := by simp [aw_cell, aw_fv, List.mapIdx_cons]
theorem gc_4k {cy : Nat → ClassId} {ad : Nat → Nat} {f : Nat → Int32} : aw_cell cy ad (0, 4, [0, 0, 0, 0, 0, 0]) f = .inr (4, [.int (f 0), .int (f 1), .int (f 2), .int (f 3), .int (f 4), .int (f 5)]) := by simp [aw_cell, aw_fv, List.mapIdx_cons]
theorem gc_5k {cy : Nat → ClassId} {ad : Nat → Nat} {f : Nat → Int32} : aw_cell cy ad (0, 4, [0, 0, 0, 0, 0, 0]) f = .inr (4, [.int (f 0), .int (f 1), .int (f 2), .int (f 3), .int (f 4), .int (f 5)]) := by simp [aw_cell, aw_fv, List.mapIdx_cons]
theorem gc_52k {cy : Nat → ClassId} {ad : Nat → Nat} {f : Nat → Int32} : aw_cell cy ad (0, 5, [40, 7, 0, 0, 0, 0, 0]) f = .inr (5, [.ref (ad 38), .ref (ad 5), .int (f 2), .int (f 3), .int (f 4), .int (f 5), .int (f 6)]) := by simp [aw_cell, aw_fv, List.mapIdx_cons]
theorem gc_53k {cy : Nat → ClassId} {ad : Nat → Nat} {f : Nat → Int32} : aw_cell cy ad (0, 8, [56, 57, 0, 0, 0, 1]) f = .inr (8, [.ref (ad 54), .ref (ad 55), .int (f 2), .int (f 3), .int (f 4), .ref (ad (900 + (f 5).toNatClampNeg))]) := by simp [aw_cell, aw_fv, List.mapIdx_cons]
theorem gm_0k {cy : Nat → ClassId} {ad : Nat → Nat} {f : Nat → Int32} : aw_cell cy ad (0, 10, [3, 4, 5, 6, 0, 0, 7, 0, 0, 0, 0, 0, 0, 0, 0, 8, 9, 10, 11, 12, 0, 0, 13, 0, 0, 0, 0]) f = .inr (10, [.ref (ad 1), .ref (ad 2), .ref (ad 3), .ref (ad 4), .int (f 4), .int (f 5), .ref (ad 5), .int (f 7), .int (f 8), .int (f 9), .int (f 10), .int (f 11), .int (f 12), .int (f 13), .int (f 14), .ref (ad 6), .ref (ad 7), .ref (ad 8), .ref (ad 9), .ref (ad 10), .int (f 20), .int (f 21), .ref (ad 11), .int (f 23), .int (f 24), .int (f 25), .int (f 26)]) := by simp [aw_cell, aw_fv, List.mapIdx_cons]
set_option maxRecDepth 100000 in
set_option maxHeartbeats 4000000 in
theorem cv_c {A : Nat → Prop} {D : va_G} {cy : Nat → ClassId} {x : Nat → Nat} {h0 : Nat} {q : Nat → Nat} {H : Heap} (hP : va_P D vwCl (wf_X9 cy (x 900) h0 q) H) (hD : va_D A (wf_X9 cy (x 900) h0 q)) : va_P D vwCl (aw_W cy (gc_ad x h0 q) gc_G gc_M0) H ∧ va_D A (aw_W cy (gc_ad x h0 q) gc_G gc_M0) := by
  refine bw_perm [0, 1, 19, 2, 20, 37, 3, 21, 4, 22, 5, 23, 6, 24, 7, 8, 9, 10, 11, 12, 25, 26, 27, 28, 29, 30, 13, 16, 31, 34, 14, 17, 32, 35, 15, 18, 33, 36, 38, 39, 41, 43, 45, 47, 49, 40, 42, 44, 46, 48, 50, 51, 52, 53, 54, 55, 56, 57, 58, 59, 61, 63, 65, 60, 62, 64, 66, 67] rfl (by decide) (fun k p q0 hp hq => ?_) hP hD
  exact match k, hp, hq with
    | 0, hp, hq => by cases hp; obtain rfl := Option.some.inj (hq.symm.trans gc_0); exact ⟨_, rfl, fun h => by rw [gc_0k]; exact h⟩
    | 1, hp, hq => by cases hp; obtain rfl := Option.some.inj (hq.symm.trans gc_1); exact ⟨_, rfl, fun h => by rw [gc_1k]; exact h⟩
    | 2, hp, hq => by cases hp; obtain rfl := Option.some.inj (hq.symm.trans gc_2); exact ⟨_, rfl, fun h => by rw [gc_2k]; exact h⟩
    | 3, hp, hq => by cases hp; obtain rfl := Option.some.inj (hq.symm.trans gc_3); exact ⟨_, rfl, fun h => by rw [gc_3k]; exact h⟩
    | 4, hp, hq => by cases hp; obtain rfl := Option.some.inj (hq.symm.trans gc_4); exact ⟨_, rfl, fun h => by rw [gc_4k]; exact h⟩
    | 5, hp, hq => by cases hp; obtain rfl := Option.some.inj (hq.symm.trans gc_5); exact ⟨_, rfl, fun h => by rw [gc_5k]; exact h⟩
    | 6, hp, hq => by cases hp; obtain rfl := Option.some.inj (hq.symm.trans gc_6); exact ⟨_, rfl, fun h => bw_ref (fun j hj => by have hj : j < 6 := hj; rcases (show j = 0 ∨ j = 1 ∨ j = 2 ∨ j = 3 ∨ j = 4 ∨ j = 5 by omega) with rfl | rfl | rfl | rfl | rfl | rfl <;> rfl) h⟩
    | 7, hp, hq => by cases hp; obtain rfl := Option.some.inj (hq.symm.trans gc_7); exact ⟨_, rfl, fun h => bw_ref (fun j hj => by have hj : j < 6 := hj; rcases (show j = 0 ∨ j = 1 ∨ j = 2 ∨ j = 3 ∨ j = 4 ∨ j = 5 by omega) with rfl | rfl | rfl | rfl | rfl | rfl <;> rfl) h⟩
    | 8, hp, hq => by cases hp; obtain rfl := Option.some.inj (hq.symm.trans gc_8); exact ⟨_, rfl, fun h => bw_ref (fun j hj => by have hj : j < 2 := hj; rcases (show j = 0 ∨ j = 1 by omega) with rfl | rfl <;> rfl) h⟩
    | 9, hp, hq => by cases hp; obtain rfl := Option.some.inj (hq.symm.trans gc_9); exact ⟨_, rfl, fun h => bw_ref (fun j hj => by have hj : j < 2 := hj; rcases (show j = 0 ∨ j = 1 by omega) with rfl | rfl <;> rfl) h⟩
    | 10, hp, hq => by cases hp; obtain rfl := Option.some.inj (hq.symm.trans gc_10); exact ⟨_, rfl, fun h => h⟩
    | 11, hp, hq => by cases hp; obtain rfl := Option.some.inj (hq.symm.trans gc_11); exact ⟨_, rfl, fun h => h⟩
    | 12, hp, hq => by cases hp; obtain rfl := Option.some.inj (hq.symm.trans gc_12); exact ⟨_, rfl, fun h => h⟩
    | 13, hp, hq => by cases hp; obtain rfl := Option.some.inj (hq.symm.trans gc_13); exact ⟨_, rfl, fun h => h⟩
    | 14, hp, hq => by cases hp; obtain rfl := Option.some.inj (hq.symm.trans gc_14); exact ⟨_, rfl, fun h => h⟩
    | 15, hp, hq => by cases hp; obtain rfl := Option.some.inj (hq.symm.trans gc_15); exact ⟨_, rfl, fun h => h⟩
    | 16, hp, hq => by cases hp; obtain rfl := Option.some.inj (hq.symm.trans gc_16); exact ⟨_, rfl, fun h => h⟩
    | 17, hp, hq => by cases hp; obtain rfl := Option.some.inj (hq.symm.trans gc_17); exact ⟨_, rfl, fun h => h⟩
    | 18, hp, hq => by cases hp; obtain rfl := Option.some.inj (hq.symm.trans gc_18); exact ⟨_, rfl, fun h => h⟩
    | 19, hp, hq => by cases hp; obtain rfl := Option.some.inj (hq.symm.trans gc_19); exact ⟨_, rfl, fun h => h⟩
    | 20, hp, hq => by cases hp; obtain rfl := Option.some.inj (hq.symm.trans gc_20); exact ⟨_, rfl, fun h => h⟩
    | 21, hp, hq => by cases hp; obtain rfl := Option.some.inj (hq.symm.trans gc_21); exact ⟨_, rfl, fun h => h⟩
    | 22, hp, hq => by cases hp; obtain rfl := Option.some.inj (hq.symm.trans gc_22); exact ⟨_, rfl, fun h => h⟩
    | 23, hp, hq => by cases hp; obtain rfl := Option.some.inj (hq.symm.trans gc_23); exact ⟨_, rfl, fun h => h⟩
    | 24, hp, hq => by cases hp; obtain rfl := Option.some.inj (hq.symm.trans gc_24); exact ⟨_, rfl, fun h => h⟩
    | 25, hp, hq => by cases hp; obtain rfl := Option.some.inj (hq.symm.trans gc_25); exact ⟨_, rfl, fun h => h⟩
    | 26, hp, hq => by cases hp; obtain rfl := Option.some.inj (hq.symm.trans gc_26); exact ⟨_, rfl, fun h => h⟩
    | 27, hp, hq => by cases hp; obtain rfl := Option.some.inj (hq.symm.trans gc_27); exact ⟨_, rfl, fun h => h⟩
    | 28, hp, hq => by cases hp; obtain rfl := Option.some.inj (hq.symm.trans gc_28); exact ⟨_, rfl, fun h => h⟩
    | 29, hp, hq => by cases hp; obtain rfl := Option.some.inj (hq.symm.trans gc_29); exact ⟨_, rfl, fun h => h⟩
    | 30, hp, hq => by cases hp; obtain rfl := Option.some.inj (hq.symm.trans gc_30); exact ⟨_, rfl, fun h => h⟩
    | 31, hp, hq => by cases hp; obtain rfl := Option.some.inj (hq.symm.trans gc_31); exact ⟨_, rfl, fun h => h⟩
    | 32, hp, hq => by cases hp; obtain rfl := Option.some.inj (hq.symm.trans gc_32); exact ⟨_, rfl, fun h => h⟩
    | 33, hp, hq => by cases hp; obtain rfl := Option.some.inj (hq.symm.trans gc_33); exact ⟨_, rfl, fun h => h⟩
    | 34, hp, hq => by cases hp; obtain rfl := Option.some.inj (hq.symm.trans gc_34); exact ⟨_, rfl, fun h => h⟩
    | 35, hp, hq => by cases hp; obtain rfl := Option.some.inj (hq.symm.trans gc_35); exact ⟨_, rfl, fun h => h⟩
    | 36, hp, hq => by cases hp; obtain rfl := Option.some.inj (hq.symm.trans gc_36); exact ⟨_, rfl, fun h => h⟩
    | 37, hp, hq => by cases hp; obtain rfl := Option.some.inj (hq.symm.trans gc_37); exact ⟨_, rfl, fun h => h⟩
    | 38, hp, hq => by cases hp; obtain rfl := Option.some.inj (hq.symm.trans gc_38); exact ⟨_, rfl, fun h => bw_ref (fun j hj => by have hj : j < 6 := hj; rcases (show j = 0 ∨ j = 1 ∨ j = 2 ∨ j = 3 ∨ j = 4 ∨ j = 5 by omega) with rfl | rfl | rfl | rfl | rfl | rfl <;> rfl) h⟩
    | 39, hp, hq => by cases hp; obtain rfl := Option.some.inj (hq.symm.trans gc_39); exact ⟨_, rfl, fun h => h⟩
    | 40, hp, hq => by cases hp; obtain rfl := Option.some.inj (hq.symm.trans gc_40); exact ⟨_, rfl, fun h => h⟩
    | 41, hp, hq => by cases hp; obtain rfl := Option.some.inj (hq.symm.trans gc_41); exact ⟨_, rfl, fun h => h⟩
    | 42, hp, hq => by cases hp; obtain rfl := Option.some.inj (hq.symm.trans gc_42); exact ⟨_, rfl, fun h => h⟩
    | 43, hp, hq => by cases hp; obtain rfl := Option.some.inj (hq.symm.trans gc_43); exact ⟨_, rfl, fun h => h⟩
    | 44, hp, hq => by cases hp; obtain rfl := Option.some.inj (hq.symm.trans gc_44); exact ⟨_, rfl, fun h => h⟩
    | 45, hp, hq => by cases hp; obtain rfl := Option.some.inj (hq.symm.trans gc_45); exact ⟨_, rfl, fun h => h⟩
    | 46, hp, hq => by cases hp; obtain rfl := Option.some.inj (hq.symm.trans gc_46); exact ⟨_, rfl, fun h => h⟩
    | 47, hp, hq => by cases hp; obtain rfl := Option.some.inj (hq.symm.trans gc_47); exact ⟨_, rfl, fun h => h⟩
    | 48, hp, hq => by cases hp; obtain rfl := Option.some.inj (hq.symm.trans gc_48); exact ⟨_, rfl, fun h => h⟩
    | 49, hp, hq => by cases hp; obtain rfl := Option.some.inj (hq.symm.trans gc_49); exact ⟨_, rfl, fun h => h⟩
    | 50, hp, hq => by cases hp; obtain rfl := Option.some.inj (hq.symm.trans gc_50); exact ⟨_, rfl, fun h => h⟩
    | 51, hp, hq => by cases hp; obtain rfl := Option.some.inj (hq.symm.trans gc_51); exact ⟨_, rfl, fun h => h⟩
    | 52, hp, hq => by cases hp; obtain rfl := Option.some.inj (hq.symm.trans gc_52); exact ⟨_, rfl, fun h => by rw [gc_52k]; exact h⟩
    | 53, hp, hq => by cases hp; obtain rfl := Option.some.inj (hq.symm.trans gc_53); exact ⟨_, rfl, fun h => by rw [gc_53k]; exact h⟩
    | 54, hp, hq => by cases hp; obtain rfl := Option.some.inj (hq.symm.trans gc_54); exact ⟨_, rfl, fun h => h⟩
    | 55, hp, hq => by cases hp; obtain rfl := Option.some.inj (hq.symm.trans gc_55); exact ⟨_, rfl, fun h => h⟩
    | 56, hp, hq => by cases hp; obtain rfl := Option.some.inj (hq.symm.trans gc_56); exact ⟨_, rfl, fun h => h⟩
    | 57, hp, hq => by cases hp; obtain rfl := Option.some.inj (hq.symm.trans gc_57); exact ⟨_, rfl, fun h => h⟩
    | 58, hp, hq => by cases hp; obtain rfl := Option.some.inj (hq.symm.trans gc_58); exact ⟨_, rfl, fun h => bw_ref (fun j hj => by have hj : j < 4 := hj; rcases (show j = 0 ∨ j = 1 ∨ j = 2 ∨ j = 3 by omega) with rfl | rfl | rfl | rfl <;> rfl) h⟩
    | 59, hp, hq => by cases hp; obtain rfl := Option.some.inj (hq.symm.trans gc_59); exact ⟨_, rfl, fun h => h⟩
    | 60, hp, hq => by cases hp; obtain rfl := Option.some.inj (hq.symm.trans gc_60); exact ⟨_, rfl, fun h => h⟩
    | 61, hp, hq => by cases hp; obtain rfl := Option.some.inj (hq.symm.trans gc_61); exact ⟨_, rfl, fun h => h⟩
    | 62, hp, hq => by cases hp; obtain rfl := Option.some.inj (hq.symm.trans gc_62); exact ⟨_, rfl, fun h => h⟩
    | 63, hp, hq => by cases hp; obtain rfl := Option.some.inj (hq.symm.trans gc_63); exact ⟨_, rfl, fun h => h⟩
    | 64, hp, hq => by cases hp; obtain rfl := Option.some.inj (hq.symm.trans gc_64); exact ⟨_, rfl, fun h => h⟩
    | 65, hp, hq => by cases hp; obtain rfl := Option.some.inj (hq.symm.trans gc_65); exact ⟨_, rfl, fun h => h⟩
    | 66, hp, hq => by cases hp; obtain rfl := Option.some.inj (hq.symm.trans gc_66); exact ⟨_, rfl, fun h => h⟩
    | 67, hp, hq => by cases hp; obtain rfl := Option.some.inj (hq.symm.trans gc_67); exact ⟨_, rfl, fun h => h⟩
    | k + 68, hp, _ => by simp at hp
set_option maxRecDepth 100000 in
set_option maxHeartbeats 4000000 in
theorem cv_m {A : Nat → Prop} {D : va_G} {cy : Nat → ClassId} {tx : Nat} {x : Nat → Nat} {h0 : Nat} {q : Nat → Nat} {H : Heap} (hP : va_P D vwCl (wf_X10 cy tx h0 q) H) (hD : va_D A (wf_X10 cy tx h0 q)) : va_P D vwCl (aw_W cy (gm_ad x h0 q) gm_G gm_M0) H ∧ va_D A (aw_W cy (gm_ad x h0 q) gm_G gm_M0) := by
  refine bw_perm [0, 1, 2, 3, 4, 5, 6, 7, 8, 9, 10, 11] rfl (by decide) (fun k p q0 hp hq => ?_) hP hD
  exact match k, hp, hq with
    | 0, hp, hq => by cases hp; obtain rfl := Option.some.inj (hq.symm.trans gm_0); exact ⟨_, rfl, fun h => by rw [gm_0k]; exact h⟩
    | 1, hp, hq => by cases hp; obtain rfl := Option.some.inj (hq.symm.trans gm_1); exact ⟨_, rfl, fun h => h⟩
    | 2, hp, hq => by cases hp; obtain rfl := Option.some.inj (hq.symm.trans gm_2); exact ⟨_, rfl, fun h => h⟩
    | 3, hp, hq => by cases hp; obtain rfl := Option.some.inj (hq.symm.trans gm_3); exact ⟨_, rfl, fun h => h⟩
    | 4, hp, hq => by cases hp; obtain rfl := Option.some.inj (hq.symm.trans gm_4); exact ⟨_, rfl, fun h => h⟩
    | 5, hp, hq => by cases hp; obtain rfl := Option.some.inj (hq.symm.trans gm_5); exact ⟨_, rfl, fun h => h⟩
    | 6, hp, hq => by cases hp; obtain rfl := Option.some.inj (hq.symm.trans gm_6); exact ⟨_, rfl, fun h => h⟩
    | 7, hp, hq => by cases hp; obtain rfl := Option.some.inj (hq.symm.trans gm_7); exact ⟨_, rfl, fun h => h⟩
    | 8, hp, hq => by cases hp; obtain rfl := Option.some.inj (hq.symm.trans gm_8); exact ⟨_, rfl, fun h => h⟩
    | 9, hp, hq => by cases hp; obtain rfl := Option.some.inj (hq.symm.trans gm_9); exact ⟨_, rfl, fun h => h⟩
    | 10, hp, hq => by cases hp; obtain rfl := Option.some.inj (hq.symm.trans gm_10); exact ⟨_, rfl, fun h => h⟩
    | 11, hp, hq => by cases hp; obtain rfl := Option.some.inj (hq.symm.trans gm_11); exact ⟨_, rfl, fun h => h⟩
    | k + 12, hp, _ => by simp at hp
