theorem ic_m1 : Int32.ofInt (-1) = (-1) := by decide
theorem ic_0 : Int32.ofInt (0) = 0 := by decide
theorem ic_1 : Int32.ofInt (1) = 1 := by decide
theorem ic_2 : Int32.ofInt (2) = 2 := by decide
theorem ic_3 : Int32.ofInt (3) = 3 := by decide
theorem ic_4 : Int32.ofInt (4) = 4 := by decide
theorem ic_5 : Int32.ofInt (5) = 5 := by decide
theorem bi_m33 : (Int8.ofInt (-33)).toInt32 = (-33) := by decide
theorem bi_m10 : (Int8.ofInt (-10)).toInt32 = (-10) := by decide
theorem bi_m9 : (Int8.ofInt (-9)).toInt32 = (-9) := by decide
theorem bi_m3 : (Int8.ofInt (-3)).toInt32 = (-3) := by decide
theorem bi_m2 : (Int8.ofInt (-2)).toInt32 = (-2) := by decide
theorem bi_6 : (Int8.ofInt (6)).toInt32 = 6 := by decide
theorem bi_7 : (Int8.ofInt (7)).toInt32 = 7 := by decide
theorem bi_8 : (Int8.ofInt (8)).toInt32 = 8 := by decide
theorem bi_9 : (Int8.ofInt (9)).toInt32 = 9 := by decide
theorem bi_10 : (Int8.ofInt (10)).toInt32 = 10 := by decide
theorem bi_11 : (Int8.ofInt (11)).toInt32 = 11 := by decide
theorem bi_12 : (Int8.ofInt (12)).toInt32 = 12 := by decide
theorem bi_13 : (Int8.ofInt (13)).toInt32 = 13 := by decide
theorem bi_16 : (Int8.ofInt (16)).toInt32 = 16 := by decide
theorem bi_19 : (Int8.ofInt (19)).toInt32 = 19 := by decide
theorem bi_20 : (Int8.ofInt (20)).toInt32 = 20 := by decide
theorem bi_30 : (Int8.ofInt (30)).toInt32 = 30 := by decide
theorem bi_32 : (Int8.ofInt (32)).toInt32 = 32 := by decide
theorem bi_33 : (Int8.ofInt (33)).toInt32 = 33 := by decide
theorem bi_36 : (Int8.ofInt (36)).toInt32 = 36 := by decide
theorem bi_37 : (Int8.ofInt (37)).toInt32 = 37 := by decide
theorem bi_38 : (Int8.ofInt (38)).toInt32 = 38 := by decide
theorem bi_40 : (Int8.ofInt (40)).toInt32 = 40 := by decide
theorem bi_41 : (Int8.ofInt (41)).toInt32 = 41 := by decide
theorem bi_42 : (Int8.ofInt (42)).toInt32 = 42 := by decide
theorem bi_43 : (Int8.ofInt (43)).toInt32 = 43 := by decide
theorem bi_44 : (Int8.ofInt (44)).toInt32 = 44 := by decide
theorem bi_45 : (Int8.ofInt (45)).toInt32 = 45 := by decide
theorem bi_47 : (Int8.ofInt (47)).toInt32 = 47 := by decide
theorem bi_48 : (Int8.ofInt (48)).toInt32 = 48 := by decide
theorem bi_50 : (Int8.ofInt (50)).toInt32 = 50 := by decide
theorem bi_57 : (Int8.ofInt (57)).toInt32 = 57 := by decide
theorem bi_60 : (Int8.ofInt (60)).toInt32 = 60 := by decide
theorem bi_61 : (Int8.ofInt (61)).toInt32 = 61 := by decide
theorem bi_62 : (Int8.ofInt (62)).toInt32 = 62 := by decide
theorem bi_69 : (Int8.ofInt (69)).toInt32 = 69 := by decide
theorem bi_70 : (Int8.ofInt (70)).toInt32 = 70 := by decide
theorem bi_71 : (Int8.ofInt (71)).toInt32 = 71 := by decide
theorem bi_93 : (Int8.ofInt (93)).toInt32 = 93 := by decide
theorem bi_99 : (Int8.ofInt (99)).toInt32 = 99 := by decide
theorem bi_100 : (Int8.ofInt (100)).toInt32 = 100 := by decide
theorem bi_107 : (Int8.ofInt (107)).toInt32 = 107 := by decide
theorem bi_108 : (Int8.ofInt (108)).toInt32 = 108 := by decide
theorem bi_109 : (Int8.ofInt (109)).toInt32 = 109 := by decide
theorem bi_113 : (Int8.ofInt (113)).toInt32 = 113 := by decide
theorem bi_116 : (Int8.ofInt (116)).toInt32 = 116 := by decide
theorem bi_124 : (Int8.ofInt (124)).toInt32 = 124 := by decide
theorem si_200 : (Int16.ofInt (200)).toInt32 = 200 := by decide
theorem si_213 : (Int16.ofInt (213)).toInt32 = 213 := by decide
theorem si_216 : (Int16.ofInt (216)).toInt32 = 216 := by decide
theorem si_255 : (Int16.ofInt (255)).toInt32 = 255 := by decide
theorem si_300 : (Int16.ofInt (300)).toInt32 = 300 := by decide
theorem si_599 : (Int16.ofInt (599)).toInt32 = 599 := by decide
theorem si_600 : (Int16.ofInt (600)).toInt32 = 600 := by decide
theorem si_601 : (Int16.ofInt (601)).toInt32 = 601 := by decide
theorem si_800 : (Int16.ofInt (800)).toInt32 = 800 := by decide
theorem si_1000 : (Int16.ofInt (1000)).toInt32 = 1000 := by decide
theorem si_1296 : (Int16.ofInt (1296)).toInt32 = 1296 := by decide
theorem si_9999 : (Int16.ofInt (9999)).toInt32 = 9999 := by decide
theorem si_12345 : (Int16.ofInt (12345)).toInt32 = 12345 := by decide
theorem tn_0 : (0 : Int32).toNatClampNeg = 0 := by decide
theorem tn_1 : (1 : Int32).toNatClampNeg = 1 := by decide
theorem tn_2 : (2 : Int32).toNatClampNeg = 2 := by decide
theorem tn_3 : (3 : Int32).toNatClampNeg = 3 := by decide
theorem tn_4 : (4 : Int32).toNatClampNeg = 4 := by decide
theorem tn_7 : (7 : Int32).toNatClampNeg = 7 := by decide
theorem tn_8 : (8 : Int32).toNatClampNeg = 8 := by decide
theorem tn_9 : (9 : Int32).toNatClampNeg = 9 := by decide
theorem tn_10 : (10 : Int32).toNatClampNeg = 10 := by decide
theorem tn_11 : (11 : Int32).toNatClampNeg = 11 := by decide
theorem tn_12 : (12 : Int32).toNatClampNeg = 12 := by decide
theorem cw_J0_505 : aw_V RJ0 505 RJ0 yJ0_length_8abf5 cJ0_length_8abf5 1 (some .int) 0 := ⟨tb_in (i := 575) (by decide +kernel) rfl, tb_in (i := 576) (by decide +kernel) rfl, tb_in (i := 577) (by decide +kernel) rfl, tb_in (i := 77) (by decide +kernel) rfl, tb_in (i := 578) (by decide +kernel) rfl, by decide +kernel, by decide⟩
theorem cw_J0_335 : aw_V RJ0 335 RJ0 yJ0_coder_7d493 cJ0_coder_7d493 1 (some .byte) 0 := ⟨tb_in (i := 579) (by decide +kernel) rfl, tb_in (i := 580) (by decide +kernel) rfl, tb_in (i := 581) (by decide +kernel) rfl, tb_in (i := 77) (by decide +kernel) rfl, tb_in (i := 582) (by decide +kernel) rfl, by decide +kernel, by decide⟩
section JSS
variable {l : Launch} {D : va_G} {cy : Nat → ClassId} {ad : Nat → Nat} {A : Nat → Prop} {G : List aw_D} {own : String} {cc : ByteArray} {nL : Nat} {ret : Option FieldType} {d : Nat} {v : Option Value} {M1 : aw_M} {pc : Nat} {lv : List (Nat × Value)} {st : List Value} {M : aw_M}
theorem aw_by {x : Int32} (h : ¬ ¬ (x = 0 ∨ x = 1)) : narrow .byte (.int x) = .int x := by
  rcases Classical.not_not.mp h with rfl | rfl <;> decide +kernel
theorem aw_sT {i : Nat} {s : State} {H : Heap} (h : vk_S 2 [3, 3] aw_tx (fun i => ad (900 + i)) (fun i => ad (904 + i)) A s H) (hi : i < 2) : va_T .byte (ad (904 + i)) 3 (fun j => .int ((aw_tx.getD i []).getD j 0)) A s H := by
  have h1 := (h.1 i hi).2.2.2
  have e : ([3, 3] : List Nat).getD i 0 = 3 := by rcases (show i = 0 ∨ i = 1 by omega) with rfl | rfl <;> rfl
  rw [e] at h1
  exact h1
theorem x_tget9 {w : Int32} (hd : decode cc pc = .ok (.getfield 9, 3)) (hi : w.toNatClampNeg < 2) (k : AW l D cy ad A G RJ0 cc nL ret d v M1 (pc + 3) lv (.ref (ad (904 + w.toNatClampNeg)) :: st) M) : AW l D cy ad A G RJ0 cc nL ret d v M1 pc lv (.ref (ad (900 + w.toNatClampNeg)) :: st) M := fun p e s m args below meth c H locs ls C hP hS hl => vk_getf C.1 C.2.1 (C.2.2.2.2.2.2.2.1.2.2.2.1 _ hi).2.2.1 hS C.2.2.2.1 (C.2.2.2.2.1 _ (tb_in (i := 1372) (by decide +kernel) rfl)) (fun _ h => h) hd (k p e s m args below meth c H locs ls C hP hS hl)
theorem x_tget15 {w : Int32} (hd : decode cc pc = .ok (.getfield 15, 3)) (hi : w.toNatClampNeg < 2) (k : AW l D cy ad A G RJ0 cc nL ret d v M1 (pc + 3) lv (.int 0 :: st) M) : AW l D cy ad A G RJ0 cc nL ret d v M1 pc lv (.ref (ad (900 + w.toNatClampNeg)) :: st) M := fun p e s m args below meth c H locs ls C hP hS hl => vk_getf C.1 C.2.1 (C.2.2.2.2.2.2.2.1.2.2.2.1 _ hi).2.1 hS C.2.2.2.1 (C.2.2.2.2.1 _ (tb_in (i := 1371) (by decide +kernel) rfl)) (fun _ h => h) hd (k p e s m args below meth c H locs ls C hP hS hl)
theorem x_tbld {w i : Int32} (hd : decode cc pc = .ok (.baload, 1)) (hi : w.toNatClampNeg < 2) (hin : ¬ aw_in i 3) (k : AW l D cy ad A G own cc nL ret d v M1 (pc + 1) lv (.int ((aw_tx.getD w.toNatClampNeg []).getD i.toNatClampNeg 0) :: st) M) : AW l D cy ad A G own cc nL ret d v M1 pc lv (.int i :: .ref (ad (904 + w.toNatClampNeg)) :: st) M := fun p e s m args below meth c H locs ls C hP hS hl => va_tb C.1 C.2.1 (aw_sT C.2.2.2.2.2.2.2.1.2.2.2 hi) hS hin rfl hd (k p e s m args below meth c H locs ls C hP hS hl)
theorem x_tlen {w : Int32} (hd : decode cc pc = .ok (.arraylength, 1)) (hi : w.toNatClampNeg < 2) (k : AW l D cy ad A G own cc nL ret d v M1 (pc + 1) lv (.int 3 :: st) M) : AW l D cy ad A G own cc nL ret d v M1 pc lv (.ref (ad (904 + w.toNatClampNeg)) :: st) M := fun p e s m args below meth c H locs ls C hP hS hl => va_tlen C.1 C.2.1 (aw_sT C.2.2.2.2.2.2.2.1.2.2.2 hi) hS rfl hd (k p e s m args below meth c H locs ls C hP hS hl)
theorem x_gsC (hd : decode cc pc = .ok (.getstatic 38, 3)) (k : AW l D cy ad A G RJ0 cc nL ret d v M1 (pc + 3) lv (.int 1 :: st) M) : AW l D cy ad A G RJ0 cc nL ret d v M1 pc lv st M := fun p e s m args below meth c H locs ls C hP hS hl => va_gets C.1 C.2.1 C.2.2.2.2.2.2.2.1.2.2.1 hS C.2.2.2.1 (C.2.2.2.2.1 _ (tb_in (i := 573) (by decide +kernel) rfl)) (fun _ h => h) hd (k p e s m args below meth c H locs ls C hP hS hl)
theorem x_bret {x : Int32} (hn : narrow .byte (.int x) = .int x) (hd : decode cc pc = .ok (.ireturn, 1)) : AW l D cy ad A G own cc nL (some .byte) d (some (.int x)) M pc lv [.int x] M := fun p e s m args below meth c H locs ls C hP hS hl => W.zret C.1 C.2.1 C.2.2.2.2.2.2.2.2.2.1 hn (fun t ht _ => ⟨⟨rfl, by rw [ht]; exact hP⟩, hS.F ht⟩) hS.2.2 hd (hlocks := C.2.2.2.2.2.2.2.2.2.2)
theorem x_callT {idx n d' maxL : Nat} {p0 : Int32} {y : MethodName} {bytes : ByteArray} {ret' : Option FieldType} {As rest st' : List Value} {w : Option Value} {M2 : aw_M} (hd : decode cc pc = .ok (.invokevirtual idx, 3)) (hw : aw_V own idx RJ0 y bytes maxL ret' n) (hdd : d' + 1 ≤ d) (hi : p0.toNatClampNeg < 2) (hn : As.length = n) (hst : st = As.reverse ++ .ref (ad (900 + p0.toNatClampNeg)) :: rest) (hr : (rest.map fun v => v.category).sum ≤ 8) (hM : AX l D cy ad A G y bytes maxL ret' d' (.ref (ad (900 + p0.toNatClampNeg)) :: As) M w M2) (hk : w.toList ++ rest = st') (k : AW l D cy ad A G own cc nL ret d v M1 (pc + 3) lv st' M2) : AW l D cy ad A G own cc nL ret d v M1 pc lv st M := by
  subst hst; subst hk
  obtain ⟨h1, h2, h3, h4, h5, h6, h7⟩ := hw
  intro p e s m args below meth c H locs ls C hP hS hl
  refine aw_go (va_runV (C := RJ0) (b := ad (900 + p0.toNatClampNeg)) (As := As) (rest := rest) (ws := aw_ws y bytes maxL ret') (rm := aw_R d') ⟨C.1, C.2.1, C.2.2.1, C.2.2.2.1, C.2.2.2.2.1⟩ hM (cwV n C.2.2.2.2.1 (aw_gc (fun w hw => by rcases (by simpa using hw : w = _ ∨ w = _ ∨ w = _ ∨ w = _) with rfl | rfl | rfl | rfl <;> assumption) h5) rfl rfl rfl h6 (aw_rm hdd h7)) ⟨aw_blind, vk_recv (i := p0.toNatClampNeg) C.2.2.2.2.2.2.2.1.2.2.2 hi hS, aw_pre C.2.2.2.2.2.1 C.2.2.2.2.2.2.1 C.2.2.2.2.2.2.2.1 C.2.2.2.2.2.2.2.2.1.1 C.2.2.2.2.2.2.2.2.1.2 hP hS⟩ rfl hn hl.1 rfl (lv_room hr) hd ⟨Nat.le_refl _, Nat.le_refl _⟩) hS (fun H1 locs1 hP1 hS1 => k p e s m args below meth c H1 locs1 ls C hP1 hS1 hl)
end JSS
