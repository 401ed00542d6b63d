def op_ok (I : Nat → aw_M → aw_M → Prop) (f g : aw_M → Option (Int32 × aw_M)) : Prop := ∀ (n : Nat) (C D : aw_M), n < 600 → I n C D → ∃ (r : Int32) (C1 D1 : aw_M), f C = some (r, C1) ∧ g D = some (r, D1) ∧ I (n + 1) C1 D1
/-- what every call owes: class and reference answer alike, and the tie I holds again -/
def ops (I : Nat → aw_M → aw_M → Prop) : Prop := (∀ (a1 : Int32) (a2 : Int32), op_ok I (fc_LB_set a1 a2) (fm_set a1 a2)) ∧
  (∀ (a1 : Int32), op_ok I (fc_LB_machine a1) (fm_machine a1)) ∧
  (∀ (a1 : Int32) (a2 : Int32), op_ok I (fc_LB_cloth a1 a2) (fm_cloth a1 a2)) ∧
  (∀ (a1 : Int32) (a2 : Int32), op_ok I (fc_LB_ofCloth a1 a2) (fm_ofCloth a1 a2)) ∧
  (∀ (a1 : Int32) (a2 : Int32) (a3 : Int32), op_ok I (fc_LB_change a1 a2 a3) (fm_change a1 a2 a3)) ∧
  (∀ (a1 : Int32) (a2 : Int32), op_ok I (fc_LB_become a1 a2) (fm_become a1 a2)) ∧
  (∀ (a1 : Int32) (a2 : Int32), op_ok I (fc_LB_as a1 a2) (fm_as a1 a2)) ∧
  (∀ (a1 : Int64) (a2 : Int32), op_ok I (fc_LB_feed a1 a2) (fm_feed a1 a2)) ∧
  (∀ (a1 : Int32), op_ok I (fc_LB_text a1) (fm_text a1)) ∧
  (∀ (a1 : Int32) (a2 : Int32) (a3 : Int32) (a4 : Int32), op_ok I (fc_LB_law a1 a2 a3 a4) (fm_law a1 a2 a3 a4)) ∧
  (∀ (a1 : Int32) (a2 : Int32), op_ok I (fc_LB_sew a1 a2) (fm_sew a1 a2)) ∧
  (∀ (a1 : Int32), op_ok I (fc_LB_deed a1) (fm_deed a1)) ∧
  (∀ (a1 : Int32), op_ok I (fc_LB_loose a1) (fm_loose a1)) ∧
  (∀ (a1 : Int32) (a2 : Int32), op_ok I (fc_LB_after a1 a2) (fm_after a1 a2)) ∧
  (∀ (a1 : Int32), op_ok I (fc_LB_until a1) (fm_until a1)) ∧
  (∀ (a1 : Int32) (a2 : Int32), op_ok I (fc_LB_cure a1 a2) (fm_cure a1 a2)) ∧
  (∀ (a1 : Int32), op_ok I (fc_LB_alone a1) (fm_alone a1)) ∧
  (∀ (a1 : Int32) (a2 : Int32), op_ok I (fc_LB_canBe a1 a2) (fm_canBe a1 a2)) ∧
  (∀ (a1 : Int32), op_ok I (fc_LB_tellsMost a1) (fm_tellsMost a1)) ∧
  (∀ (a1 : Int32) (a2 : Int32) (a3 : Int32), op_ok I (fc_LB_knobWas a1 a2 a3) (fm_knobWas a1 a2 a3)) ∧
  (∀ (a1 : Int32) (a2 : Int32) (a3 : Int32), op_ok I (fc_LB_row a1 a2 a3) (fm_row a1 a2 a3)) ∧
  (∀ (a1 : Int32) (a2 : Int32), op_ok I (fc_LB_odds a1 a2) (fm_odds a1 a2)) ∧
  (∀ (a1 : Int32), op_ok I (fc_LB_seed a1) (fm_seed a1)) ∧
  (∀ (a1 : Int32) (a2 : Int32) (a3 : Int32), op_ok I (fc_LB_voice a1 a2 a3) (fm_voice a1 a2 a3)) ∧
  (∀ (a1 : Int32), op_ok I (fc_LB_trace a1) (fm_trace a1)) ∧
  (∀ (a1 : Int32) (a2 : Int32) (a3 : Int32), op_ok I (fc_LB_sheet a1 a2 a3) (fm_sheet a1 a2 a3)) ∧
  (∀ (a1 : Int32) (a2 : Int32) (a3 : Int32), op_ok I (fc_LB_put a1 a2 a3) (fm_put a1 a2 a3)) ∧
  (∀ (a1 : Int32) (a2 : Int32) (a3 : Int32) (a4 : Int32) (a5 : Int32), op_ok I (fc_LB_move a1 a2 a3 a4 a5) (fm_move a1 a2 a3 a4 a5)) ∧
  (∀ (a1 : Int32), op_ok I (fc_LB_thicks a1) (fm_thicks a1)) ∧
  (∀ (a1 : Int32), op_ok I (fc_LB_judge a1) (fm_judge a1)) ∧
  (op_ok I (fc_LB_image ) (fm_image )) ∧
  (op_ok I (fc_LB_restore ) (fm_restore )) ∧
  (∀ (a1 : Int32), op_ok I (fc_LB_tell a1) (fm_tell a1)) ∧
  (op_ok I (fc_LB_check ) (fm_check )) ∧
  (∀ (a1 : Int32), op_ok I (fc_LB_count a1) (fm_count a1)) ∧
  (∀ (a1 : Int32), op_ok I (fc_LB_told a1) (fm_told a1)) ∧
  (∀ (n : Nat) (C D : aw_M), I n C D → I (n + 1) C D)
