-- the start
theorem inv_0 : Inv 0 gc_M0 gm_M0 := by
  have z40 : Rb 0 0 40 := ⟨by decide, by decide⟩
  have z0 : Rb 0 0 (0 : Nat) := ⟨by decide, by decide⟩
  refine ⟨fun o j a b hl => ?_, ⟨fun k hk => ?_, fun k hk => ?_⟩, ⟨fun b h1 h2 h3 h4 => ?_, fun b h1 h2 h3 h4 => ?_⟩, ⟨fun s hs => ⟨Or.inl rfl, z40⟩, z40⟩, ⟨Or.inl ⟨rfl, by decide⟩, Or.inl ⟨rfl, by decide⟩⟩, ⟨z0, Or.inl rfl, ⟨fun _ => rfl, fun _ => rfl⟩⟩, fun h => absurd h (by decide)⟩
  · unfold Lk at hl
    rcases hl with ⟨rfl, rfl, hj, rfl⟩ | ⟨rfl, rfl, rfl, rfl⟩ | ⟨rfl, rfl, rfl, rfl⟩ | ⟨rfl, rfl, rfl, rfl⟩ | ⟨rfl, rfl, rfl, rfl⟩ | ⟨rfl, rfl, rfl, rfl⟩ | ⟨h1, h2, rfl, hj, rfl⟩ | ⟨rfl, rfl, hj, rfl⟩ | h | h | h | h | h | h | h | h | ⟨h1, h2, rfl, rfl, rfl⟩ | ⟨h1, h2, rfl, rfl, rfl⟩ | ⟨h1, h2, rfl, hj, rfl⟩ | ⟨rfl, rfl, h1, h2, rfl⟩ | ⟨rfl, rfl, rfl, rfl⟩ | ⟨rfl, rfl, hj, rfl⟩ | ⟨rfl, rfl, rfl, rfl⟩
    · have : ∀ j, j < 6 → gc_M0 3 j = gm_M0 1 (7 + j) := by decide
      exact this j hj
    · rfl
    · rfl
    · rfl
    · rfl
    · rfl
    · have : ∀ o, o < 20 → 14 ≤ o → ∀ j, j < 5 → gc_M0 o j = gm_M0 1 (13 + 5 * (o - 14) + j) := by decide
      exact this o h2 h1 j hj
    · have : ∀ j, j < 20 → gc_M0 12 j = gm_M0 1 (93 + j) := by decide
      exact this j hj
    · omega
    · omega
    · omega
    · omega
    · omega
    · omega
    · omega
    · omega
    · have : ∀ o, o < 63 → 59 ≤ o → gc_M0 o 1 = 0 := by decide
      exact this o h2 h1
    · have : ∀ o, o < 63 → 59 ≤ o → gc_M0 o 2 = 0 := by decide
      exact this o h2 h1
    · obtain ⟨s, rfl⟩ : ∃ s, o = 63 + s := ⟨o - 63, by omega⟩
      rcases (show s = 0 ∨ s = 1 ∨ s = 2 ∨ s = 3 by omega) with rfl | rfl | rfl | rfl <;> rfl
    · rfl
    · rfl
    · rfl
    · rfl
  · have : ∀ k, k < 50 → gm_M0 1 (43 + k) = gc_M0 10 k &&& 255 ∧ fits .byte (.int (gc_M0 10 k)) = true := by decide
    exact this k hk
  · have : ∀ k, k < 50 → gm_M0 2 (43 + k) = gc_M0 11 k &&& 255 ∧ fits .byte (.int (gc_M0 11 k)) = true := by decide
    exact this k hk
  · have : ∀ b, b < 43 → b ≠ 1 → b ≠ 5 → b ≠ 6 → (0 ≤ (gm_M0 1 b).toInt ∧ (gm_M0 1 b).toInt ≤ hiB b) := by decide +kernel
    exact this b h1 h2 h3 h4
  · have : ∀ b, b < 43 → b ≠ 1 → b ≠ 5 → b ≠ 6 → (0 ≤ (gm_M0 2 b).toInt ∧ (gm_M0 2 b).toInt ≤ hiB b) := by decide +kernel
    exact this b h1 h2 h3 h4
theorem ops_all : ops Inv :=
  ⟨eq_set, eq_machine, eq_cloth, eq_ofCloth, eq_change, eq_become, eq_as, eq_feed, eq_text, eq_law, eq_sew, eq_deed, eq_loose, eq_after, eq_until, eq_cure, eq_alone, eq_canBe, eq_tellsMost, eq_knobWas, eq_row, eq_odds, eq_seed, eq_voice, eq_trace, eq_sheet, eq_put, eq_move, eq_thicks, eq_judge, eq_image, eq_restore, eq_tell, eq_check, eq_count, eq_told, fun _ _ _ h => h.up⟩
