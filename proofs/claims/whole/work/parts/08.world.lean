def gc_G : List aw_D := [(0, 9, [3, 4, 0, 7, 40, 53, 54, 55, 58, 60, 69]), (0, 7, [5, 8, 10, 12, 14, 0, 0, 0, 0, 0]), (0, 7, [6, 9, 11, 13, 15, 0, 0, 0, 0, 0]), (0, 4, [0, 0, 0, 0, 0, 0]), (0, 4, [0, 0, 0, 0, 0, 0]), (0, 4, [0, 0, 0, 0, 0, 0]), (3, 6, [14, 15, 16, 17, 18, 19]), (3, 6, [20, 21, 22, 23, 24, 25]), (4, 2, [26, 27]), (4, 2, [28, 29]), (2, 50, []), (2, 50, []), (1, 20, []), (1, 20, []), (0, 1, [0, 0, 0, 0, 0]), (0, 1, [0, 0, 0, 0, 0]), (0, 1, [0, 0, 0, 0, 0]), (0, 1, [0, 0, 0, 0, 0]), (0, 1, [0, 0, 0, 0, 0]), (0, 1, [0, 0, 0, 0, 0]), (0, 1, [0, 0, 0, 0, 0]), (0, 1, [0, 0, 0, 0, 0]), (0, 1, [0, 0, 0, 0, 0]), (0, 1, [0, 0, 0, 0, 0]), (0, 1, [0, 0, 0, 0, 0]), (0, 1, [0, 0, 0, 0, 0]), (0, 3, [32, 36, 0]), (0, 3, [33, 37, 0]), (0, 3, [34, 38, 0]), (0, 3, [35, 39, 0]), (1, 50, []), (1, 50, []), (1, 50, []), (1, 50, []), (1, 50, []), (1, 50, []), (1, 50, []), (1, 50, []), (5, 6, [39, 40, 41, 42, 43, 44]), (0, 2, [3, 16, 47, 0, 0]), (0, 2, [3, 17, 48, 0, 0]), (0, 2, [3, 18, 49, 0, 0]), (0, 2, [3, 19, 50, 0, 0]), (0, 2, [3, 20, 51, 0, 0]), (0, 2, [3, 21, 52, 0, 0]), (1, 100, []), (1, 100, []), (1, 100, []), (1, 100, []), (1, 100, []), (1, 100, []), (1, 30, []), (0, 5, [40, 7, 0, 0, 0, 0, 0]), (0, 8, [56, 57, 0, 0, 0, 1]), (1, 50, []), (1, 50, []), (0, 0, [59, 0, 0, 0, 0]), (1, 40, []), (6, 4, [59, 60, 61, 62]), (0, 6, [65, 0, 0]), (0, 6, [66, 0, 0]), (0, 6, [67, 0, 0]), (0, 6, [68, 0, 0]), (1, 40, []), (1, 40, []), (1, 40, []), (1, 40, []), (1, 6, [])]
def gm_G : List aw_D := [(0, 10, [3, 4, 5, 6, 0, 0, 7, 0, 0, 0, 0, 0, 0, 0, 0, 8, 9, 10, 11, 12, 0, 0, 13, 0, 0, 0, 0]), (1, 213, []), (1, 213, []), (1, 213, []), (1, 213, []), (1, 6, []), (1, 4, []), (1, 4, []), (1, 160, []), (1, 40, []), (1, 30, []), (1, 40, [])]
theorem gc_0 : gc_G[0]? = some (0, 9, [3, 4, 0, 7, 40, 53, 54, 55, 58, 60, 69]) := rfl
theorem gc_1 : gc_G[1]? = some (0, 7, [5, 8, 10, 12, 14, 0, 0, 0, 0, 0]) := rfl
theorem gc_2 : gc_G[2]? = some (0, 7, [6, 9, 11, 13, 15, 0, 0, 0, 0, 0]) := rfl
theorem gc_3 : gc_G[3]? = some (0, 4, [0, 0, 0, 0, 0, 0]) := rfl
theorem gc_4 : gc_G[4]? = some (0, 4, [0, 0, 0, 0, 0, 0]) := rfl
theorem gc_5 : gc_G[5]? = some (0, 4, [0, 0, 0, 0, 0, 0]) := rfl
theorem gc_6 : gc_G[6]? = some (3, 6, [14, 15, 16, 17, 18, 19]) := rfl
theorem gc_7 : gc_G[7]? = some (3, 6, [20, 21, 22, 23, 24, 25]) := rfl
theorem gc_8 : gc_G[8]? = some (4, 2, [26, 27]) := rfl
theorem gc_9 : gc_G[9]? = some (4, 2, [28, 29]) := rfl
theorem gc_10 : gc_G[10]? = some (2, 50, []) := rfl
theorem gc_11 : gc_G[11]? = some (2, 50, []) := rfl
theorem gc_12 : gc_G[12]? = some (1, 20, []) := rfl
theorem gc_13 : gc_G[13]? = some (1, 20, []) := rfl
theorem gc_14 : gc_G[14]? = some (0, 1, [0, 0, 0, 0, 0]) := rfl
theorem gc_15 : gc_G[15]? = some (0, 1, [0, 0, 0, 0, 0]) := rfl
theorem gc_16 : gc_G[16]? = some (0, 1, [0, 0, 0, 0, 0]) := rfl
theorem gc_17 : gc_G[17]? = some (0, 1, [0, 0, 0, 0, 0]) := rfl
theorem gc_18 : gc_G[18]? = some (0, 1, [0, 0, 0, 0, 0]) := rfl
theorem gc_19 : gc_G[19]? = some (0, 1, [0, 0, 0, 0, 0]) := rfl
theorem gc_20 : gc_G[20]? = some (0, 1, [0, 0, 0, 0, 0]) := rfl
theorem gc_21 : gc_G[21]? = some (0, 1, [0, 0, 0, 0, 0]) := rfl
theorem gc_22 : gc_G[22]? = some (0, 1, [0, 0, 0, 0, 0]) := rfl
theorem gc_23 : gc_G[23]? = some (0, 1, [0, 0, 0, 0, 0]) := rfl
theorem gc_24 : gc_G[24]? = some (0, 1, [0, 0, 0, 0, 0]) := rfl
theorem gc_25 : gc_G[25]? = some (0, 1, [0, 0, 0, 0, 0]) := rfl
theorem gc_26 : gc_G[26]? = some (0, 3, [32, 36, 0]) := rfl
theorem gc_27 : gc_G[27]? = some (0, 3, [33, 37, 0]) := rfl
theorem gc_28 : gc_G[28]? = some (0, 3, [34, 38, 0]) := rfl
theorem gc_29 : gc_G[29]? = some (0, 3, [35, 39, 0]) := rfl
theorem gc_30 : gc_G[30]? = some (1, 50, []) := rfl
theorem gc_31 : gc_G[31]? = some (1, 50, []) := rfl
theorem gc_32 : gc_G[32]? = some (1, 50, []) := rfl
theorem gc_33 : gc_G[33]? = some (1, 50, []) := rfl
theorem gc_34 : gc_G[34]? = some (1, 50, []) := rfl
theorem gc_35 : gc_G[35]? = some (1, 50, []) := rfl
theorem gc_36 : gc_G[36]? = some (1, 50, []) := rfl
theorem gc_37 : gc_G[37]? = some (1, 50, []) := rfl
theorem gc_38 : gc_G[38]? = some (5, 6, [39, 40, 41, 42, 43, 44]) := rfl
theorem gc_39 : gc_G[39]? = some (0, 2, [3, 16, 47, 0, 0]) := rfl
theorem gc_40 : gc_G[40]? = some (0, 2, [3, 17, 48, 0, 0]) := rfl
theorem gc_41 : gc_G[41]? = some (0, 2, [3, 18, 49, 0, 0]) := rfl
theorem gc_42 : gc_G[42]? = some (0, 2, [3, 19, 50, 0, 0]) := rfl
theorem gc_43 : gc_G[43]? = some (0, 2, [3, 20, 51, 0, 0]) := rfl
theorem gc_44 : gc_G[44]? = some (0, 2, [3, 21, 52, 0, 0]) := rfl
theorem gc_45 : gc_G[45]? = some (1, 100, []) := rfl
theorem gc_46 : gc_G[46]? = some (1, 100, []) := rfl
theorem gc_47 : gc_G[47]? = some (1, 100, []) := rfl
theorem gc_48 : gc_G[48]? = some (1, 100, []) := rfl
theorem gc_49 : gc_G[49]? = some (1, 100, []) := rfl
theorem gc_50 : gc_G[50]? = some (1, 100, []) := rfl
theorem gc_51 : gc_G[51]? = some (1, 30, []) := rfl
theorem gc_52 : gc_G[52]? = some (0, 5, [40, 7, 0, 0, 0, 0, 0]) := rfl
theorem gc_53 : gc_G[53]? = some (0, 8, [56, 57, 0, 0, 0, 1]) := rfl
theorem gc_54 : gc_G[54]? = some (1, 50, []) := rfl
theorem gc_55 : gc_G[55]? = some (1, 50, []) := rfl
theorem gc_56 : gc_G[56]? = some (0, 0, [59, 0, 0, 0, 0]) := rfl
theorem gc_57 : gc_G[57]? = some (1, 40, []) := rfl
theorem gc_58 : gc_G[58]? = some (6, 4, [59, 60, 61, 62]) := rfl
theorem gc_59 : gc_G[59]? = some (0, 6, [65, 0, 0]) := rfl
theorem gc_60 : gc_G[60]? = some (0, 6, [66, 0, 0]) := rfl
theorem gc_61 : gc_G[61]? = some (0, 6, [67, 0, 0]) := rfl
theorem gc_62 : gc_G[62]? = some (0, 6, [68, 0, 0]) := rfl
theorem gc_63 : gc_G[63]? = some (1, 40, []) := rfl
theorem gc_64 : gc_G[64]? = some (1, 40, []) := rfl
theorem gc_65 : gc_G[65]? = some (1, 40, []) := rfl
theorem gc_66 : gc_G[66]? = some (1, 40, []) := rfl
theorem gc_67 : gc_G[67]? = some (1, 6, []) := rfl
theorem gm_0 : gm_G[0]? = some (0, 10, [3, 4, 5, 6, 0, 0, 7, 0, 0, 0, 0, 0, 0, 0, 0, 8, 9, 10, 11, 12, 0, 0, 13, 0, 0, 0, 0]) := rfl
theorem gm_1 : gm_G[1]? = some (1, 213, []) := rfl
theorem gm_2 : gm_G[2]? = some (1, 213, []) := rfl
theorem gm_3 : gm_G[3]? = some (1, 213, []) := rfl
theorem gm_4 : gm_G[4]? = some (1, 213, []) := rfl
theorem gm_5 : gm_G[5]? = some (1, 6, []) := rfl
theorem gm_6 : gm_G[6]? = some (1, 4, []) := rfl
theorem gm_7 : gm_G[7]? = some (1, 4, []) := rfl
theorem gm_8 : gm_G[8]? = some (1, 160, []) := rfl
theorem gm_9 : gm_G[9]? = some (1, 40, []) := rfl
theorem gm_10 : gm_G[10]? = some (1, 30, []) := rfl
theorem gm_11 : gm_G[11]? = some (1, 40, []) := rfl
theorem gc_mach {i : Nat} (h : i < 3) : gc_G[3 + i]? = some (0, 4, [0, 0, 0, 0, 0, 0]) := (show ∀ i, i < 3 → gc_G[3 + i]? = some (0, 4, [0, 0, 0, 0, 0, 0]) by decide +kernel) i h
theorem gc_cloth {i : Nat} (h : i < 12) : gc_G[14 + i]? = some (0, 1, [0, 0, 0, 0, 0]) := (show ∀ i, i < 12 → gc_G[14 + i]? = some (0, 1, [0, 0, 0, 0, 0]) by decide +kernel) i h
theorem gc_law {i : Nat} (h : i < 4) : gc_G[26 + i]? = some (0, 3, [30 + i + 2, 34 + i + 2, 0]) := (show ∀ i, i < 4 → gc_G[26 + i]? = some (0, 3, [30 + i + 2, 34 + i + 2, 0]) by decide +kernel) i h
theorem gc_lsteps {i : Nat} (h : i < 4) : gc_G[30 + i]? = some (1, 50, []) := (show ∀ i, i < 4 → gc_G[30 + i]? = some (1, 50, []) by decide +kernel) i h
theorem gc_lstack {i : Nat} (h : i < 4) : gc_G[34 + i]? = some (1, 50, []) := (show ∀ i, i < 4 → gc_G[34 + i]? = some (1, 50, []) by decide +kernel) i h
theorem gc_gauge {i : Nat} (h : i < 6) : gc_G[39 + i]? = some (0, 2, [1 + 2, 14 + i + 2, 45 + i + 2, 0, 0]) := (show ∀ i, i < 6 → gc_G[39 + i]? = some (0, 2, [1 + 2, 14 + i + 2, 45 + i + 2, 0, 0]) by decide +kernel) i h
theorem gc_limits {i : Nat} (h : i < 6) : gc_G[45 + i]? = some (1, 100, []) := (show ∀ i, i < 6 → gc_G[45 + i]? = some (1, 100, []) by decide +kernel) i h
theorem gc_sheet {i : Nat} (h : i < 4) : gc_G[59 + i]? = some (0, 6, [63 + i + 2, 0, 0]) := (show ∀ i, i < 4 → gc_G[59 + i]? = some (0, 6, [63 + i + 2, 0, 0]) by decide +kernel) i h
theorem gc_nums {i : Nat} (h : i < 4) : gc_G[63 + i]? = some (1, 40, []) := (show ∀ i, i < 4 → gc_G[63 + i]? = some (1, 40, []) by decide +kernel) i h
theorem ga_6 {i : Nat} (h : i < 6) : ([14, 15, 16, 17, 18, 19] : List Nat)[i]? = some (14 + i) := (show ∀ i, i < 6 → ([14, 15, 16, 17, 18, 19] : List Nat)[i]? = some (14 + i) by decide +kernel) i h
theorem ga_7 {i : Nat} (h : i < 6) : ([20, 21, 22, 23, 24, 25] : List Nat)[i]? = some (14 + (6 + i)) := (show ∀ i, i < 6 → ([20, 21, 22, 23, 24, 25] : List Nat)[i]? = some (14 + (6 + i)) by decide +kernel) i h
theorem ga_8 {i : Nat} (h : i < 2) : ([26, 27] : List Nat)[i]? = some (26 + i) := (show ∀ i, i < 2 → ([26, 27] : List Nat)[i]? = some (26 + i) by decide +kernel) i h
theorem ga_9 {i : Nat} (h : i < 2) : ([28, 29] : List Nat)[i]? = some (26 + (2 + i)) := (show ∀ i, i < 2 → ([28, 29] : List Nat)[i]? = some (26 + (2 + i)) by decide +kernel) i h
theorem ga_38 {i : Nat} (h : i < 6) : ([39, 40, 41, 42, 43, 44] : List Nat)[i]? = some (39 + i) := (show ∀ i, i < 6 → ([39, 40, 41, 42, 43, 44] : List Nat)[i]? = some (39 + i) by decide +kernel) i h
theorem ga_58 {i : Nat} (h : i < 4) : ([59, 60, 61, 62] : List Nat)[i]? = some (59 + i) := (show ∀ i, i < 4 → ([59, 60, 61, 62] : List Nat)[i]? = some (59 + i) by decide +kernel) i h
theorem wu_X0 : ∀ w ∈ u_ws RX0 TX0 5, w ∈ tb_g := by
  intro w hw
  obtain ⟨k, hk, rfl⟩ := List.mem_map.mp hw
  have hk := List.mem_range.mp hk
  match k, hk with
  | 0, _ => exact tb_in (i := 330) (by decide +kernel) (by decide +kernel)
  | 1, _ => exact tb_in (i := 332) (by decide +kernel) (by decide +kernel)
  | 2, _ => exact tb_in (i := 334) (by decide +kernel) (by decide +kernel)
  | 3, _ => exact tb_in (i := 336) (by decide +kernel) (by decide +kernel)
  | 4, _ => exact tb_in (i := 338) (by decide +kernel) (by decide +kernel)
  | k + 5, h => omega
theorem wu_X1 : ∀ w ∈ u_ws RX1 TX1 5, w ∈ tb_g := by
  intro w hw
  obtain ⟨k, hk, rfl⟩ := List.mem_map.mp hw
  have hk := List.mem_range.mp hk
  match k, hk with
  | 0, _ => exact tb_in (i := 158) (by decide +kernel) (by decide +kernel)
  | 1, _ => exact tb_in (i := 160) (by decide +kernel) (by decide +kernel)
  | 2, _ => exact tb_in (i := 162) (by decide +kernel) (by decide +kernel)
  | 3, _ => exact tb_in (i := 164) (by decide +kernel) (by decide +kernel)
  | 4, _ => exact tb_in (i := 166) (by decide +kernel) (by decide +kernel)
  | k + 5, h => omega
theorem wu_X2 : ∀ w ∈ u_ws RX2 TX2 5, w ∈ tb_g := by
  intro w hw
  obtain ⟨k, hk, rfl⟩ := List.mem_map.mp hw
  have hk := List.mem_range.mp hk
  match k, hk with
  | 0, _ => exact tb_in (i := 247) (by decide +kernel) (by decide +kernel)
  | 1, _ => exact tb_in (i := 249) (by decide +kernel) (by decide +kernel)
  | 2, _ => exact tb_in (i := 251) (by decide +kernel) (by decide +kernel)
  | 3, _ => exact tb_in (i := 253) (by decide +kernel) (by decide +kernel)
  | 4, _ => exact tb_in (i := 255) (by decide +kernel) (by decide +kernel)
  | k + 5, h => omega
theorem wu_X3 : ∀ w ∈ u_ws RX3 TX3 3, w ∈ tb_g := by
  intro w hw
  obtain ⟨k, hk, rfl⟩ := List.mem_map.mp hw
  have hk := List.mem_range.mp hk
  match k, hk with
  | 0, _ => exact tb_in (i := 181) (by decide +kernel) (by decide +kernel)
  | 1, _ => exact tb_in (i := 183) (by decide +kernel) (by decide +kernel)
  | 2, _ => exact tb_in (i := 185) (by decide +kernel) (by decide +kernel)
  | k + 3, h => omega
theorem wu_X4 : ∀ w ∈ u_ws RX4 TX4 6, w ∈ tb_g := by
  intro w hw
  obtain ⟨k, hk, rfl⟩ := List.mem_map.mp hw
  have hk := List.mem_range.mp hk
  match k, hk with
  | 0, _ => exact tb_in (i := 119) (by decide +kernel) (by decide +kernel)
  | 1, _ => exact tb_in (i := 121) (by decide +kernel) (by decide +kernel)
  | 2, _ => exact tb_in (i := 123) (by decide +kernel) (by decide +kernel)
  | 3, _ => exact tb_in (i := 125) (by decide +kernel) (by decide +kernel)
  | 4, _ => exact tb_in (i := 127) (by decide +kernel) (by decide +kernel)
  | 5, _ => exact tb_in (i := 129) (by decide +kernel) (by decide +kernel)
  | k + 6, h => omega
theorem wu_X5 : ∀ w ∈ u_ws RX5 TX5 7, w ∈ tb_g := by
  intro w hw
  obtain ⟨k, hk, rfl⟩ := List.mem_map.mp hw
  have hk := List.mem_range.mp hk
  match k, hk with
  | 0, _ => exact tb_in (i := 273) (by decide +kernel) (by decide +kernel)
  | 1, _ => exact tb_in (i := 275) (by decide +kernel) (by decide +kernel)
  | 2, _ => exact tb_in (i := 277) (by decide +kernel) (by decide +kernel)
  | 3, _ => exact tb_in (i := 279) (by decide +kernel) (by decide +kernel)
  | 4, _ => exact tb_in (i := 281) (by decide +kernel) (by decide +kernel)
  | 5, _ => exact tb_in (i := 283) (by decide +kernel) (by decide +kernel)
  | 6, _ => exact tb_in (i := 285) (by decide +kernel) (by decide +kernel)
  | k + 7, h => omega
theorem wu_X6 : ∀ w ∈ u_ws RX6 TX6 3, w ∈ tb_g := by
  intro w hw
  obtain ⟨k, hk, rfl⟩ := List.mem_map.mp hw
  have hk := List.mem_range.mp hk
  match k, hk with
  | 0, _ => exact tb_in (i := 354) (by decide +kernel) (by decide +kernel)
  | 1, _ => exact tb_in (i := 356) (by decide +kernel) (by decide +kernel)
  | 2, _ => exact tb_in (i := 358) (by decide +kernel) (by decide +kernel)
  | k + 3, h => omega
theorem wu_X7 : ∀ w ∈ u_ws RX7 TX7 10, w ∈ tb_g := by
  intro w hw
  obtain ⟨k, hk, rfl⟩ := List.mem_map.mp hw
  have hk := List.mem_range.mp hk
  match k, hk with
  | 0, _ => exact tb_in (i := 208) (by decide +kernel) (by decide +kernel)
  | 1, _ => exact tb_in (i := 210) (by decide +kernel) (by decide +kernel)
  | 2, _ => exact tb_in (i := 212) (by decide +kernel) (by decide +kernel)
  | 3, _ => exact tb_in (i := 214) (by decide +kernel) (by decide +kernel)
  | 4, _ => exact tb_in (i := 216) (by decide +kernel) (by decide +kernel)
  | 5, _ => exact tb_in (i := 218) (by decide +kernel) (by decide +kernel)
  | 6, _ => exact tb_in (i := 220) (by decide +kernel) (by decide +kernel)
  | 7, _ => exact tb_in (i := 222) (by decide +kernel) (by decide +kernel)
  | 8, _ => exact tb_in (i := 224) (by decide +kernel) (by decide +kernel)
  | 9, _ => exact tb_in (i := 226) (by decide +kernel) (by decide +kernel)
  | k + 10, h => omega
theorem wu_X8 : ∀ w ∈ u_ws RX8 TX8 6, w ∈ tb_g := by
  intro w hw
  obtain ⟨k, hk, rfl⟩ := List.mem_map.mp hw
  have hk := List.mem_range.mp hk
  match k, hk with
  | 0, _ => exact tb_in (i := 304) (by decide +kernel) (by decide +kernel)
  | 1, _ => exact tb_in (i := 306) (by decide +kernel) (by decide +kernel)
  | 2, _ => exact tb_in (i := 308) (by decide +kernel) (by decide +kernel)
  | 3, _ => exact tb_in (i := 310) (by decide +kernel) (by decide +kernel)
  | 4, _ => exact tb_in (i := 312) (by decide +kernel) (by decide +kernel)
  | 5, _ => exact tb_in (i := 314) (by decide +kernel) (by decide +kernel)
  | k + 6, h => omega
theorem wu_X9 : ∀ w ∈ u_ws RX9 TX9 11, w ∈ tb_g := by
  intro w hw
  obtain ⟨k, hk, rfl⟩ := List.mem_map.mp hw
  have hk := List.mem_range.mp hk
  match k, hk with
  | 0, _ => exact tb_in (i := 372) (by decide +kernel) (by decide +kernel)
  | 1, _ => exact tb_in (i := 374) (by decide +kernel) (by decide +kernel)
  | 2, _ => exact tb_in (i := 376) (by decide +kernel) (by decide +kernel)
  | 3, _ => exact tb_in (i := 378) (by decide +kernel) (by decide +kernel)
  | 4, _ => exact tb_in (i := 380) (by decide +kernel) (by decide +kernel)
  | 5, _ => exact tb_in (i := 382) (by decide +kernel) (by decide +kernel)
  | 6, _ => exact tb_in (i := 384) (by decide +kernel) (by decide +kernel)
  | 7, _ => exact tb_in (i := 386) (by decide +kernel) (by decide +kernel)
  | 8, _ => exact tb_in (i := 388) (by decide +kernel) (by decide +kernel)
  | 9, _ => exact tb_in (i := 390) (by decide +kernel) (by decide +kernel)
  | 10, _ => exact tb_in (i := 392) (by decide +kernel) (by decide +kernel)
  | k + 11, h => omega
theorem wu_X10 : ∀ w ∈ u_ws RX10 TX10 27, w ∈ tb_g := by
  intro w hw
  obtain ⟨k, hk, rfl⟩ := List.mem_map.mp hw
  have hk := List.mem_range.mp hk
  match k, hk with
  | 0, _ => exact tb_in (i := 987) (by decide +kernel) (by decide +kernel)
  | 1, _ => exact tb_in (i := 989) (by decide +kernel) (by decide +kernel)
  | 2, _ => exact tb_in (i := 991) (by decide +kernel) (by decide +kernel)
  | 3, _ => exact tb_in (i := 993) (by decide +kernel) (by decide +kernel)
  | 4, _ => exact tb_in (i := 995) (by decide +kernel) (by decide +kernel)
  | 5, _ => exact tb_in (i := 997) (by decide +kernel) (by decide +kernel)
  | 6, _ => exact tb_in (i := 999) (by decide +kernel) (by decide +kernel)
  | 7, _ => exact tb_in (i := 1001) (by decide +kernel) (by decide +kernel)
  | 8, _ => exact tb_in (i := 1003) (by decide +kernel) (by decide +kernel)
  | 9, _ => exact tb_in (i := 1005) (by decide +kernel) (by decide +kernel)
  | 10, _ => exact tb_in (i := 1007) (by decide +kernel) (by decide +kernel)
  | 11, _ => exact tb_in (i := 1009) (by decide +kernel) (by decide +kernel)
  | 12, _ => exact tb_in (i := 1011) (by decide +kernel) (by decide +kernel)
  | 13, _ => exact tb_in (i := 1013) (by decide +kernel) (by decide +kernel)
  | 14, _ => exact tb_in (i := 1015) (by decide +kernel) (by decide +kernel)
  | 15, _ => exact tb_in (i := 1017) (by decide +kernel) (by decide +kernel)
  | 16, _ => exact tb_in (i := 1019) (by decide +kernel) (by decide +kernel)
  | 17, _ => exact tb_in (i := 1021) (by decide +kernel) (by decide +kernel)
  | 18, _ => exact tb_in (i := 1023) (by decide +kernel) (by decide +kernel)
  | 19, _ => exact tb_in (i := 1025) (by decide +kernel) (by decide +kernel)
  | 20, _ => exact tb_in (i := 1027) (by decide +kernel) (by decide +kernel)
  | 21, _ => exact tb_in (i := 1029) (by decide +kernel) (by decide +kernel)
  | 22, _ => exact tb_in (i := 1031) (by decide +kernel) (by decide +kernel)
  | 23, _ => exact tb_in (i := 1033) (by decide +kernel) (by decide +kernel)
  | 24, _ => exact tb_in (i := 1035) (by decide +kernel) (by decide +kernel)
  | 25, _ => exact tb_in (i := 1037) (by decide +kernel) (by decide +kernel)
  | 26, _ => exact tb_in (i := 1039) (by decide +kernel) (by decide +kernel)
  | k + 27, h => omega
theorem lk_X4_9 : aw_L RX4 9 4 0 := ⟨RX4, TX4, 6, tyX4, rfl, by decide, tb_in (i := 103) (by decide +kernel) (by decide +kernel), rfl, wu_X4, tyX4_ok, nmX4⟩
theorem lk_X2_70 : aw_L RX2 70 4 0 := ⟨RX4, TX4, 6, tyX4, rfl, by decide, tb_in (i := 104) (by decide +kernel) (by decide +kernel), rfl, wu_X4, tyX4_ok, nmX4⟩
theorem lk_X4_15 : aw_L RX4 15 4 1 := ⟨RX4, TX4, 6, tyX4, rfl, by decide, tb_in (i := 105) (by decide +kernel) (by decide +kernel), rfl, wu_X4, tyX4_ok, nmX4⟩
theorem lk_X2_59 : aw_L RX2 59 4 1 := ⟨RX4, TX4, 6, tyX4, rfl, by decide, tb_in (i := 106) (by decide +kernel) (by decide +kernel), rfl, wu_X4, tyX4_ok, nmX4⟩
theorem lk_X9_270 : aw_L RX9 270 4 1 := ⟨RX4, TX4, 6, tyX4, rfl, by decide, tb_in (i := 107) (by decide +kernel) (by decide +kernel), rfl, wu_X4, tyX4_ok, nmX4⟩
theorem lk_X4_18 : aw_L RX4 18 4 2 := ⟨RX4, TX4, 6, tyX4, rfl, by decide, tb_in (i := 108) (by decide +kernel) (by decide +kernel), rfl, wu_X4, tyX4_ok, nmX4⟩
theorem lk_X2_64 : aw_L RX2 64 4 2 := ⟨RX4, TX4, 6, tyX4, rfl, by decide, tb_in (i := 109) (by decide +kernel) (by decide +kernel), rfl, wu_X4, tyX4_ok, nmX4⟩
theorem lk_X9_364 : aw_L RX9 364 4 2 := ⟨RX4, TX4, 6, tyX4, rfl, by decide, tb_in (i := 110) (by decide +kernel) (by decide +kernel), rfl, wu_X4, tyX4_ok, nmX4⟩
theorem lk_X4_21 : aw_L RX4 21 4 3 := ⟨RX4, TX4, 6, tyX4, rfl, by decide, tb_in (i := 111) (by decide +kernel) (by decide +kernel), rfl, wu_X4, tyX4_ok, nmX4⟩
theorem lk_X2_73 : aw_L RX2 73 4 3 := ⟨RX4, TX4, 6, tyX4, rfl, by decide, tb_in (i := 112) (by decide +kernel) (by decide +kernel), rfl, wu_X4, tyX4_ok, nmX4⟩
theorem lk_X4_24 : aw_L RX4 24 4 4 := ⟨RX4, TX4, 6, tyX4, rfl, by decide, tb_in (i := 113) (by decide +kernel) (by decide +kernel), rfl, wu_X4, tyX4_ok, nmX4⟩
theorem lk_X2_67 : aw_L RX2 67 4 4 := ⟨RX4, TX4, 6, tyX4, rfl, by decide, tb_in (i := 114) (by decide +kernel) (by decide +kernel), rfl, wu_X4, tyX4_ok, nmX4⟩
theorem lk_X5_40 : aw_L RX5 40 4 4 := ⟨RX4, TX4, 6, tyX4, rfl, by decide, tb_in (i := 115) (by decide +kernel) (by decide +kernel), rfl, wu_X4, tyX4_ok, nmX4⟩
theorem lk_X4_27 : aw_L RX4 27 4 5 := ⟨RX4, TX4, 6, tyX4, rfl, by decide, tb_in (i := 116) (by decide +kernel) (by decide +kernel), rfl, wu_X4, tyX4_ok, nmX4⟩
theorem lk_X2_76 : aw_L RX2 76 4 5 := ⟨RX4, TX4, 6, tyX4, rfl, by decide, tb_in (i := 117) (by decide +kernel) (by decide +kernel), rfl, wu_X4, tyX4_ok, nmX4⟩
theorem lk_X9_286 : aw_L RX9 286 4 5 := ⟨RX4, TX4, 6, tyX4, rfl, by decide, tb_in (i := 118) (by decide +kernel) (by decide +kernel), rfl, wu_X4, tyX4_ok, nmX4⟩
theorem lk_X0_15 : aw_L RX0 15 1 0 := ⟨RX1, TX1, 5, tyX1, rfl, by decide, tb_in (i := 141) (by decide +kernel) (by decide +kernel), rfl, wu_X1, tyX1_ok, nmX1⟩
theorem lk_X2_32 : aw_L RX2 32 1 0 := ⟨RX1, TX1, 5, tyX1, rfl, by decide, tb_in (i := 142) (by decide +kernel) (by decide +kernel), rfl, wu_X1, tyX1_ok, nmX1⟩
theorem lk_X1_25 : aw_L RX1 25 1 0 := ⟨RX1, TX1, 5, tyX1, rfl, by decide, tb_in (i := 143) (by decide +kernel) (by decide +kernel), rfl, wu_X1, tyX1_ok, nmX1⟩
theorem lk_X9_115 : aw_L RX9 115 1 0 := ⟨RX1, TX1, 5, tyX1, rfl, by decide, tb_in (i := 144) (by decide +kernel) (by decide +kernel), rfl, wu_X1, tyX1_ok, nmX1⟩
theorem lk_X0_22 : aw_L RX0 22 1 1 := ⟨RX1, TX1, 5, tyX1, rfl, by decide, tb_in (i := 145) (by decide +kernel) (by decide +kernel), rfl, wu_X1, tyX1_ok, nmX1⟩
theorem lk_X2_29 : aw_L RX2 29 1 1 := ⟨RX1, TX1, 5, tyX1, rfl, by decide, tb_in (i := 146) (by decide +kernel) (by decide +kernel), rfl, wu_X1, tyX1_ok, nmX1⟩
theorem lk_X1_28 : aw_L RX1 28 1 1 := ⟨RX1, TX1, 5, tyX1, rfl, by decide, tb_in (i := 147) (by decide +kernel) (by decide +kernel), rfl, wu_X1, tyX1_ok, nmX1⟩
theorem lk_X9_118 : aw_L RX9 118 1 1 := ⟨RX1, TX1, 5, tyX1, rfl, by decide, tb_in (i := 148) (by decide +kernel) (by decide +kernel), rfl, wu_X1, tyX1_ok, nmX1⟩
theorem lk_X1_15 : aw_L RX1 15 1 2 := ⟨RX1, TX1, 5, tyX1, rfl, by decide, tb_in (i := 149) (by decide +kernel) (by decide +kernel), rfl, wu_X1, tyX1_ok, nmX1⟩
theorem lk_X2_23 : aw_L RX2 23 1 2 := ⟨RX1, TX1, 5, tyX1, rfl, by decide, tb_in (i := 150) (by decide +kernel) (by decide +kernel), rfl, wu_X1, tyX1_ok, nmX1⟩
theorem lk_X9_121 : aw_L RX9 121 1 2 := ⟨RX1, TX1, 5, tyX1, rfl, by decide, tb_in (i := 151) (by decide +kernel) (by decide +kernel), rfl, wu_X1, tyX1_ok, nmX1⟩
theorem lk_X1_19 : aw_L RX1 19 1 3 := ⟨RX1, TX1, 5, tyX1, rfl, by decide, tb_in (i := 152) (by decide +kernel) (by decide +kernel), rfl, wu_X1, tyX1_ok, nmX1⟩
theorem lk_X7_112 : aw_L RX7 112 1 3 := ⟨RX1, TX1, 5, tyX1, rfl, by decide, tb_in (i := 153) (by decide +kernel) (by decide +kernel), rfl, wu_X1, tyX1_ok, nmX1⟩
theorem lk_X9_124 : aw_L RX9 124 1 3 := ⟨RX1, TX1, 5, tyX1, rfl, by decide, tb_in (i := 154) (by decide +kernel) (by decide +kernel), rfl, wu_X1, tyX1_ok, nmX1⟩
theorem lk_X1_22 : aw_L RX1 22 1 4 := ⟨RX1, TX1, 5, tyX1, rfl, by decide, tb_in (i := 155) (by decide +kernel) (by decide +kernel), rfl, wu_X1, tyX1_ok, nmX1⟩
theorem lk_X7_103 : aw_L RX7 103 1 4 := ⟨RX1, TX1, 5, tyX1, rfl, by decide, tb_in (i := 156) (by decide +kernel) (by decide +kernel), rfl, wu_X1, tyX1_ok, nmX1⟩
theorem lk_X9_127 : aw_L RX9 127 1 4 := ⟨RX1, TX1, 5, tyX1, rfl, by decide, tb_in (i := 157) (by decide +kernel) (by decide +kernel), rfl, wu_X1, tyX1_ok, nmX1⟩
theorem lk_X3_9 : aw_L RX3 9 3 0 := ⟨RX3, TX3, 3, tyX3, rfl, by decide, tb_in (i := 176) (by decide +kernel) (by decide +kernel), rfl, wu_X3, tyX3_ok, nmX3⟩
theorem lk_X7_63 : aw_L RX7 63 3 0 := ⟨RX3, TX3, 3, tyX3, rfl, by decide, tb_in (i := 177) (by decide +kernel) (by decide +kernel), rfl, wu_X3, tyX3_ok, nmX3⟩
theorem lk_X3_15 : aw_L RX3 15 3 1 := ⟨RX3, TX3, 3, tyX3, rfl, by decide, tb_in (i := 178) (by decide +kernel) (by decide +kernel), rfl, wu_X3, tyX3_ok, nmX3⟩
theorem lk_X3_28 : aw_L RX3 28 3 2 := ⟨RX3, TX3, 3, tyX3, rfl, by decide, tb_in (i := 179) (by decide +kernel) (by decide +kernel), rfl, wu_X3, tyX3_ok, nmX3⟩
theorem lk_X7_66 : aw_L RX7 66 3 2 := ⟨RX3, TX3, 3, tyX3, rfl, by decide, tb_in (i := 180) (by decide +kernel) (by decide +kernel), rfl, wu_X3, tyX3_ok, nmX3⟩
theorem lk_X7_12 : aw_L RX7 12 7 0 := ⟨RX7, TX7, 10, tyX7, rfl, by decide, tb_in (i := 188) (by decide +kernel) (by decide +kernel), rfl, wu_X7, tyX7_ok, nmX7⟩
theorem lk_X9_87 : aw_L RX9 87 7 0 := ⟨RX7, TX7, 10, tyX7, rfl, by decide, tb_in (i := 189) (by decide +kernel) (by decide +kernel), rfl, wu_X7, tyX7_ok, nmX7⟩
theorem lk_X7_20 : aw_L RX7 20 7 1 := ⟨RX7, TX7, 10, tyX7, rfl, by decide, tb_in (i := 190) (by decide +kernel) (by decide +kernel), rfl, wu_X7, tyX7_ok, nmX7⟩
theorem lk_X9_36 : aw_L RX9 36 7 1 := ⟨RX7, TX7, 10, tyX7, rfl, by decide, tb_in (i := 191) (by decide +kernel) (by decide +kernel), rfl, wu_X7, tyX7_ok, nmX7⟩
theorem lk_X7_26 : aw_L RX7 26 7 2 := ⟨RX7, TX7, 10, tyX7, rfl, by decide, tb_in (i := 192) (by decide +kernel) (by decide +kernel), rfl, wu_X7, tyX7_ok, nmX7⟩
theorem lk_X9_175 : aw_L RX9 175 7 2 := ⟨RX7, TX7, 10, tyX7, rfl, by decide, tb_in (i := 193) (by decide +kernel) (by decide +kernel), rfl, wu_X7, tyX7_ok, nmX7⟩
theorem lk_X7_30 : aw_L RX7 30 7 3 := ⟨RX7, TX7, 10, tyX7, rfl, by decide, tb_in (i := 194) (by decide +kernel) (by decide +kernel), rfl, wu_X7, tyX7_ok, nmX7⟩
theorem lk_X9_157 : aw_L RX9 157 7 3 := ⟨RX7, TX7, 10, tyX7, rfl, by decide, tb_in (i := 195) (by decide +kernel) (by decide +kernel), rfl, wu_X7, tyX7_ok, nmX7⟩
theorem lk_X7_34 : aw_L RX7 34 7 4 := ⟨RX7, TX7, 10, tyX7, rfl, by decide, tb_in (i := 196) (by decide +kernel) (by decide +kernel), rfl, wu_X7, tyX7_ok, nmX7⟩
theorem lk_X9_345 : aw_L RX9 345 7 4 := ⟨RX7, TX7, 10, tyX7, rfl, by decide, tb_in (i := 197) (by decide +kernel) (by decide +kernel), rfl, wu_X7, tyX7_ok, nmX7⟩
theorem lk_X7_38 : aw_L RX7 38 7 5 := ⟨RX7, TX7, 10, tyX7, rfl, by decide, tb_in (i := 198) (by decide +kernel) (by decide +kernel), rfl, wu_X7, tyX7_ok, nmX7⟩
theorem lk_X9_104 : aw_L RX9 104 7 5 := ⟨RX7, TX7, 10, tyX7, rfl, by decide, tb_in (i := 199) (by decide +kernel) (by decide +kernel), rfl, wu_X7, tyX7_ok, nmX7⟩
theorem lk_X7_42 : aw_L RX7 42 7 6 := ⟨RX7, TX7, 10, tyX7, rfl, by decide, tb_in (i := 200) (by decide +kernel) (by decide +kernel), rfl, wu_X7, tyX7_ok, nmX7⟩
theorem lk_X9_154 : aw_L RX9 154 7 6 := ⟨RX7, TX7, 10, tyX7, rfl, by decide, tb_in (i := 201) (by decide +kernel) (by decide +kernel), rfl, wu_X7, tyX7_ok, nmX7⟩
theorem lk_X7_45 : aw_L RX7 45 7 7 := ⟨RX7, TX7, 10, tyX7, rfl, by decide, tb_in (i := 202) (by decide +kernel) (by decide +kernel), rfl, wu_X7, tyX7_ok, nmX7⟩
theorem lk_X9_342 : aw_L RX9 342 7 7 := ⟨RX7, TX7, 10, tyX7, rfl, by decide, tb_in (i := 203) (by decide +kernel) (by decide +kernel), rfl, wu_X7, tyX7_ok, nmX7⟩
theorem lk_X7_48 : aw_L RX7 48 7 8 := ⟨RX7, TX7, 10, tyX7, rfl, by decide, tb_in (i := 204) (by decide +kernel) (by decide +kernel), rfl, wu_X7, tyX7_ok, nmX7⟩
theorem lk_X9_195 : aw_L RX9 195 7 8 := ⟨RX7, TX7, 10, tyX7, rfl, by decide, tb_in (i := 205) (by decide +kernel) (by decide +kernel), rfl, wu_X7, tyX7_ok, nmX7⟩
theorem lk_X7_51 : aw_L RX7 51 7 9 := ⟨RX7, TX7, 10, tyX7, rfl, by decide, tb_in (i := 206) (by decide +kernel) (by decide +kernel), rfl, wu_X7, tyX7_ok, nmX7⟩
theorem lk_X9_292 : aw_L RX9 292 7 9 := ⟨RX7, TX7, 10, tyX7, rfl, by decide, tb_in (i := 207) (by decide +kernel) (by decide +kernel), rfl, wu_X7, tyX7_ok, nmX7⟩
theorem lk_X2_15 : aw_L RX2 15 2 0 := ⟨RX2, TX2, 5, tyX2, rfl, by decide, tb_in (i := 238) (by decide +kernel) (by decide +kernel), rfl, wu_X2, tyX2_ok, nmX2⟩
theorem lk_X2_19 : aw_L RX2 19 2 1 := ⟨RX2, TX2, 5, tyX2, rfl, by decide, tb_in (i := 239) (by decide +kernel) (by decide +kernel), rfl, wu_X2, tyX2_ok, nmX2⟩
theorem lk_X5_59 : aw_L RX5 59 2 1 := ⟨RX2, TX2, 5, tyX2, rfl, by decide, tb_in (i := 240) (by decide +kernel) (by decide +kernel), rfl, wu_X2, tyX2_ok, nmX2⟩
theorem lk_X7_93 : aw_L RX7 93 2 1 := ⟨RX2, TX2, 5, tyX2, rfl, by decide, tb_in (i := 241) (by decide +kernel) (by decide +kernel), rfl, wu_X2, tyX2_ok, nmX2⟩
theorem lk_X2_9 : aw_L RX2 9 2 2 := ⟨RX2, TX2, 5, tyX2, rfl, by decide, tb_in (i := 242) (by decide +kernel) (by decide +kernel), rfl, wu_X2, tyX2_ok, nmX2⟩
theorem lk_X2_45 : aw_L RX2 45 2 3 := ⟨RX2, TX2, 5, tyX2, rfl, by decide, tb_in (i := 243) (by decide +kernel) (by decide +kernel), rfl, wu_X2, tyX2_ok, nmX2⟩
theorem lk_X9_134 : aw_L RX9 134 2 3 := ⟨RX2, TX2, 5, tyX2, rfl, by decide, tb_in (i := 244) (by decide +kernel) (by decide +kernel), rfl, wu_X2, tyX2_ok, nmX2⟩
theorem lk_X2_51 : aw_L RX2 51 2 4 := ⟨RX2, TX2, 5, tyX2, rfl, by decide, tb_in (i := 245) (by decide +kernel) (by decide +kernel), rfl, wu_X2, tyX2_ok, nmX2⟩
theorem lk_X9_137 : aw_L RX9 137 2 4 := ⟨RX2, TX2, 5, tyX2, rfl, by decide, tb_in (i := 246) (by decide +kernel) (by decide +kernel), rfl, wu_X2, tyX2_ok, nmX2⟩
theorem lk_X5_9 : aw_L RX5 9 5 0 := ⟨RX5, TX5, 7, tyX5, rfl, by decide, tb_in (i := 264) (by decide +kernel) (by decide +kernel), rfl, wu_X5, tyX5_ok, nmX5⟩
theorem lk_X5_15 : aw_L RX5 15 5 1 := ⟨RX5, TX5, 7, tyX5, rfl, by decide, tb_in (i := 265) (by decide +kernel) (by decide +kernel), rfl, wu_X5, tyX5_ok, nmX5⟩
theorem lk_X5_23 : aw_L RX5 23 5 2 := ⟨RX5, TX5, 7, tyX5, rfl, by decide, tb_in (i := 266) (by decide +kernel) (by decide +kernel), rfl, wu_X5, tyX5_ok, nmX5⟩
theorem lk_X5_27 : aw_L RX5 27 5 3 := ⟨RX5, TX5, 7, tyX5, rfl, by decide, tb_in (i := 267) (by decide +kernel) (by decide +kernel), rfl, wu_X5, tyX5_ok, nmX5⟩
theorem lk_X5_30 : aw_L RX5 30 5 4 := ⟨RX5, TX5, 7, tyX5, rfl, by decide, tb_in (i := 268) (by decide +kernel) (by decide +kernel), rfl, wu_X5, tyX5_ok, nmX5⟩
theorem lk_X5_34 : aw_L RX5 34 5 5 := ⟨RX5, TX5, 7, tyX5, rfl, by decide, tb_in (i := 269) (by decide +kernel) (by decide +kernel), rfl, wu_X5, tyX5_ok, nmX5⟩
theorem lk_X9_280 : aw_L RX9 280 5 5 := ⟨RX5, TX5, 7, tyX5, rfl, by decide, tb_in (i := 270) (by decide +kernel) (by decide +kernel), rfl, wu_X5, tyX5_ok, nmX5⟩
theorem lk_X5_37 : aw_L RX5 37 5 6 := ⟨RX5, TX5, 7, tyX5, rfl, by decide, tb_in (i := 271) (by decide +kernel) (by decide +kernel), rfl, wu_X5, tyX5_ok, nmX5⟩
theorem lk_X9_283 : aw_L RX9 283 5 6 := ⟨RX5, TX5, 7, tyX5, rfl, by decide, tb_in (i := 272) (by decide +kernel) (by decide +kernel), rfl, wu_X5, tyX5_ok, nmX5⟩
theorem lk_X8_9 : aw_L RX8 9 8 0 := ⟨RX8, TX8, 6, tyX8, rfl, by decide, tb_in (i := 295) (by decide +kernel) (by decide +kernel), rfl, wu_X8, tyX8_ok, nmX8⟩
theorem lk_X9_179 : aw_L RX9 179 8 0 := ⟨RX8, TX8, 6, tyX8, rfl, by decide, tb_in (i := 296) (by decide +kernel) (by decide +kernel), rfl, wu_X8, tyX8_ok, nmX8⟩
theorem lk_X8_15 : aw_L RX8 15 8 1 := ⟨RX8, TX8, 6, tyX8, rfl, by decide, tb_in (i := 297) (by decide +kernel) (by decide +kernel), rfl, wu_X8, tyX8_ok, nmX8⟩
theorem lk_X8_41 : aw_L RX8 41 8 2 := ⟨RX8, TX8, 6, tyX8, rfl, by decide, tb_in (i := 298) (by decide +kernel) (by decide +kernel), rfl, wu_X8, tyX8_ok, nmX8⟩
theorem lk_X9_182 : aw_L RX9 182 8 2 := ⟨RX8, TX8, 6, tyX8, rfl, by decide, tb_in (i := 299) (by decide +kernel) (by decide +kernel), rfl, wu_X8, tyX8_ok, nmX8⟩
theorem lk_X8_38 : aw_L RX8 38 8 3 := ⟨RX8, TX8, 6, tyX8, rfl, by decide, tb_in (i := 300) (by decide +kernel) (by decide +kernel), rfl, wu_X8, tyX8_ok, nmX8⟩
theorem lk_X9_172 : aw_L RX9 172 8 3 := ⟨RX8, TX8, 6, tyX8, rfl, by decide, tb_in (i := 301) (by decide +kernel) (by decide +kernel), rfl, wu_X8, tyX8_ok, nmX8⟩
theorem lk_X8_34 : aw_L RX8 34 8 4 := ⟨RX8, TX8, 6, tyX8, rfl, by decide, tb_in (i := 302) (by decide +kernel) (by decide +kernel), rfl, wu_X8, tyX8_ok, nmX8⟩
theorem lk_X8_20 : aw_L RX8 20 8 5 := ⟨RX8, TX8, 6, tyX8, rfl, by decide, tb_in (i := 303) (by decide +kernel) (by decide +kernel), rfl, wu_X8, tyX8_ok, nmX8⟩
theorem lk_X0_9 : aw_L RX0 9 0 0 := ⟨RX0, TX0, 5, tyX0, rfl, by decide, tb_in (i := 323) (by decide +kernel) (by decide +kernel), rfl, wu_X0, tyX0_ok, nmX0⟩
theorem lk_X9_300 : aw_L RX9 300 0 0 := ⟨RX0, TX0, 5, tyX0, rfl, by decide, tb_in (i := 324) (by decide +kernel) (by decide +kernel), rfl, wu_X0, tyX0_ok, nmX0⟩
theorem lk_X0_29 : aw_L RX0 29 0 1 := ⟨RX0, TX0, 5, tyX0, rfl, by decide, tb_in (i := 325) (by decide +kernel) (by decide +kernel), rfl, wu_X0, tyX0_ok, nmX0⟩
theorem lk_X9_299 : aw_L RX9 299 0 1 := ⟨RX0, TX0, 5, tyX0, rfl, by decide, tb_in (i := 326) (by decide +kernel) (by decide +kernel), rfl, wu_X0, tyX0_ok, nmX0⟩
theorem lk_X0_21 : aw_L RX0 21 0 2 := ⟨RX0, TX0, 5, tyX0, rfl, by decide, tb_in (i := 327) (by decide +kernel) (by decide +kernel), rfl, wu_X0, tyX0_ok, nmX0⟩
theorem lk_X0_25 : aw_L RX0 25 0 3 := ⟨RX0, TX0, 5, tyX0, rfl, by decide, tb_in (i := 328) (by decide +kernel) (by decide +kernel), rfl, wu_X0, tyX0_ok, nmX0⟩
theorem lk_X0_26 : aw_L RX0 26 0 4 := ⟨RX0, TX0, 5, tyX0, rfl, by decide, tb_in (i := 329) (by decide +kernel) (by decide +kernel), rfl, wu_X0, tyX0_ok, nmX0⟩
theorem lk_X6_9 : aw_L RX6 9 6 0 := ⟨RX6, TX6, 3, tyX6, rfl, by decide, tb_in (i := 348) (by decide +kernel) (by decide +kernel), rfl, wu_X6, tyX6_ok, nmX6⟩
theorem lk_X9_324 : aw_L RX9 324 6 0 := ⟨RX6, TX6, 3, tyX6, rfl, by decide, tb_in (i := 349) (by decide +kernel) (by decide +kernel), rfl, wu_X6, tyX6_ok, nmX6⟩
theorem lk_X6_15 : aw_L RX6 15 6 1 := ⟨RX6, TX6, 3, tyX6, rfl, by decide, tb_in (i := 350) (by decide +kernel) (by decide +kernel), rfl, wu_X6, tyX6_ok, nmX6⟩
theorem lk_X9_317 : aw_L RX9 317 6 1 := ⟨RX6, TX6, 3, tyX6, rfl, by decide, tb_in (i := 351) (by decide +kernel) (by decide +kernel), rfl, wu_X6, tyX6_ok, nmX6⟩
theorem lk_X6_19 : aw_L RX6 19 6 2 := ⟨RX6, TX6, 3, tyX6, rfl, by decide, tb_in (i := 352) (by decide +kernel) (by decide +kernel), rfl, wu_X6, tyX6_ok, nmX6⟩
theorem lk_X9_313 : aw_L RX9 313 6 2 := ⟨RX6, TX6, 3, tyX6, rfl, by decide, tb_in (i := 353) (by decide +kernel) (by decide +kernel), rfl, wu_X6, tyX6_ok, nmX6⟩
theorem lk_X9_10 : aw_L RX9 10 9 0 := ⟨RX9, TX9, 11, tyX9, rfl, by decide, tb_in (i := 361) (by decide +kernel) (by decide +kernel), rfl, wu_X9, tyX9_ok, nmX9⟩
theorem lk_X9_16 : aw_L RX9 16 9 1 := ⟨RX9, TX9, 11, tyX9, rfl, by decide, tb_in (i := 362) (by decide +kernel) (by decide +kernel), rfl, wu_X9, tyX9_ok, nmX9⟩
theorem lk_X9_19 : aw_L RX9 19 9 2 := ⟨RX9, TX9, 11, tyX9, rfl, by decide, tb_in (i := 363) (by decide +kernel) (by decide +kernel), rfl, wu_X9, tyX9_ok, nmX9⟩
theorem lk_X9_26 : aw_L RX9 26 9 3 := ⟨RX9, TX9, 11, tyX9, rfl, by decide, tb_in (i := 364) (by decide +kernel) (by decide +kernel), rfl, wu_X9, tyX9_ok, nmX9⟩
theorem lk_X9_32 : aw_L RX9 32 9 4 := ⟨RX9, TX9, 11, tyX9, rfl, by decide, tb_in (i := 365) (by decide +kernel) (by decide +kernel), rfl, wu_X9, tyX9_ok, nmX9⟩
theorem lk_X9_43 : aw_L RX9 43 9 5 := ⟨RX9, TX9, 11, tyX9, rfl, by decide, tb_in (i := 366) (by decide +kernel) (by decide +kernel), rfl, wu_X9, tyX9_ok, nmX9⟩
theorem lk_X9_52 : aw_L RX9 52 9 6 := ⟨RX9, TX9, 11, tyX9, rfl, by decide, tb_in (i := 367) (by decide +kernel) (by decide +kernel), rfl, wu_X9, tyX9_ok, nmX9⟩
theorem lk_X9_59 : aw_L RX9 59 9 7 := ⟨RX9, TX9, 11, tyX9, rfl, by decide, tb_in (i := 368) (by decide +kernel) (by decide +kernel), rfl, wu_X9, tyX9_ok, nmX9⟩
theorem lk_X9_66 : aw_L RX9 66 9 8 := ⟨RX9, TX9, 11, tyX9, rfl, by decide, tb_in (i := 369) (by decide +kernel) (by decide +kernel), rfl, wu_X9, tyX9_ok, nmX9⟩
theorem lk_X9_72 : aw_L RX9 72 9 9 := ⟨RX9, TX9, 11, tyX9, rfl, by decide, tb_in (i := 370) (by decide +kernel) (by decide +kernel), rfl, wu_X9, tyX9_ok, nmX9⟩
theorem lk_X9_77 : aw_L RX9 77 9 10 := ⟨RX9, TX9, 11, tyX9, rfl, by decide, tb_in (i := 371) (by decide +kernel) (by decide +kernel), rfl, wu_X9, tyX9_ok, nmX9⟩
theorem lk_X10_7 : aw_L RX10 7 10 0 := ⟨RX10, TX10, 27, tyX10, rfl, by decide, tb_in (i := 960) (by decide +kernel) (by decide +kernel), rfl, wu_X10, tyX10_ok, nmX10⟩
theorem lk_X10_13 : aw_L RX10 13 10 1 := ⟨RX10, TX10, 27, tyX10, rfl, by decide, tb_in (i := 961) (by decide +kernel) (by decide +kernel), rfl, wu_X10, tyX10_ok, nmX10⟩
theorem lk_X10_16 : aw_L RX10 16 10 2 := ⟨RX10, TX10, 27, tyX10, rfl, by decide, tb_in (i := 962) (by decide +kernel) (by decide +kernel), rfl, wu_X10, tyX10_ok, nmX10⟩
theorem lk_X10_19 : aw_L RX10 19 10 3 := ⟨RX10, TX10, 27, tyX10, rfl, by decide, tb_in (i := 963) (by decide +kernel) (by decide +kernel), rfl, wu_X10, tyX10_ok, nmX10⟩
theorem lk_X10_242 : aw_L RX10 242 10 4 := ⟨RX10, TX10, 27, tyX10, rfl, by decide, tb_in (i := 964) (by decide +kernel) (by decide +kernel), rfl, wu_X10, tyX10_ok, nmX10⟩
theorem lk_X10_245 : aw_L RX10 245 10 5 := ⟨RX10, TX10, 27, tyX10, rfl, by decide, tb_in (i := 965) (by decide +kernel) (by decide +kernel), rfl, wu_X10, tyX10_ok, nmX10⟩
theorem lk_X10_22 : aw_L RX10 22 10 6 := ⟨RX10, TX10, 27, tyX10, rfl, by decide, tb_in (i := 966) (by decide +kernel) (by decide +kernel), rfl, wu_X10, tyX10_ok, nmX10⟩
theorem lk_X10_89 : aw_L RX10 89 10 7 := ⟨RX10, TX10, 27, tyX10, rfl, by decide, tb_in (i := 967) (by decide +kernel) (by decide +kernel), rfl, wu_X10, tyX10_ok, nmX10⟩
theorem lk_X10_96 : aw_L RX10 96 10 8 := ⟨RX10, TX10, 27, tyX10, rfl, by decide, tb_in (i := 968) (by decide +kernel) (by decide +kernel), rfl, wu_X10, tyX10_ok, nmX10⟩
theorem lk_X10_85 : aw_L RX10 85 10 9 := ⟨RX10, TX10, 27, tyX10, rfl, by decide, tb_in (i := 969) (by decide +kernel) (by decide +kernel), rfl, wu_X10, tyX10_ok, nmX10⟩
theorem lk_X10_124 : aw_L RX10 124 10 10 := ⟨RX10, TX10, 27, tyX10, rfl, by decide, tb_in (i := 970) (by decide +kernel) (by decide +kernel), rfl, wu_X10, tyX10_ok, nmX10⟩
theorem lk_X10_109 : aw_L RX10 109 10 11 := ⟨RX10, TX10, 27, tyX10, rfl, by decide, tb_in (i := 971) (by decide +kernel) (by decide +kernel), rfl, wu_X10, tyX10_ok, nmX10⟩
theorem lk_X10_112 : aw_L RX10 112 10 12 := ⟨RX10, TX10, 27, tyX10, rfl, by decide, tb_in (i := 972) (by decide +kernel) (by decide +kernel), rfl, wu_X10, tyX10_ok, nmX10⟩
theorem lk_X10_115 : aw_L RX10 115 10 13 := ⟨RX10, TX10, 27, tyX10, rfl, by decide, tb_in (i := 973) (by decide +kernel) (by decide +kernel), rfl, wu_X10, tyX10_ok, nmX10⟩
theorem lk_X10_92 : aw_L RX10 92 10 14 := ⟨RX10, TX10, 27, tyX10, rfl, by decide, tb_in (i := 974) (by decide +kernel) (by decide +kernel), rfl, wu_X10, tyX10_ok, nmX10⟩
theorem lk_X10_25 : aw_L RX10 25 10 15 := ⟨RX10, TX10, 27, tyX10, rfl, by decide, tb_in (i := 975) (by decide +kernel) (by decide +kernel), rfl, wu_X10, tyX10_ok, nmX10⟩
theorem lk_X10_28 : aw_L RX10 28 10 16 := ⟨RX10, TX10, 27, tyX10, rfl, by decide, tb_in (i := 976) (by decide +kernel) (by decide +kernel), rfl, wu_X10, tyX10_ok, nmX10⟩
theorem lk_X10_31 : aw_L RX10 31 10 17 := ⟨RX10, TX10, 27, tyX10, rfl, by decide, tb_in (i := 977) (by decide +kernel) (by decide +kernel), rfl, wu_X10, tyX10_ok, nmX10⟩
theorem lk_X10_34 : aw_L RX10 34 10 18 := ⟨RX10, TX10, 27, tyX10, rfl, by decide, tb_in (i := 978) (by decide +kernel) (by decide +kernel), rfl, wu_X10, tyX10_ok, nmX10⟩
theorem lk_X10_37 : aw_L RX10 37 10 19 := ⟨RX10, TX10, 27, tyX10, rfl, by decide, tb_in (i := 979) (by decide +kernel) (by decide +kernel), rfl, wu_X10, tyX10_ok, nmX10⟩
theorem lk_X10_200 : aw_L RX10 200 10 20 := ⟨RX10, TX10, 27, tyX10, rfl, by decide, tb_in (i := 980) (by decide +kernel) (by decide +kernel), rfl, wu_X10, tyX10_ok, nmX10⟩
theorem lk_X10_203 : aw_L RX10 203 10 21 := ⟨RX10, TX10, 27, tyX10, rfl, by decide, tb_in (i := 981) (by decide +kernel) (by decide +kernel), rfl, wu_X10, tyX10_ok, nmX10⟩
theorem lk_X10_40 : aw_L RX10 40 10 22 := ⟨RX10, TX10, 27, tyX10, rfl, by decide, tb_in (i := 982) (by decide +kernel) (by decide +kernel), rfl, wu_X10, tyX10_ok, nmX10⟩
theorem lk_X10_212 : aw_L RX10 212 10 23 := ⟨RX10, TX10, 27, tyX10, rfl, by decide, tb_in (i := 983) (by decide +kernel) (by decide +kernel), rfl, wu_X10, tyX10_ok, nmX10⟩
theorem lk_X10_230 : aw_L RX10 230 10 24 := ⟨RX10, TX10, 27, tyX10, rfl, by decide, tb_in (i := 984) (by decide +kernel) (by decide +kernel), rfl, wu_X10, tyX10_ok, nmX10⟩
theorem lk_X10_218 : aw_L RX10 218 10 25 := ⟨RX10, TX10, 27, tyX10, rfl, by decide, tb_in (i := 985) (by decide +kernel) (by decide +kernel), rfl, wu_X10, tyX10_ok, nmX10⟩
theorem lk_X10_224 : aw_L RX10 224 10 26 := ⟨RX10, TX10, 27, tyX10, rfl, by decide, tb_in (i := 986) (by decide +kernel) (by decide +kernel), rfl, wu_X10, tyX10_ok, nmX10⟩
theorem lp_X0_1 : aw_LW 0 1 .int := fun C T N h => by cases h; exact ⟨rfl, by decide +kernel⟩
theorem lp_X0_2 : aw_LW 0 2 .int := fun C T N h => by cases h; exact ⟨rfl, by decide +kernel⟩
theorem lp_X0_3 : aw_LW 0 3 .int := fun C T N h => by cases h; exact ⟨rfl, by decide +kernel⟩
theorem lp_X0_4 : aw_LW 0 4 .int := fun C T N h => by cases h; exact ⟨rfl, by decide +kernel⟩
theorem lp_X1_0 : aw_LW 1 0 .int := fun C T N h => by cases h; exact ⟨rfl, by decide +kernel⟩
theorem lp_X1_1 : aw_LW 1 1 .int := fun C T N h => by cases h; exact ⟨rfl, by decide +kernel⟩
theorem lp_X1_2 : aw_LW 1 2 .int := fun C T N h => by cases h; exact ⟨rfl, by decide +kernel⟩
theorem lp_X1_3 : aw_LW 1 3 .int := fun C T N h => by cases h; exact ⟨rfl, by decide +kernel⟩
theorem lp_X1_4 : aw_LW 1 4 .int := fun C T N h => by cases h; exact ⟨rfl, by decide +kernel⟩
theorem lp_X2_3 : aw_LW 2 3 .int := fun C T N h => by cases h; exact ⟨rfl, by decide +kernel⟩
theorem lp_X2_4 : aw_LW 2 4 .int := fun C T N h => by cases h; exact ⟨rfl, by decide +kernel⟩
theorem lp_X3_2 : aw_LW 3 2 .int := fun C T N h => by cases h; exact ⟨rfl, by decide +kernel⟩
theorem lp_X4_0 : aw_LW 4 0 .int := fun C T N h => by cases h; exact ⟨rfl, by decide +kernel⟩
theorem lp_X4_1 : aw_LW 4 1 .int := fun C T N h => by cases h; exact ⟨rfl, by decide +kernel⟩
theorem lp_X4_2 : aw_LW 4 2 .int := fun C T N h => by cases h; exact ⟨rfl, by decide +kernel⟩
theorem lp_X4_3 : aw_LW 4 3 .int := fun C T N h => by cases h; exact ⟨rfl, by decide +kernel⟩
theorem lp_X4_4 : aw_LW 4 4 .int := fun C T N h => by cases h; exact ⟨rfl, by decide +kernel⟩
theorem lp_X4_5 : aw_LW 4 5 .int := fun C T N h => by cases h; exact ⟨rfl, by decide +kernel⟩
theorem lp_X5_2 : aw_LW 5 2 .int := fun C T N h => by cases h; exact ⟨rfl, by decide +kernel⟩
theorem lp_X5_3 : aw_LW 5 3 .int := fun C T N h => by cases h; exact ⟨rfl, by decide +kernel⟩
theorem lp_X5_4 : aw_LW 5 4 .int := fun C T N h => by cases h; exact ⟨rfl, by decide +kernel⟩
theorem lp_X5_5 : aw_LW 5 5 .int := fun C T N h => by cases h; exact ⟨rfl, by decide +kernel⟩
theorem lp_X5_6 : aw_LW 5 6 .int := fun C T N h => by cases h; exact ⟨rfl, by decide +kernel⟩
theorem lp_X6_1 : aw_LW 6 1 .int := fun C T N h => by cases h; exact ⟨rfl, by decide +kernel⟩
theorem lp_X6_2 : aw_LW 6 2 .int := fun C T N h => by cases h; exact ⟨rfl, by decide +kernel⟩
theorem lp_X7_5 : aw_LW 7 5 .int := fun C T N h => by cases h; exact ⟨rfl, by decide +kernel⟩
theorem lp_X7_6 : aw_LW 7 6 .int := fun C T N h => by cases h; exact ⟨rfl, by decide +kernel⟩
theorem lp_X7_7 : aw_LW 7 7 .int := fun C T N h => by cases h; exact ⟨rfl, by decide +kernel⟩
theorem lp_X7_8 : aw_LW 7 8 .int := fun C T N h => by cases h; exact ⟨rfl, by decide +kernel⟩
theorem lp_X7_9 : aw_LW 7 9 .int := fun C T N h => by cases h; exact ⟨rfl, by decide +kernel⟩
theorem lp_X8_2 : aw_LW 8 2 .int := fun C T N h => by cases h; exact ⟨rfl, by decide +kernel⟩
theorem lp_X8_3 : aw_LW 8 3 .int := fun C T N h => by cases h; exact ⟨rfl, by decide +kernel⟩
theorem lp_X8_4 : aw_LW 8 4 .int := fun C T N h => by cases h; exact ⟨rfl, by decide +kernel⟩
theorem lp_X8_5 : aw_LW 8 5 (.object "java/lang/String") := fun C T N h => by cases h; exact ⟨rfl, by decide +kernel⟩
theorem lp_X9_2 : aw_LW 9 2 .int := fun C T N h => by cases h; exact ⟨rfl, by decide +kernel⟩
theorem lp_X10_4 : aw_LW 10 4 .boolean := fun C T N h => by cases h; exact ⟨rfl, by decide +kernel⟩
theorem lp_X10_5 : aw_LW 10 5 .int := fun C T N h => by cases h; exact ⟨rfl, by decide +kernel⟩
theorem lp_X10_7 : aw_LW 10 7 .int := fun C T N h => by cases h; exact ⟨rfl, by decide +kernel⟩
theorem lp_X10_8 : aw_LW 10 8 .int := fun C T N h => by cases h; exact ⟨rfl, by decide +kernel⟩
theorem lp_X10_9 : aw_LW 10 9 .int := fun C T N h => by cases h; exact ⟨rfl, by decide +kernel⟩
theorem lp_X10_10 : aw_LW 10 10 .int := fun C T N h => by cases h; exact ⟨rfl, by decide +kernel⟩
theorem lp_X10_11 : aw_LW 10 11 .int := fun C T N h => by cases h; exact ⟨rfl, by decide +kernel⟩
theorem lp_X10_12 : aw_LW 10 12 .int := fun C T N h => by cases h; exact ⟨rfl, by decide +kernel⟩
theorem lp_X10_13 : aw_LW 10 13 .int := fun C T N h => by cases h; exact ⟨rfl, by decide +kernel⟩
theorem lp_X10_14 : aw_LW 10 14 .boolean := fun C T N h => by cases h; exact ⟨rfl, by decide +kernel⟩
theorem lp_X10_20 : aw_LW 10 20 .int := fun C T N h => by cases h; exact ⟨rfl, by decide +kernel⟩
theorem lp_X10_21 : aw_LW 10 21 .int := fun C T N h => by cases h; exact ⟨rfl, by decide +kernel⟩
theorem lp_X10_23 : aw_LW 10 23 .int := fun C T N h => by cases h; exact ⟨rfl, by decide +kernel⟩
theorem lp_X10_24 : aw_LW 10 24 .int := fun C T N h => by cases h; exact ⟨rfl, by decide +kernel⟩
theorem lp_X10_25 : aw_LW 10 25 .int := fun C T N h => by cases h; exact ⟨rfl, by decide +kernel⟩
theorem lp_X10_26 : aw_LW 10 26 .int := fun C T N h => by cases h; exact ⟨rfl, by decide +kernel⟩
theorem wk_X9_354 : Cond.constant RX9 354 (-1000000000) ∈ tb_g := tb_in (i := 406) (by decide +kernel) (by decide +kernel)
theorem wk_J2_227 : Cond.constant RJ2 227 65536 ∈ tb_g := tb_in (i := 599) (by decide +kernel) (by decide +kernel)
theorem wk_J11_110 : Cond.constant RJ11 110 55232 ∈ tb_g := tb_in (i := 638) (by decide +kernel) (by decide +kernel)
theorem wk_J11_76 : Cond.constant RJ11 76 56320 ∈ tb_g := tb_in (i := 642) (by decide +kernel) (by decide +kernel)
theorem wk_X9_202 : Cond.constant RX9 202 99999 ∈ tb_g := tb_in (i := 677) (by decide +kernel) (by decide +kernel)
theorem wk_X7_125 : Cond.constant RX7 125 1103515245 ∈ tb_g := tb_in (i := 729) (by decide +kernel) (by decide +kernel)
theorem wk_X5_33 : Cond.constant RX5 33 1000000 ∈ tb_g := tb_in (i := 824) (by decide +kernel) (by decide +kernel)
theorem wk_X10_48 : Cond.constant RX10 48 (-1000000001) ∈ tb_g := tb_in (i := 1049) (by decide +kernel) (by decide +kernel)
theorem wk_X10_43 : Cond.constant RX10 43 (-1000000000) ∈ tb_g := tb_in (i := 1054) (by decide +kernel) (by decide +kernel)
theorem wk_X10_57 : Cond.constant RX10 57 (-1000000004) ∈ tb_g := tb_in (i := 1067) (by decide +kernel) (by decide +kernel)
theorem wk_X10_84 : Cond.constant RX10 84 (-1000000005) ∈ tb_g := tb_in (i := 1173) (by decide +kernel) (by decide +kernel)
theorem wk_X10_156 : Cond.constantLong RX10 156 255 ∈ tb_g := tb_in (i := 1182) (by decide +kernel) (by decide +kernel)
theorem wk_X10_168 : Cond.constant RX10 168 99999 ∈ tb_g := tb_in (i := 1195) (by decide +kernel) (by decide +kernel)
theorem wk_X10_169 : Cond.constant RX10 169 (-1000000003) ∈ tb_g := tb_in (i := 1196) (by decide +kernel) (by decide +kernel)
theorem wk_X10_183 : Cond.constant RX10 183 1103515245 ∈ tb_g := tb_in (i := 1228) (by decide +kernel) (by decide +kernel)
theorem wk_X10_187 : Cond.constant RX10 187 (-1000000002) ∈ tb_g := tb_in (i := 1237) (by decide +kernel) (by decide +kernel)
theorem wk_L_44 : Cond.constantLong RL 44 4294967295 ∈ tb_g := tb_in (i := 1370) (by decide +kernel) (by decide +kernel)
