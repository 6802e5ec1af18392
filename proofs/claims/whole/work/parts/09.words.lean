theorem lyX0_0 : u_lay RX0 TX0 0 ∈ BIG := (tb2 (List.mem_of_getElem? (i := 98) rfl) rfl)
theorem lyX0_1 : u_lay RX0 TX0 1 ∈ BIG := (tb2 (List.mem_of_getElem? (i := 100) rfl) rfl)
theorem lyX0_2 : u_lay RX0 TX0 2 ∈ BIG := (tb2 (List.mem_of_getElem? (i := 102) rfl) rfl)
theorem lyX0_3 : u_lay RX0 TX0 3 ∈ BIG := (tb2 (List.mem_of_getElem? (i := 104) rfl) rfl)
theorem lyX0_4 : u_lay RX0 TX0 4 ∈ BIG := (tb2 (List.mem_of_getElem? (i := 106) rfl) rfl)
theorem lyX0_5 : u_lay RX0 TX0 5 ∈ BIG := (tb2 (List.mem_of_getElem? (i := 108) rfl) rfl)
theorem lyX0_6 : u_lay RX0 TX0 6 ∈ BIG := (tb2 (List.mem_of_getElem? (i := 110) rfl) rfl)
theorem lyX0_7 : u_lay RX0 TX0 7 ∈ BIG := (tb2 (List.mem_of_getElem? (i := 112) rfl) rfl)
theorem lyX0_8 : u_lay RX0 TX0 8 ∈ BIG := (tb2 (List.mem_of_getElem? (i := 114) rfl) rfl)
theorem lyX0_9 : u_lay RX0 TX0 9 ∈ BIG := (tb2 (List.mem_of_getElem? (i := 116) rfl) rfl)
theorem lyX0_10 : u_lay RX0 TX0 10 ∈ BIG := (tb2 (List.mem_of_getElem? (i := 118) rfl) rfl)
theorem lyX0_11 : u_lay RX0 TX0 11 ∈ BIG := (tb2 (List.mem_of_getElem? (i := 120) rfl) rfl)
theorem inBX0 : ∀ w ∈ u_ws RX0 TX0 12, w ∈ BIG := fun w h => by
  obtain ⟨k, hk, rfl⟩ := List.mem_map.mp h
  have hk := List.mem_range.mp hk
  match k, hk with
  | 0, _ => exact lyX0_0
  | 1, _ => exact lyX0_1
  | 2, _ => exact lyX0_2
  | 3, _ => exact lyX0_3
  | 4, _ => exact lyX0_4
  | 5, _ => exact lyX0_5
  | 6, _ => exact lyX0_6
  | 7, _ => exact lyX0_7
  | 8, _ => exact lyX0_8
  | 9, _ => exact lyX0_9
  | 10, _ => exact lyX0_10
  | 11, _ => exact lyX0_11
  | k + 12, hk => exact absurd hk (by omega)
theorem lyX1_0 : u_lay RX1 TX1 0 ∈ BIG := (tb2 (List.mem_of_getElem? (i := 172) rfl) rfl)
theorem lyX1_1 : u_lay RX1 TX1 1 ∈ BIG := (tb2 (List.mem_of_getElem? (i := 174) rfl) rfl)
theorem lyX1_2 : u_lay RX1 TX1 2 ∈ BIG := (tb2 (List.mem_of_getElem? (i := 176) rfl) rfl)
theorem lyX1_3 : u_lay RX1 TX1 3 ∈ BIG := (tb2 (List.mem_of_getElem? (i := 178) rfl) rfl)
theorem lyX1_4 : u_lay RX1 TX1 4 ∈ BIG := (tb2 (List.mem_of_getElem? (i := 180) rfl) rfl)
theorem lyX1_5 : u_lay RX1 TX1 5 ∈ BIG := (tb2 (List.mem_of_getElem? (i := 182) rfl) rfl)
theorem lyX1_6 : u_lay RX1 TX1 6 ∈ BIG := (tb2 (List.mem_of_getElem? (i := 184) rfl) rfl)
theorem lyX1_7 : u_lay RX1 TX1 7 ∈ BIG := (tb2 (List.mem_of_getElem? (i := 186) rfl) rfl)
theorem inBX1 : ∀ w ∈ u_ws RX1 TX1 8, w ∈ BIG := fun w h => by
  obtain ⟨k, hk, rfl⟩ := List.mem_map.mp h
  have hk := List.mem_range.mp hk
  match k, hk with
  | 0, _ => exact lyX1_0
  | 1, _ => exact lyX1_1
  | 2, _ => exact lyX1_2
  | 3, _ => exact lyX1_3
  | 4, _ => exact lyX1_4
  | 5, _ => exact lyX1_5
  | 6, _ => exact lyX1_6
  | 7, _ => exact lyX1_7
  | k + 8, hk => exact absurd hk (by omega)
theorem lyX2_0 : u_lay RX2 TX2 0 ∈ BIG := (tb2 (List.mem_of_getElem? (i := 204) rfl) rfl)
theorem lyX2_1 : u_lay RX2 TX2 1 ∈ BIG := (tb2 (List.mem_of_getElem? (i := 206) rfl) rfl)
theorem lyX2_2 : u_lay RX2 TX2 2 ∈ BIG := (tb2 (List.mem_of_getElem? (i := 208) rfl) rfl)
theorem lyX2_3 : u_lay RX2 TX2 3 ∈ BIG := (tb2 (List.mem_of_getElem? (i := 210) rfl) rfl)
theorem lyX2_4 : u_lay RX2 TX2 4 ∈ BIG := (tb2 (List.mem_of_getElem? (i := 212) rfl) rfl)
theorem inBX2 : ∀ w ∈ u_ws RX2 TX2 5, w ∈ BIG := fun w h => by
  obtain ⟨k, hk, rfl⟩ := List.mem_map.mp h
  have hk := List.mem_range.mp hk
  match k, hk with
  | 0, _ => exact lyX2_0
  | 1, _ => exact lyX2_1
  | 2, _ => exact lyX2_2
  | 3, _ => exact lyX2_3
  | 4, _ => exact lyX2_4
  | k + 5, hk => exact absurd hk (by omega)
theorem lyX3_0 : u_lay RX3 TX3 0 ∈ BIG := (tb1 (List.mem_of_getElem? (i := 201) rfl) rfl)
theorem lyX3_1 : u_lay RX3 TX3 1 ∈ BIG := (tb1 (List.mem_of_getElem? (i := 203) rfl) rfl)
theorem lyX3_2 : u_lay RX3 TX3 2 ∈ BIG := (tb1 (List.mem_of_getElem? (i := 205) rfl) rfl)
theorem lyX3_3 : u_lay RX3 TX3 3 ∈ BIG := (tb1 (List.mem_of_getElem? (i := 207) rfl) rfl)
theorem lyX3_4 : u_lay RX3 TX3 4 ∈ BIG := (tb1 (List.mem_of_getElem? (i := 209) rfl) rfl)
theorem lyX3_5 : u_lay RX3 TX3 5 ∈ BIG := (tb1 (List.mem_of_getElem? (i := 211) rfl) rfl)
theorem lyX3_6 : u_lay RX3 TX3 6 ∈ BIG := (tb1 (List.mem_of_getElem? (i := 213) rfl) rfl)
theorem lyX3_7 : u_lay RX3 TX3 7 ∈ BIG := (tb1 (List.mem_of_getElem? (i := 215) rfl) rfl)
theorem inBX3 : ∀ w ∈ u_ws RX3 TX3 8, w ∈ BIG := fun w h => by
  obtain ⟨k, hk, rfl⟩ := List.mem_map.mp h
  have hk := List.mem_range.mp hk
  match k, hk with
  | 0, _ => exact lyX3_0
  | 1, _ => exact lyX3_1
  | 2, _ => exact lyX3_2
  | 3, _ => exact lyX3_3
  | 4, _ => exact lyX3_4
  | 5, _ => exact lyX3_5
  | 6, _ => exact lyX3_6
  | 7, _ => exact lyX3_7
  | k + 8, hk => exact absurd hk (by omega)
theorem lyX4_0 : u_lay RX4 TX4 0 ∈ BIG := (tb2 (List.mem_of_getElem? (i := 229) rfl) rfl)
theorem lyX4_1 : u_lay RX4 TX4 1 ∈ BIG := (tb2 (List.mem_of_getElem? (i := 231) rfl) rfl)
theorem lyX4_2 : u_lay RX4 TX4 2 ∈ BIG := (tb2 (List.mem_of_getElem? (i := 233) rfl) rfl)
theorem lyX4_3 : u_lay RX4 TX4 3 ∈ BIG := (tb2 (List.mem_of_getElem? (i := 235) rfl) rfl)
theorem lyX4_4 : u_lay RX4 TX4 4 ∈ BIG := (tb2 (List.mem_of_getElem? (i := 237) rfl) rfl)
theorem inBX4 : ∀ w ∈ u_ws RX4 TX4 5, w ∈ BIG := fun w h => by
  obtain ⟨k, hk, rfl⟩ := List.mem_map.mp h
  have hk := List.mem_range.mp hk
  match k, hk with
  | 0, _ => exact lyX4_0
  | 1, _ => exact lyX4_1
  | 2, _ => exact lyX4_2
  | 3, _ => exact lyX4_3
  | 4, _ => exact lyX4_4
  | k + 5, hk => exact absurd hk (by omega)
theorem lyX5_0 : u_lay RX5 TX5 0 ∈ BIG := (tb2 (List.mem_of_getElem? (i := 133) rfl) rfl)
theorem lyX5_1 : u_lay RX5 TX5 1 ∈ BIG := (tb2 (List.mem_of_getElem? (i := 135) rfl) rfl)
theorem lyX5_2 : u_lay RX5 TX5 2 ∈ BIG := (tb2 (List.mem_of_getElem? (i := 137) rfl) rfl)
theorem lyX5_3 : u_lay RX5 TX5 3 ∈ BIG := (tb2 (List.mem_of_getElem? (i := 139) rfl) rfl)
theorem inBX5 : ∀ w ∈ u_ws RX5 TX5 4, w ∈ BIG := fun w h => by
  obtain ⟨k, hk, rfl⟩ := List.mem_map.mp h
  have hk := List.mem_range.mp hk
  match k, hk with
  | 0, _ => exact lyX5_0
  | 1, _ => exact lyX5_1
  | 2, _ => exact lyX5_2
  | 3, _ => exact lyX5_3
  | k + 4, hk => exact absurd hk (by omega)
theorem lyX6_0 : u_lay RX6 TX6 0 ∈ BIG := (tb2 (List.mem_of_getElem? (i := 20) rfl) rfl)
theorem lyX6_1 : u_lay RX6 TX6 1 ∈ BIG := (tb2 (List.mem_of_getElem? (i := 22) rfl) rfl)
theorem lyX6_2 : u_lay RX6 TX6 2 ∈ BIG := (tb2 (List.mem_of_getElem? (i := 24) rfl) rfl)
theorem lyX6_3 : u_lay RX6 TX6 3 ∈ BIG := (tb2 (List.mem_of_getElem? (i := 26) rfl) rfl)
theorem lyX6_4 : u_lay RX6 TX6 4 ∈ BIG := (tb2 (List.mem_of_getElem? (i := 28) rfl) rfl)
theorem lyX6_5 : u_lay RX6 TX6 5 ∈ BIG := (tb2 (List.mem_of_getElem? (i := 30) rfl) rfl)
theorem lyX6_6 : u_lay RX6 TX6 6 ∈ BIG := (tb2 (List.mem_of_getElem? (i := 32) rfl) rfl)
theorem lyX6_7 : u_lay RX6 TX6 7 ∈ BIG := (tb2 (List.mem_of_getElem? (i := 34) rfl) rfl)
theorem lyX6_8 : u_lay RX6 TX6 8 ∈ BIG := (tb2 (List.mem_of_getElem? (i := 36) rfl) rfl)
theorem lyX6_9 : u_lay RX6 TX6 9 ∈ BIG := (tb2 (List.mem_of_getElem? (i := 38) rfl) rfl)
theorem lyX6_10 : u_lay RX6 TX6 10 ∈ BIG := (tb2 (List.mem_of_getElem? (i := 40) rfl) rfl)
theorem inBX6 : ∀ w ∈ u_ws RX6 TX6 11, w ∈ BIG := fun w h => by
  obtain ⟨k, hk, rfl⟩ := List.mem_map.mp h
  have hk := List.mem_range.mp hk
  match k, hk with
  | 0, _ => exact lyX6_0
  | 1, _ => exact lyX6_1
  | 2, _ => exact lyX6_2
  | 3, _ => exact lyX6_3
  | 4, _ => exact lyX6_4
  | 5, _ => exact lyX6_5
  | 6, _ => exact lyX6_6
  | 7, _ => exact lyX6_7
  | 8, _ => exact lyX6_8
  | 9, _ => exact lyX6_9
  | 10, _ => exact lyX6_10
  | k + 11, hk => exact absurd hk (by omega)
theorem lyX7_0 : u_lay RX7 TX7 0 ∈ BIG := (tb2 (List.mem_of_getElem? (i := 151) rfl) rfl)
theorem lyX7_1 : u_lay RX7 TX7 1 ∈ BIG := (tb2 (List.mem_of_getElem? (i := 153) rfl) rfl)
theorem inBX7 : ∀ w ∈ u_ws RX7 TX7 2, w ∈ BIG := fun w h => by
  obtain ⟨k, hk, rfl⟩ := List.mem_map.mp h
  have hk := List.mem_range.mp hk
  match k, hk with
  | 0, _ => exact lyX7_0
  | 1, _ => exact lyX7_1
  | k + 2, hk => exact absurd hk (by omega)
theorem lyX8_0 : u_lay RX8 TX8 0 ∈ BIG := (tb1 (List.mem_of_getElem? (i := 137) rfl) rfl)
theorem lyX8_1 : u_lay RX8 TX8 1 ∈ BIG := (tb1 (List.mem_of_getElem? (i := 139) rfl) rfl)
theorem lyX8_2 : u_lay RX8 TX8 2 ∈ BIG := (tb1 (List.mem_of_getElem? (i := 141) rfl) rfl)
theorem lyX8_3 : u_lay RX8 TX8 3 ∈ BIG := (tb1 (List.mem_of_getElem? (i := 143) rfl) rfl)
theorem lyX8_4 : u_lay RX8 TX8 4 ∈ BIG := (tb1 (List.mem_of_getElem? (i := 145) rfl) rfl)
theorem lyX8_5 : u_lay RX8 TX8 5 ∈ BIG := (tb1 (List.mem_of_getElem? (i := 147) rfl) rfl)
theorem lyX8_6 : u_lay RX8 TX8 6 ∈ BIG := (tb1 (List.mem_of_getElem? (i := 149) rfl) rfl)
theorem lyX8_7 : u_lay RX8 TX8 7 ∈ BIG := (tb1 (List.mem_of_getElem? (i := 151) rfl) rfl)
theorem lyX8_8 : u_lay RX8 TX8 8 ∈ BIG := (tb1 (List.mem_of_getElem? (i := 153) rfl) rfl)
theorem inBX8 : ∀ w ∈ u_ws RX8 TX8 9, w ∈ BIG := fun w h => by
  obtain ⟨k, hk, rfl⟩ := List.mem_map.mp h
  have hk := List.mem_range.mp hk
  match k, hk with
  | 0, _ => exact lyX8_0
  | 1, _ => exact lyX8_1
  | 2, _ => exact lyX8_2
  | 3, _ => exact lyX8_3
  | 4, _ => exact lyX8_4
  | 5, _ => exact lyX8_5
  | 6, _ => exact lyX8_6
  | 7, _ => exact lyX8_7
  | 8, _ => exact lyX8_8
  | k + 9, hk => exact absurd hk (by omega)
theorem lyX9_0 : u_lay RX9 TX9 0 ∈ BIG := (tb1 (List.mem_of_getElem? (i := 176) rfl) rfl)
theorem lyX9_1 : u_lay RX9 TX9 1 ∈ BIG := (tb1 (List.mem_of_getElem? (i := 178) rfl) rfl)
theorem lyX9_2 : u_lay RX9 TX9 2 ∈ BIG := (tb1 (List.mem_of_getElem? (i := 180) rfl) rfl)
theorem inBX9 : ∀ w ∈ u_ws RX9 TX9 3, w ∈ BIG := fun w h => by
  obtain ⟨k, hk, rfl⟩ := List.mem_map.mp h
  have hk := List.mem_range.mp hk
  match k, hk with
  | 0, _ => exact lyX9_0
  | 1, _ => exact lyX9_1
  | 2, _ => exact lyX9_2
  | k + 3, hk => exact absurd hk (by omega)
theorem lyX10_0 : u_lay RX10 TX10 0 ∈ BIG := (tb1 (List.mem_of_getElem? (i := 108) rfl) rfl)
theorem lyX10_1 : u_lay RX10 TX10 1 ∈ BIG := (tb1 (List.mem_of_getElem? (i := 110) rfl) rfl)
theorem lyX10_2 : u_lay RX10 TX10 2 ∈ BIG := (tb1 (List.mem_of_getElem? (i := 112) rfl) rfl)
theorem lyX10_3 : u_lay RX10 TX10 3 ∈ BIG := (tb1 (List.mem_of_getElem? (i := 114) rfl) rfl)
theorem lyX10_4 : u_lay RX10 TX10 4 ∈ BIG := (tb1 (List.mem_of_getElem? (i := 116) rfl) rfl)
theorem lyX10_5 : u_lay RX10 TX10 5 ∈ BIG := (tb1 (List.mem_of_getElem? (i := 118) rfl) rfl)
theorem lyX10_6 : u_lay RX10 TX10 6 ∈ BIG := (tb1 (List.mem_of_getElem? (i := 120) rfl) rfl)
theorem inBX10 : ∀ w ∈ u_ws RX10 TX10 7, w ∈ BIG := fun w h => by
  obtain ⟨k, hk, rfl⟩ := List.mem_map.mp h
  have hk := List.mem_range.mp hk
  match k, hk with
  | 0, _ => exact lyX10_0
  | 1, _ => exact lyX10_1
  | 2, _ => exact lyX10_2
  | 3, _ => exact lyX10_3
  | 4, _ => exact lyX10_4
  | 5, _ => exact lyX10_5
  | 6, _ => exact lyX10_6
  | k + 7, hk => exact absurd hk (by omega)
theorem lyX11_0 : u_lay RX11 TX11 0 ∈ BIG := (tb3 (List.mem_of_getElem? (i := 30) rfl) rfl)
theorem lyX11_1 : u_lay RX11 TX11 1 ∈ BIG := (tb3 (List.mem_of_getElem? (i := 32) rfl) rfl)
theorem lyX11_2 : u_lay RX11 TX11 2 ∈ BIG := (tb3 (List.mem_of_getElem? (i := 34) rfl) rfl)
theorem lyX11_3 : u_lay RX11 TX11 3 ∈ BIG := (tb3 (List.mem_of_getElem? (i := 36) rfl) rfl)
theorem lyX11_4 : u_lay RX11 TX11 4 ∈ BIG := (tb3 (List.mem_of_getElem? (i := 38) rfl) rfl)
theorem lyX11_5 : u_lay RX11 TX11 5 ∈ BIG := (tb3 (List.mem_of_getElem? (i := 40) rfl) rfl)
theorem lyX11_6 : u_lay RX11 TX11 6 ∈ BIG := (tb3 (List.mem_of_getElem? (i := 42) rfl) rfl)
theorem lyX11_7 : u_lay RX11 TX11 7 ∈ BIG := (tb3 (List.mem_of_getElem? (i := 44) rfl) rfl)
theorem lyX11_8 : u_lay RX11 TX11 8 ∈ BIG := (tb3 (List.mem_of_getElem? (i := 46) rfl) rfl)
theorem lyX11_9 : u_lay RX11 TX11 9 ∈ BIG := (tb3 (List.mem_of_getElem? (i := 48) rfl) rfl)
theorem lyX11_10 : u_lay RX11 TX11 10 ∈ BIG := (tb3 (List.mem_of_getElem? (i := 50) rfl) rfl)
theorem lyX11_11 : u_lay RX11 TX11 11 ∈ BIG := (tb3 (List.mem_of_getElem? (i := 52) rfl) rfl)
theorem lyX11_12 : u_lay RX11 TX11 12 ∈ BIG := (tb3 (List.mem_of_getElem? (i := 54) rfl) rfl)
theorem lyX11_13 : u_lay RX11 TX11 13 ∈ BIG := (tb3 (List.mem_of_getElem? (i := 56) rfl) rfl)
theorem inBX11 : ∀ w ∈ u_ws RX11 TX11 14, w ∈ BIG := fun w h => by
  obtain ⟨k, hk, rfl⟩ := List.mem_map.mp h
  have hk := List.mem_range.mp hk
  match k, hk with
  | 0, _ => exact lyX11_0
  | 1, _ => exact lyX11_1
  | 2, _ => exact lyX11_2
  | 3, _ => exact lyX11_3
  | 4, _ => exact lyX11_4
  | 5, _ => exact lyX11_5
  | 6, _ => exact lyX11_6
  | 7, _ => exact lyX11_7
  | 8, _ => exact lyX11_8
  | 9, _ => exact lyX11_9
  | 10, _ => exact lyX11_10
  | 11, _ => exact lyX11_11
  | 12, _ => exact lyX11_12
  | 13, _ => exact lyX11_13
  | k + 14, hk => exact absurd hk (by omega)
theorem lyX12_0 : u_lay RX12 TX12 0 ∈ BIG := (tb6 (List.mem_of_getElem? (i := 99) rfl) rfl)
theorem lyX12_1 : u_lay RX12 TX12 1 ∈ BIG := (tb6 (List.mem_of_getElem? (i := 101) rfl) rfl)
theorem lyX12_2 : u_lay RX12 TX12 2 ∈ BIG := (tb6 (List.mem_of_getElem? (i := 103) rfl) rfl)
theorem lyX12_3 : u_lay RX12 TX12 3 ∈ BIG := (tb6 (List.mem_of_getElem? (i := 105) rfl) rfl)
theorem lyX12_4 : u_lay RX12 TX12 4 ∈ BIG := (tb6 (List.mem_of_getElem? (i := 107) rfl) rfl)
theorem lyX12_5 : u_lay RX12 TX12 5 ∈ BIG := (tb6 (List.mem_of_getElem? (i := 109) rfl) rfl)
theorem lyX12_6 : u_lay RX12 TX12 6 ∈ BIG := (tb6 (List.mem_of_getElem? (i := 111) rfl) rfl)
theorem lyX12_7 : u_lay RX12 TX12 7 ∈ BIG := (tb6 (List.mem_of_getElem? (i := 113) rfl) rfl)
theorem lyX12_8 : u_lay RX12 TX12 8 ∈ BIG := (tb6 (List.mem_of_getElem? (i := 115) rfl) rfl)
theorem lyX12_9 : u_lay RX12 TX12 9 ∈ BIG := (tb6 (List.mem_of_getElem? (i := 117) rfl) rfl)
theorem lyX12_10 : u_lay RX12 TX12 10 ∈ BIG := (tb6 (List.mem_of_getElem? (i := 119) rfl) rfl)
theorem lyX12_11 : u_lay RX12 TX12 11 ∈ BIG := (tb6 (List.mem_of_getElem? (i := 121) rfl) rfl)
theorem lyX12_12 : u_lay RX12 TX12 12 ∈ BIG := (tb6 (List.mem_of_getElem? (i := 123) rfl) rfl)
theorem lyX12_13 : u_lay RX12 TX12 13 ∈ BIG := (tb6 (List.mem_of_getElem? (i := 125) rfl) rfl)
theorem lyX12_14 : u_lay RX12 TX12 14 ∈ BIG := (tb6 (List.mem_of_getElem? (i := 127) rfl) rfl)
theorem lyX12_15 : u_lay RX12 TX12 15 ∈ BIG := (tb6 (List.mem_of_getElem? (i := 129) rfl) rfl)
theorem lyX12_16 : u_lay RX12 TX12 16 ∈ BIG := (tb6 (List.mem_of_getElem? (i := 131) rfl) rfl)
theorem lyX12_17 : u_lay RX12 TX12 17 ∈ BIG := (tb6 (List.mem_of_getElem? (i := 133) rfl) rfl)
theorem lyX12_18 : u_lay RX12 TX12 18 ∈ BIG := (tb6 (List.mem_of_getElem? (i := 135) rfl) rfl)
theorem lyX12_19 : u_lay RX12 TX12 19 ∈ BIG := (tb6 (List.mem_of_getElem? (i := 137) rfl) rfl)
theorem lyX12_20 : u_lay RX12 TX12 20 ∈ BIG := (tb6 (List.mem_of_getElem? (i := 139) rfl) rfl)
theorem lyX12_21 : u_lay RX12 TX12 21 ∈ BIG := (tb6 (List.mem_of_getElem? (i := 141) rfl) rfl)
theorem lyX12_22 : u_lay RX12 TX12 22 ∈ BIG := (tb6 (List.mem_of_getElem? (i := 143) rfl) rfl)
theorem lyX12_23 : u_lay RX12 TX12 23 ∈ BIG := (tb6 (List.mem_of_getElem? (i := 145) rfl) rfl)
theorem lyX12_24 : u_lay RX12 TX12 24 ∈ BIG := (tb6 (List.mem_of_getElem? (i := 147) rfl) rfl)
theorem lyX12_25 : u_lay RX12 TX12 25 ∈ BIG := (tb6 (List.mem_of_getElem? (i := 149) rfl) rfl)
theorem lyX12_26 : u_lay RX12 TX12 26 ∈ BIG := (tb6 (List.mem_of_getElem? (i := 151) rfl) rfl)
theorem lyX12_27 : u_lay RX12 TX12 27 ∈ BIG := (tb6 (List.mem_of_getElem? (i := 153) rfl) rfl)
theorem lyX12_28 : u_lay RX12 TX12 28 ∈ BIG := (tb6 (List.mem_of_getElem? (i := 155) rfl) rfl)
theorem lyX12_29 : u_lay RX12 TX12 29 ∈ BIG := (tb6 (List.mem_of_getElem? (i := 157) rfl) rfl)
theorem lyX12_30 : u_lay RX12 TX12 30 ∈ BIG := (tb6 (List.mem_of_getElem? (i := 159) rfl) rfl)
theorem lyX12_31 : u_lay RX12 TX12 31 ∈ BIG := (tb6 (List.mem_of_getElem? (i := 161) rfl) rfl)
theorem lyX12_32 : u_lay RX12 TX12 32 ∈ BIG := (tb6 (List.mem_of_getElem? (i := 163) rfl) rfl)
theorem lyX12_33 : u_lay RX12 TX12 33 ∈ BIG := (tb6 (List.mem_of_getElem? (i := 165) rfl) rfl)
theorem lyX12_34 : u_lay RX12 TX12 34 ∈ BIG := (tb6 (List.mem_of_getElem? (i := 167) rfl) rfl)
theorem lyX12_35 : u_lay RX12 TX12 35 ∈ BIG := (tb6 (List.mem_of_getElem? (i := 169) rfl) rfl)
theorem lyX12_36 : u_lay RX12 TX12 36 ∈ BIG := (tb6 (List.mem_of_getElem? (i := 171) rfl) rfl)
theorem lyX12_37 : u_lay RX12 TX12 37 ∈ BIG := (tb6 (List.mem_of_getElem? (i := 173) rfl) rfl)
theorem lyX12_38 : u_lay RX12 TX12 38 ∈ BIG := (tb6 (List.mem_of_getElem? (i := 175) rfl) rfl)
theorem lyX12_39 : u_lay RX12 TX12 39 ∈ BIG := (tb6 (List.mem_of_getElem? (i := 177) rfl) rfl)
theorem lyX12_40 : u_lay RX12 TX12 40 ∈ BIG := (tb6 (List.mem_of_getElem? (i := 179) rfl) rfl)
theorem lyX12_41 : u_lay RX12 TX12 41 ∈ BIG := (tb6 (List.mem_of_getElem? (i := 181) rfl) rfl)
theorem lyX12_42 : u_lay RX12 TX12 42 ∈ BIG := (tb6 (List.mem_of_getElem? (i := 183) rfl) rfl)
theorem lyX12_43 : u_lay RX12 TX12 43 ∈ BIG := (tb6 (List.mem_of_getElem? (i := 185) rfl) rfl)
theorem lyX12_44 : u_lay RX12 TX12 44 ∈ BIG := (tb6 (List.mem_of_getElem? (i := 187) rfl) rfl)
theorem lyX12_45 : u_lay RX12 TX12 45 ∈ BIG := (tb6 (List.mem_of_getElem? (i := 189) rfl) rfl)
theorem lyX12_46 : u_lay RX12 TX12 46 ∈ BIG := (tb6 (List.mem_of_getElem? (i := 191) rfl) rfl)
theorem lyX12_47 : u_lay RX12 TX12 47 ∈ BIG := (tb6 (List.mem_of_getElem? (i := 193) rfl) rfl)
theorem lyX12_48 : u_lay RX12 TX12 48 ∈ BIG := (tb6 (List.mem_of_getElem? (i := 195) rfl) rfl)
theorem lyX12_49 : u_lay RX12 TX12 49 ∈ BIG := (tb6 (List.mem_of_getElem? (i := 197) rfl) rfl)
theorem lyX12_50 : u_lay RX12 TX12 50 ∈ BIG := (tb6 (List.mem_of_getElem? (i := 199) rfl) rfl)
theorem lyX12_51 : u_lay RX12 TX12 51 ∈ BIG := (tb6 (List.mem_of_getElem? (i := 201) rfl) rfl)
theorem lyX12_52 : u_lay RX12 TX12 52 ∈ BIG := (tb6 (List.mem_of_getElem? (i := 203) rfl) rfl)
theorem lyX12_53 : u_lay RX12 TX12 53 ∈ BIG := (tb6 (List.mem_of_getElem? (i := 205) rfl) rfl)
theorem lyX12_54 : u_lay RX12 TX12 54 ∈ BIG := (tb6 (List.mem_of_getElem? (i := 207) rfl) rfl)
theorem lyX12_55 : u_lay RX12 TX12 55 ∈ BIG := (tb6 (List.mem_of_getElem? (i := 209) rfl) rfl)
theorem lyX12_56 : u_lay RX12 TX12 56 ∈ BIG := (tb6 (List.mem_of_getElem? (i := 211) rfl) rfl)
theorem lyX12_57 : u_lay RX12 TX12 57 ∈ BIG := (tb6 (List.mem_of_getElem? (i := 213) rfl) rfl)
theorem lyX12_58 : u_lay RX12 TX12 58 ∈ BIG := (tb6 (List.mem_of_getElem? (i := 215) rfl) rfl)
theorem lyX12_59 : u_lay RX12 TX12 59 ∈ BIG := (tb6 (List.mem_of_getElem? (i := 217) rfl) rfl)
theorem lyX12_60 : u_lay RX12 TX12 60 ∈ BIG := (tb6 (List.mem_of_getElem? (i := 219) rfl) rfl)
theorem lyX12_61 : u_lay RX12 TX12 61 ∈ BIG := (tb6 (List.mem_of_getElem? (i := 221) rfl) rfl)
theorem lyX12_62 : u_lay RX12 TX12 62 ∈ BIG := (tb6 (List.mem_of_getElem? (i := 223) rfl) rfl)
theorem lyX12_63 : u_lay RX12 TX12 63 ∈ BIG := (tb6 (List.mem_of_getElem? (i := 225) rfl) rfl)
theorem lyX12_64 : u_lay RX12 TX12 64 ∈ BIG := (tb6 (List.mem_of_getElem? (i := 227) rfl) rfl)
theorem lyX12_65 : u_lay RX12 TX12 65 ∈ BIG := (tb6 (List.mem_of_getElem? (i := 229) rfl) rfl)
theorem lyX12_66 : u_lay RX12 TX12 66 ∈ BIG := (tb6 (List.mem_of_getElem? (i := 231) rfl) rfl)
theorem inBX12 : ∀ w ∈ u_ws RX12 TX12 67, w ∈ BIG := fun w h => by
  obtain ⟨k, hk, rfl⟩ := List.mem_map.mp h
  have hk := List.mem_range.mp hk
  match k, hk with
  | 0, _ => exact lyX12_0
  | 1, _ => exact lyX12_1
  | 2, _ => exact lyX12_2
  | 3, _ => exact lyX12_3
  | 4, _ => exact lyX12_4
  | 5, _ => exact lyX12_5
  | 6, _ => exact lyX12_6
  | 7, _ => exact lyX12_7
  | 8, _ => exact lyX12_8
  | 9, _ => exact lyX12_9
  | 10, _ => exact lyX12_10
  | 11, _ => exact lyX12_11
  | 12, _ => exact lyX12_12
  | 13, _ => exact lyX12_13
  | 14, _ => exact lyX12_14
  | 15, _ => exact lyX12_15
  | 16, _ => exact lyX12_16
  | 17, _ => exact lyX12_17
  | 18, _ => exact lyX12_18
  | 19, _ => exact lyX12_19
  | 20, _ => exact lyX12_20
  | 21, _ => exact lyX12_21
  | 22, _ => exact lyX12_22
  | 23, _ => exact lyX12_23
  | 24, _ => exact lyX12_24
  | 25, _ => exact lyX12_25
  | 26, _ => exact lyX12_26
  | 27, _ => exact lyX12_27
  | 28, _ => exact lyX12_28
  | 29, _ => exact lyX12_29
  | 30, _ => exact lyX12_30
  | 31, _ => exact lyX12_31
  | 32, _ => exact lyX12_32
  | 33, _ => exact lyX12_33
  | 34, _ => exact lyX12_34
  | 35, _ => exact lyX12_35
  | 36, _ => exact lyX12_36
  | 37, _ => exact lyX12_37
  | 38, _ => exact lyX12_38
  | 39, _ => exact lyX12_39
  | 40, _ => exact lyX12_40
  | 41, _ => exact lyX12_41
  | 42, _ => exact lyX12_42
  | 43, _ => exact lyX12_43
  | 44, _ => exact lyX12_44
  | 45, _ => exact lyX12_45
  | 46, _ => exact lyX12_46
  | 47, _ => exact lyX12_47
  | 48, _ => exact lyX12_48
  | 49, _ => exact lyX12_49
  | 50, _ => exact lyX12_50
  | 51, _ => exact lyX12_51
  | 52, _ => exact lyX12_52
  | 53, _ => exact lyX12_53
  | 54, _ => exact lyX12_54
  | 55, _ => exact lyX12_55
  | 56, _ => exact lyX12_56
  | 57, _ => exact lyX12_57
  | 58, _ => exact lyX12_58
  | 59, _ => exact lyX12_59
  | 60, _ => exact lyX12_60
  | 61, _ => exact lyX12_61
  | 62, _ => exact lyX12_62
  | 63, _ => exact lyX12_63
  | 64, _ => exact lyX12_64
  | 65, _ => exact lyX12_65
  | 66, _ => exact lyX12_66
  | k + 67, hk => exact absurd hk (by omega)
theorem lkX0_9 : Cond.fieldLink RX0 9 (TX0 0).1 (TX0 0).2.1 (TX0 0).2.2.1 ∈ BIG := (tb2 (List.mem_of_getElem? (i := 49) rfl) rfl)
theorem fdX0_9 : FD RX0 9 0 0 2 := ⟨RX0, TX0, 12, rfl, by decide, rfl, rfl, inBX0, lkX0_9⟩
theorem lkX0_15 : Cond.fieldLink RX0 15 (TX0 1).1 (TX0 1).2.1 (TX0 1).2.2.1 ∈ BIG := (tb2 (List.mem_of_getElem? (i := 54) rfl) rfl)
theorem fdX0_15 : FD RX0 15 0 1 2 := ⟨RX0, TX0, 12, rfl, by decide, rfl, rfl, inBX0, lkX0_15⟩
theorem lkX0_18 : Cond.fieldLink RX0 18 (TX0 2).1 (TX0 2).2.1 (TX0 2).2.2.1 ∈ BIG := (tb2 (List.mem_of_getElem? (i := 60) rfl) rfl)
theorem fdX0_18 : FD RX0 18 0 2 2 := ⟨RX0, TX0, 12, rfl, by decide, rfl, rfl, inBX0, lkX0_18⟩
theorem lkX0_21 : Cond.fieldLink RX0 21 (TX0 3).1 (TX0 3).2.1 (TX0 3).2.2.1 ∈ BIG := (tb2 (List.mem_of_getElem? (i := 62) rfl) rfl)
theorem fdX0_21 : FD RX0 21 0 3 2 := ⟨RX0, TX0, 12, rfl, by decide, rfl, rfl, inBX0, lkX0_21⟩
theorem lkX0_24 : Cond.fieldLink RX0 24 (TX0 4).1 (TX0 4).2.1 (TX0 4).2.2.1 ∈ BIG := (tb2 (List.mem_of_getElem? (i := 67) rfl) rfl)
theorem fdX0_24 : FD RX0 24 0 4 2 := ⟨RX0, TX0, 12, rfl, by decide, rfl, rfl, inBX0, lkX0_24⟩
theorem lkX0_27 : Cond.fieldLink RX0 27 (TX0 5).1 (TX0 5).2.1 (TX0 5).2.2.1 ∈ BIG := (tb2 (List.mem_of_getElem? (i := 72) rfl) rfl)
theorem fdX0_27 : FD RX0 27 0 5 2 := ⟨RX0, TX0, 12, rfl, by decide, rfl, rfl, inBX0, lkX0_27⟩
theorem lkX0_30 : Cond.fieldLink RX0 30 (TX0 6).1 (TX0 6).2.1 (TX0 6).2.2.1 ∈ BIG := (tb2 (List.mem_of_getElem? (i := 77) rfl) rfl)
theorem fdX0_30 : FD RX0 30 0 6 2 := ⟨RX0, TX0, 12, rfl, by decide, rfl, rfl, inBX0, lkX0_30⟩
theorem lkX0_33 : Cond.fieldLink RX0 33 (TX0 7).1 (TX0 7).2.1 (TX0 7).2.2.1 ∈ BIG := (tb2 (List.mem_of_getElem? (i := 80) rfl) rfl)
theorem fdX0_33 : FD RX0 33 0 7 2 := ⟨RX0, TX0, 12, rfl, by decide, rfl, rfl, inBX0, lkX0_33⟩
theorem lkX0_36 : Cond.fieldLink RX0 36 (TX0 8).1 (TX0 8).2.1 (TX0 8).2.2.1 ∈ BIG := (tb2 (List.mem_of_getElem? (i := 84) rfl) rfl)
theorem fdX0_36 : FD RX0 36 0 8 2 := ⟨RX0, TX0, 12, rfl, by decide, rfl, rfl, inBX0, lkX0_36⟩
theorem lkX0_45 : Cond.fieldLink RX0 45 (TX6 1).1 (TX6 1).2.1 (TX6 1).2.2.1 ∈ BIG := (tb1 (List.mem_of_getElem? (i := 227) rfl) rfl)
theorem fdX0_45 : FD RX0 45 6 1 2 := ⟨RX6, TX6, 11, rfl, by decide, rfl, rfl, inBX6, lkX0_45⟩
theorem lkX0_58 : Cond.fieldLink RX0 58 (TX6 0).1 (TX6 0).2.1 (TX6 0).2.2.1 ∈ BIG := (tb1 (List.mem_of_getElem? (i := 221) rfl) rfl)
theorem fdX0_58 : FD RX0 58 6 0 2 := ⟨RX6, TX6, 11, rfl, by decide, rfl, rfl, inBX6, lkX0_58⟩
theorem lkX0_61 : Cond.fieldLink RX0 61 (TX0 9).1 (TX0 9).2.1 (TX0 9).2.2.1 ∈ BIG := (tb2 (List.mem_of_getElem? (i := 88) rfl) rfl)
theorem fdX0_61 : FD RX0 61 0 9 0 := ⟨RX0, TX0, 12, rfl, by decide, rfl, rfl, inBX0, lkX0_61⟩
theorem fpX0_61 : FP RX0 61 0 9 0 .int := ⟨RX0, TX0, 12, tyX0, rfl, by decide, rfl, rfl, inBX0, lkX0_61, tyX0_ok, nmX0, rfl, rfl⟩
theorem lkX0_65 : Cond.fieldLink RX0 65 (TX0 10).1 (TX0 10).2.1 (TX0 10).2.2.1 ∈ BIG := (tb2 (List.mem_of_getElem? (i := 93) rfl) rfl)
theorem fdX0_65 : FD RX0 65 0 10 0 := ⟨RX0, TX0, 12, rfl, by decide, rfl, rfl, inBX0, lkX0_65⟩
theorem fpX0_65 : FP RX0 65 0 10 0 .int := ⟨RX0, TX0, 12, tyX0, rfl, by decide, rfl, rfl, inBX0, lkX0_65, tyX0_ok, nmX0, rfl, rfl⟩
theorem lkX0_68 : Cond.fieldLink RX0 68 (TX6 8).1 (TX6 8).2.1 (TX6 8).2.2.1 ∈ BIG := (tb2 (List.mem_of_getElem? (i := 13) rfl) rfl)
theorem fdX0_68 : FD RX0 68 6 8 0 := ⟨RX6, TX6, 11, rfl, by decide, rfl, rfl, inBX6, lkX0_68⟩
theorem fpX0_68 : FP RX0 68 6 8 0 .int := ⟨RX6, TX6, 11, tyX6, rfl, by decide, rfl, rfl, inBX6, lkX0_68, tyX6_ok, nmX6, rfl, rfl⟩
theorem lkX0_71 : Cond.fieldLink RX0 71 (TX0 11).1 (TX0 11).2.1 (TX0 11).2.2.1 ∈ BIG := (tb2 (List.mem_of_getElem? (i := 96) rfl) rfl)
theorem fdX0_71 : FD RX0 71 0 11 1 := ⟨RX0, TX0, 12, rfl, by decide, rfl, rfl, inBX0, lkX0_71⟩
theorem fpX0_71 : FP RX0 71 0 11 1 .long := ⟨RX0, TX0, 12, tyX0, rfl, by decide, rfl, rfl, inBX0, lkX0_71, tyX0_ok, nmX0, rfl, rfl⟩
theorem lkX1_9 : Cond.fieldLink RX1 9 (TX1 0).1 (TX1 0).2.1 (TX1 0).2.2.1 ∈ BIG := (tb2 (List.mem_of_getElem? (i := 162) rfl) rfl)
theorem fdX1_9 : FD RX1 9 1 0 2 := ⟨RX1, TX1, 8, rfl, by decide, rfl, rfl, inBX1, lkX1_9⟩
theorem lkX1_15 : Cond.fieldLink RX1 15 (TX1 1).1 (TX1 1).2.1 (TX1 1).2.2.1 ∈ BIG := (tb2 (List.mem_of_getElem? (i := 163) rfl) rfl)
theorem fdX1_15 : FD RX1 15 1 1 2 := ⟨RX1, TX1, 8, rfl, by decide, rfl, rfl, inBX1, lkX1_15⟩
theorem lkX1_18 : Cond.fieldLink RX1 18 (TX1 2).1 (TX1 2).2.1 (TX1 2).2.2.1 ∈ BIG := (tb2 (List.mem_of_getElem? (i := 164) rfl) rfl)
theorem fdX1_18 : FD RX1 18 1 2 2 := ⟨RX1, TX1, 8, rfl, by decide, rfl, rfl, inBX1, lkX1_18⟩
theorem lkX1_21 : Cond.fieldLink RX1 21 (TX1 3).1 (TX1 3).2.1 (TX1 3).2.2.1 ∈ BIG := (tb2 (List.mem_of_getElem? (i := 165) rfl) rfl)
theorem fdX1_21 : FD RX1 21 1 3 2 := ⟨RX1, TX1, 8, rfl, by decide, rfl, rfl, inBX1, lkX1_21⟩
theorem lkX1_25 : Cond.fieldLink RX1 25 (TX1 4).1 (TX1 4).2.1 (TX1 4).2.2.1 ∈ BIG := (tb2 (List.mem_of_getElem? (i := 166) rfl) rfl)
theorem fdX1_25 : FD RX1 25 1 4 2 := ⟨RX1, TX1, 8, rfl, by decide, rfl, rfl, inBX1, lkX1_25⟩
theorem lkX1_28 : Cond.fieldLink RX1 28 (TX1 5).1 (TX1 5).2.1 (TX1 5).2.2.1 ∈ BIG := (tb2 (List.mem_of_getElem? (i := 167) rfl) rfl)
theorem fdX1_28 : FD RX1 28 1 5 2 := ⟨RX1, TX1, 8, rfl, by decide, rfl, rfl, inBX1, lkX1_28⟩
theorem lkX1_31 : Cond.fieldLink RX1 31 (TX1 7).1 (TX1 7).2.1 (TX1 7).2.2.1 ∈ BIG := (tb2 (List.mem_of_getElem? (i := 170) rfl) rfl)
theorem fdX1_31 : FD RX1 31 1 7 0 := ⟨RX1, TX1, 8, rfl, by decide, rfl, rfl, inBX1, lkX1_31⟩
theorem fpX1_31 : FP RX1 31 1 7 0 .int := ⟨RX1, TX1, 8, tyX1, rfl, by decide, rfl, rfl, inBX1, lkX1_31, tyX1_ok, nmX1, rfl, rfl⟩
theorem lkX1_35 : Cond.fieldLink RX1 35 (TX1 6).1 (TX1 6).2.1 (TX1 6).2.2.1 ∈ BIG := (tb2 (List.mem_of_getElem? (i := 168) rfl) rfl)
theorem fdX1_35 : FD RX1 35 1 6 0 := ⟨RX1, TX1, 8, rfl, by decide, rfl, rfl, inBX1, lkX1_35⟩
theorem fpX1_35 : FP RX1 35 1 6 0 .int := ⟨RX1, TX1, 8, tyX1, rfl, by decide, rfl, rfl, inBX1, lkX1_35, tyX1_ok, nmX1, rfl, rfl⟩
theorem lkX1_52 : Cond.fieldLink RX1 52 (TX0 9).1 (TX0 9).2.1 (TX0 9).2.2.1 ∈ BIG := (tb2 (List.mem_of_getElem? (i := 91) rfl) rfl)
theorem fdX1_52 : FD RX1 52 0 9 0 := ⟨RX0, TX0, 12, rfl, by decide, rfl, rfl, inBX0, lkX1_52⟩
theorem fpX1_52 : FP RX1 52 0 9 0 .int := ⟨RX0, TX0, 12, tyX0, rfl, by decide, rfl, rfl, inBX0, lkX1_52, tyX0_ok, nmX0, rfl, rfl⟩
theorem lkX1_57 : Cond.fieldLink RX1 57 (TX0 5).1 (TX0 5).2.1 (TX0 5).2.2.1 ∈ BIG := (tb2 (List.mem_of_getElem? (i := 74) rfl) rfl)
theorem fdX1_57 : FD RX1 57 0 5 2 := ⟨RX0, TX0, 12, rfl, by decide, rfl, rfl, inBX0, lkX1_57⟩
theorem lkX10_9 : Cond.fieldLink RX10 9 (TX10 1).1 (TX10 1).2.1 (TX10 1).2.2.1 ∈ BIG := (tb1 (List.mem_of_getElem? (i := 99) rfl) rfl)
theorem fdX10_9 : FD RX10 9 10 1 2 := ⟨RX10, TX10, 7, rfl, by decide, rfl, rfl, inBX10, lkX10_9⟩
theorem lkX10_13 : Cond.fieldLink RX10 13 (TX10 0).1 (TX10 0).2.1 (TX10 0).2.2.1 ∈ BIG := (tb1 (List.mem_of_getElem? (i := 98) rfl) rfl)
theorem fdX10_13 : FD RX10 13 10 0 2 := ⟨RX10, TX10, 7, rfl, by decide, rfl, rfl, inBX10, lkX10_13⟩
theorem lkX10_33 : Cond.fieldLink RX10 33 (TX10 2).1 (TX10 2).2.1 (TX10 2).2.2.1 ∈ BIG := (tb1 (List.mem_of_getElem? (i := 100) rfl) rfl)
theorem fdX10_33 : FD RX10 33 10 2 0 := ⟨RX10, TX10, 7, rfl, by decide, rfl, rfl, inBX10, lkX10_33⟩
theorem fpX10_33 : FP RX10 33 10 2 0 .int := ⟨RX10, TX10, 7, tyX10, rfl, by decide, rfl, rfl, inBX10, lkX10_33, tyX10_ok, nmX10, rfl, rfl⟩
theorem lkX10_37 : Cond.fieldLink RX10 37 (TX10 3).1 (TX10 3).2.1 (TX10 3).2.2.1 ∈ BIG := (tb1 (List.mem_of_getElem? (i := 101) rfl) rfl)
theorem fdX10_37 : FD RX10 37 10 3 0 := ⟨RX10, TX10, 7, rfl, by decide, rfl, rfl, inBX10, lkX10_37⟩
theorem fpX10_37 : FP RX10 37 10 3 0 .int := ⟨RX10, TX10, 7, tyX10, rfl, by decide, rfl, rfl, inBX10, lkX10_37, tyX10_ok, nmX10, rfl, rfl⟩
theorem lkX10_51 : Cond.fieldLink RX10 51 (TX10 5).1 (TX10 5).2.1 (TX10 5).2.2.1 ∈ BIG := (tb1 (List.mem_of_getElem? (i := 105) rfl) rfl)
theorem fdX10_51 : FD RX10 51 10 5 0 := ⟨RX10, TX10, 7, rfl, by decide, rfl, rfl, inBX10, lkX10_51⟩
theorem fpX10_51 : FP RX10 51 10 5 0 .int := ⟨RX10, TX10, 7, tyX10, rfl, by decide, rfl, rfl, inBX10, lkX10_51, tyX10_ok, nmX10, rfl, rfl⟩
theorem lkX10_54 : Cond.fieldLink RX10 54 (TX10 6).1 (TX10 6).2.1 (TX10 6).2.2.1 ∈ BIG := (tb1 (List.mem_of_getElem? (i := 106) rfl) rfl)
theorem fdX10_54 : FD RX10 54 10 6 0 := ⟨RX10, TX10, 7, rfl, by decide, rfl, rfl, inBX10, lkX10_54⟩
theorem fpX10_54 : FP RX10 54 10 6 0 .int := ⟨RX10, TX10, 7, tyX10, rfl, by decide, rfl, rfl, inBX10, lkX10_54, tyX10_ok, nmX10, rfl, rfl⟩
theorem lkX10_57 : Cond.fieldLink RX10 57 (TX10 4).1 (TX10 4).2.1 (TX10 4).2.2.1 ∈ BIG := (tb1 (List.mem_of_getElem? (i := 103) rfl) rfl)
theorem fdX10_57 : FD RX10 57 10 4 0 := ⟨RX10, TX10, 7, rfl, by decide, rfl, rfl, inBX10, lkX10_57⟩
theorem fpX10_57 : FP RX10 57 10 4 0 .int := ⟨RX10, TX10, 7, tyX10, rfl, by decide, rfl, rfl, inBX10, lkX10_57, tyX10_ok, nmX10, rfl, rfl⟩
theorem lkX11_11 : Cond.fieldLink RX11 11 (TX11 0).1 (TX11 0).2.1 (TX11 0).2.2.1 ∈ BIG := (tb3 (List.mem_of_getElem? (i := 16) rfl) rfl)
theorem fdX11_11 : FD RX11 11 11 0 2 := ⟨RX11, TX11, 14, rfl, by decide, rfl, rfl, inBX11, lkX11_11⟩
theorem lkX11_20 : Cond.fieldLink RX11 20 (TX11 2).1 (TX11 2).2.1 (TX11 2).2.2.1 ∈ BIG := (tb3 (List.mem_of_getElem? (i := 18) rfl) rfl)
theorem fdX11_20 : FD RX11 20 11 2 2 := ⟨RX11, TX11, 14, rfl, by decide, rfl, rfl, inBX11, lkX11_20⟩
theorem lkX11_27 : Cond.fieldLink RX11 27 (TX11 3).1 (TX11 3).2.1 (TX11 3).2.2.1 ∈ BIG := (tb3 (List.mem_of_getElem? (i := 19) rfl) rfl)
theorem fdX11_27 : FD RX11 27 11 3 2 := ⟨RX11, TX11, 14, rfl, by decide, rfl, rfl, inBX11, lkX11_27⟩
theorem fpX11_27 : FP RX11 27 11 3 2 (.object RX6) := ⟨RX11, TX11, 14, tyX11, rfl, by decide, rfl, rfl, inBX11, lkX11_27, tyX11_ok, nmX11, rfl, rfl⟩
theorem lkX11_31 : Cond.fieldLink RX11 31 (TX11 4).1 (TX11 4).2.1 (TX11 4).2.2.1 ∈ BIG := (tb3 (List.mem_of_getElem? (i := 20) rfl) rfl)
theorem fdX11_31 : FD RX11 31 11 4 2 := ⟨RX11, TX11, 14, rfl, by decide, rfl, rfl, inBX11, lkX11_31⟩
theorem fpX11_31 : FP RX11 31 11 4 2 (.object RX6) := ⟨RX11, TX11, 14, tyX11, rfl, by decide, rfl, rfl, inBX11, lkX11_31, tyX11_ok, nmX11, rfl, rfl⟩
theorem lkX11_37 : Cond.fieldLink RX11 37 (TX11 5).1 (TX11 5).2.1 (TX11 5).2.2.1 ∈ BIG := (tb3 (List.mem_of_getElem? (i := 21) rfl) rfl)
theorem fdX11_37 : FD RX11 37 11 5 2 := ⟨RX11, TX11, 14, rfl, by decide, rfl, rfl, inBX11, lkX11_37⟩
theorem lkX11_41 : Cond.fieldLink RX11 41 (TX11 6).1 (TX11 6).2.1 (TX11 6).2.2.1 ∈ BIG := (tb3 (List.mem_of_getElem? (i := 22) rfl) rfl)
theorem fdX11_41 : FD RX11 41 11 6 2 := ⟨RX11, TX11, 14, rfl, by decide, rfl, rfl, inBX11, lkX11_41⟩
theorem lkX11_44 : Cond.fieldLink RX11 44 (TX11 7).1 (TX11 7).2.1 (TX11 7).2.2.1 ∈ BIG := (tb3 (List.mem_of_getElem? (i := 23) rfl) rfl)
theorem fdX11_44 : FD RX11 44 11 7 2 := ⟨RX11, TX11, 14, rfl, by decide, rfl, rfl, inBX11, lkX11_44⟩
theorem lkX11_50 : Cond.fieldLink RX11 50 (TX11 9).1 (TX11 9).2.1 (TX11 9).2.2.1 ∈ BIG := (tb3 (List.mem_of_getElem? (i := 25) rfl) rfl)
theorem fdX11_50 : FD RX11 50 11 9 2 := ⟨RX11, TX11, 14, rfl, by decide, rfl, rfl, inBX11, lkX11_50⟩
theorem lkX11_57 : Cond.fieldLink RX11 57 (TX11 10).1 (TX11 10).2.1 (TX11 10).2.2.1 ∈ BIG := (tb3 (List.mem_of_getElem? (i := 26) rfl) rfl)
theorem fdX11_57 : FD RX11 57 11 10 2 := ⟨RX11, TX11, 14, rfl, by decide, rfl, rfl, inBX11, lkX11_57⟩
theorem lkX11_64 : Cond.fieldLink RX11 64 (TX11 11).1 (TX11 11).2.1 (TX11 11).2.2.1 ∈ BIG := (tb3 (List.mem_of_getElem? (i := 27) rfl) rfl)
theorem fdX11_64 : FD RX11 64 11 11 2 := ⟨RX11, TX11, 14, rfl, by decide, rfl, rfl, inBX11, lkX11_64⟩
theorem lkX11_71 : Cond.fieldLink RX11 71 (TX11 12).1 (TX11 12).2.1 (TX11 12).2.2.1 ∈ BIG := (tb3 (List.mem_of_getElem? (i := 28) rfl) rfl)
theorem fdX11_71 : FD RX11 71 11 12 2 := ⟨RX11, TX11, 14, rfl, by decide, rfl, rfl, inBX11, lkX11_71⟩
theorem lkX11_78 : Cond.fieldLink RX11 78 (TX11 13).1 (TX11 13).2.1 (TX11 13).2.2.1 ∈ BIG := (tb3 (List.mem_of_getElem? (i := 29) rfl) rfl)
theorem fdX11_78 : FD RX11 78 11 13 2 := ⟨RX11, TX11, 14, rfl, by decide, rfl, rfl, inBX11, lkX11_78⟩
theorem lkX11_86 : Cond.fieldLink RX11 86 (TX11 1).1 (TX11 1).2.1 (TX11 1).2.2.1 ∈ BIG := (tb3 (List.mem_of_getElem? (i := 17) rfl) rfl)
theorem fdX11_86 : FD RX11 86 11 1 0 := ⟨RX11, TX11, 14, rfl, by decide, rfl, rfl, inBX11, lkX11_86⟩
theorem fpX11_86 : FP RX11 86 11 1 0 .int := ⟨RX11, TX11, 14, tyX11, rfl, by decide, rfl, rfl, inBX11, lkX11_86, tyX11_ok, nmX11, rfl, rfl⟩
theorem lkX11_102 : Cond.fieldLink RX11 102 (TX11 8).1 (TX11 8).2.1 (TX11 8).2.2.1 ∈ BIG := (tb3 (List.mem_of_getElem? (i := 24) rfl) rfl)
theorem fdX11_102 : FD RX11 102 11 8 0 := ⟨RX11, TX11, 14, rfl, by decide, rfl, rfl, inBX11, lkX11_102⟩
theorem fpX11_102 : FP RX11 102 11 8 0 .boolean := ⟨RX11, TX11, 14, tyX11, rfl, by decide, rfl, rfl, inBX11, lkX11_102, tyX11_ok, nmX11, rfl, rfl⟩
theorem lkX11_106 : Cond.fieldLink RX11 106 (TX6 10).1 (TX6 10).2.1 (TX6 10).2.2.1 ∈ BIG := (tb2 (List.mem_of_getElem? (i := 19) rfl) rfl)
theorem fdX11_106 : FD RX11 106 6 10 0 := ⟨RX6, TX6, 11, rfl, by decide, rfl, rfl, inBX6, lkX11_106⟩
theorem fpX11_106 : FP RX11 106 6 10 0 .int := ⟨RX6, TX6, 11, tyX6, rfl, by decide, rfl, rfl, inBX6, lkX11_106, tyX6_ok, nmX6, rfl, rfl⟩
theorem lkX11_109 : Cond.fieldLink RX11 109 (TX8 7).1 (TX8 7).2.1 (TX8 7).2.2.1 ∈ BIG := (tb1 (List.mem_of_getElem? (i := 134) rfl) rfl)
theorem fdX11_109 : FD RX11 109 8 7 0 := ⟨RX8, TX8, 9, rfl, by decide, rfl, rfl, inBX8, lkX11_109⟩
theorem fpX11_109 : FP RX11 109 8 7 0 .int := ⟨RX8, TX8, 9, tyX8, rfl, by decide, rfl, rfl, inBX8, lkX11_109, tyX8_ok, nmX8, rfl, rfl⟩
theorem lkX11_112 : Cond.fieldLink RX11 112 (TX8 8).1 (TX8 8).2.1 (TX8 8).2.2.1 ∈ BIG := (tb1 (List.mem_of_getElem? (i := 136) rfl) rfl)
theorem fdX11_112 : FD RX11 112 8 8 0 := ⟨RX8, TX8, 9, rfl, by decide, rfl, rfl, inBX8, lkX11_112⟩
theorem fpX11_112 : FP RX11 112 8 8 0 .int := ⟨RX8, TX8, 9, tyX8, rfl, by decide, rfl, rfl, inBX8, lkX11_112, tyX8_ok, nmX8, rfl, rfl⟩
theorem lkX11_115 : Cond.fieldLink RX11 115 (TX6 0).1 (TX6 0).2.1 (TX6 0).2.2.1 ∈ BIG := (tb1 (List.mem_of_getElem? (i := 223) rfl) rfl)
theorem fdX11_115 : FD RX11 115 6 0 2 := ⟨RX6, TX6, 11, rfl, by decide, rfl, rfl, inBX6, lkX11_115⟩
theorem lkX11_125 : Cond.fieldLink RX11 125 (TX6 1).1 (TX6 1).2.1 (TX6 1).2.2.1 ∈ BIG := (tb1 (List.mem_of_getElem? (i := 229) rfl) rfl)
theorem fdX11_125 : FD RX11 125 6 1 2 := ⟨RX6, TX6, 11, rfl, by decide, rfl, rfl, inBX6, lkX11_125⟩
theorem lkX11_139 : Cond.fieldLink RX11 139 (TX0 0).1 (TX0 0).2.1 (TX0 0).2.2.1 ∈ BIG := (tb2 (List.mem_of_getElem? (i := 51) rfl) rfl)
theorem fdX11_139 : FD RX11 139 0 0 2 := ⟨RX0, TX0, 12, rfl, by decide, rfl, rfl, inBX0, lkX11_139⟩
theorem lkX11_143 : Cond.fieldLink RX11 143 (TX0 1).1 (TX0 1).2.1 (TX0 1).2.2.1 ∈ BIG := (tb2 (List.mem_of_getElem? (i := 58) rfl) rfl)
theorem fdX11_143 : FD RX11 143 0 1 2 := ⟨RX0, TX0, 12, rfl, by decide, rfl, rfl, inBX0, lkX11_143⟩
theorem lkX11_146 : Cond.fieldLink RX11 146 (TX0 2).1 (TX0 2).2.1 (TX0 2).2.2.1 ∈ BIG := (tb2 (List.mem_of_getElem? (i := 61) rfl) rfl)
theorem fdX11_146 : FD RX11 146 0 2 2 := ⟨RX0, TX0, 12, rfl, by decide, rfl, rfl, inBX0, lkX11_146⟩
theorem lkX11_157 : Cond.fieldLink RX11 157 (TX0 3).1 (TX0 3).2.1 (TX0 3).2.2.1 ∈ BIG := (tb2 (List.mem_of_getElem? (i := 65) rfl) rfl)
theorem fdX11_157 : FD RX11 157 0 3 2 := ⟨RX0, TX0, 12, rfl, by decide, rfl, rfl, inBX0, lkX11_157⟩
theorem lkX11_163 : Cond.fieldLink RX11 163 (TX0 4).1 (TX0 4).2.1 (TX0 4).2.2.1 ∈ BIG := (tb2 (List.mem_of_getElem? (i := 71) rfl) rfl)
theorem fdX11_163 : FD RX11 163 0 4 2 := ⟨RX0, TX0, 12, rfl, by decide, rfl, rfl, inBX0, lkX11_163⟩
theorem lkX11_166 : Cond.fieldLink RX11 166 (TX0 5).1 (TX0 5).2.1 (TX0 5).2.2.1 ∈ BIG := (tb2 (List.mem_of_getElem? (i := 75) rfl) rfl)
theorem fdX11_166 : FD RX11 166 0 5 2 := ⟨RX0, TX0, 12, rfl, by decide, rfl, rfl, inBX0, lkX11_166⟩
theorem lkX11_169 : Cond.fieldLink RX11 169 (TX0 6).1 (TX0 6).2.1 (TX0 6).2.2.1 ∈ BIG := (tb2 (List.mem_of_getElem? (i := 78) rfl) rfl)
theorem fdX11_169 : FD RX11 169 0 6 2 := ⟨RX0, TX0, 12, rfl, by decide, rfl, rfl, inBX0, lkX11_169⟩
theorem lkX11_172 : Cond.fieldLink RX11 172 (TX0 7).1 (TX0 7).2.1 (TX0 7).2.2.1 ∈ BIG := (tb2 (List.mem_of_getElem? (i := 82) rfl) rfl)
theorem fdX11_172 : FD RX11 172 0 7 2 := ⟨RX0, TX0, 12, rfl, by decide, rfl, rfl, inBX0, lkX11_172⟩
theorem lkX11_175 : Cond.fieldLink RX11 175 (TX0 8).1 (TX0 8).2.1 (TX0 8).2.2.1 ∈ BIG := (tb2 (List.mem_of_getElem? (i := 85) rfl) rfl)
theorem fdX11_175 : FD RX11 175 0 8 2 := ⟨RX0, TX0, 12, rfl, by decide, rfl, rfl, inBX0, lkX11_175⟩
theorem lkX11_209 : Cond.fieldLink RX11 209 (TX0 9).1 (TX0 9).2.1 (TX0 9).2.2.1 ∈ BIG := (tb2 (List.mem_of_getElem? (i := 92) rfl) rfl)
theorem fdX11_209 : FD RX11 209 0 9 0 := ⟨RX0, TX0, 12, rfl, by decide, rfl, rfl, inBX0, lkX11_209⟩
theorem fpX11_209 : FP RX11 209 0 9 0 .int := ⟨RX0, TX0, 12, tyX0, rfl, by decide, rfl, rfl, inBX0, lkX11_209, tyX0_ok, nmX0, rfl, rfl⟩
theorem lkX11_239 : Cond.fieldLink RX11 239 (TX9 2).1 (TX9 2).2.1 (TX9 2).2.2.1 ∈ BIG := (tb1 (List.mem_of_getElem? (i := 175) rfl) rfl)
theorem fdX11_239 : FD RX11 239 9 2 0 := ⟨RX9, TX9, 3, rfl, by decide, rfl, rfl, inBX9, lkX11_239⟩
theorem fpX11_239 : FP RX11 239 9 2 0 .int := ⟨RX9, TX9, 3, tyX9, rfl, by decide, rfl, rfl, inBX9, lkX11_239, tyX9_ok, nmX9, rfl, rfl⟩
theorem lkX11_261 : Cond.fieldLink RX11 261 (TX4 2).1 (TX4 2).2.1 (TX4 2).2.2.1 ∈ BIG := (tb2 (List.mem_of_getElem? (i := 224) rfl) rfl)
theorem fdX11_261 : FD RX11 261 4 2 2 := ⟨RX4, TX4, 5, rfl, by decide, rfl, rfl, inBX4, lkX11_261⟩
theorem lkX11_264 : Cond.fieldLink RX11 264 (TX4 3).1 (TX4 3).2.1 (TX4 3).2.2.1 ∈ BIG := (tb2 (List.mem_of_getElem? (i := 226) rfl) rfl)
theorem fdX11_264 : FD RX11 264 4 3 0 := ⟨RX4, TX4, 5, rfl, by decide, rfl, rfl, inBX4, lkX11_264⟩
theorem fpX11_264 : FP RX11 264 4 3 0 .int := ⟨RX4, TX4, 5, tyX4, rfl, by decide, rfl, rfl, inBX4, lkX11_264, tyX4_ok, nmX4, rfl, rfl⟩
theorem lkX11_267 : Cond.fieldLink RX11 267 (TX4 4).1 (TX4 4).2.1 (TX4 4).2.2.1 ∈ BIG := (tb2 (List.mem_of_getElem? (i := 228) rfl) rfl)
theorem fdX11_267 : FD RX11 267 4 4 0 := ⟨RX4, TX4, 5, rfl, by decide, rfl, rfl, inBX4, lkX11_267⟩
theorem fpX11_267 : FP RX11 267 4 4 0 .int := ⟨RX4, TX4, 5, tyX4, rfl, by decide, rfl, rfl, inBX4, lkX11_267, tyX4_ok, nmX4, rfl, rfl⟩
theorem lkX11_291 : Cond.fieldLink RX11 291 (TX6 6).1 (TX6 6).2.1 (TX6 6).2.2.1 ∈ BIG := (tb2 (List.mem_of_getElem? (i := 9) rfl) rfl)
theorem fdX11_291 : FD RX11 291 6 6 0 := ⟨RX6, TX6, 11, rfl, by decide, rfl, rfl, inBX6, lkX11_291⟩
theorem fpX11_291 : FP RX11 291 6 6 0 .int := ⟨RX6, TX6, 11, tyX6, rfl, by decide, rfl, rfl, inBX6, lkX11_291, tyX6_ok, nmX6, rfl, rfl⟩
theorem lkX11_303 : Cond.fieldLink RX11 303 (TX1 6).1 (TX1 6).2.1 (TX1 6).2.2.1 ∈ BIG := (tb2 (List.mem_of_getElem? (i := 169) rfl) rfl)
theorem fdX11_303 : FD RX11 303 1 6 0 := ⟨RX1, TX1, 8, rfl, by decide, rfl, rfl, inBX1, lkX11_303⟩
theorem fpX11_303 : FP RX11 303 1 6 0 .int := ⟨RX1, TX1, 8, tyX1, rfl, by decide, rfl, rfl, inBX1, lkX11_303, tyX1_ok, nmX1, rfl, rfl⟩
theorem lkX11_304 : Cond.fieldLink RX11 304 (TX1 7).1 (TX1 7).2.1 (TX1 7).2.2.1 ∈ BIG := (tb2 (List.mem_of_getElem? (i := 171) rfl) rfl)
theorem fdX11_304 : FD RX11 304 1 7 0 := ⟨RX1, TX1, 8, rfl, by decide, rfl, rfl, inBX1, lkX11_304⟩
theorem fpX11_304 : FP RX11 304 1 7 0 .int := ⟨RX1, TX1, 8, tyX1, rfl, by decide, rfl, rfl, inBX1, lkX11_304, tyX1_ok, nmX1, rfl, rfl⟩
theorem lkX11_320 : Cond.fieldLink RX11 320 (TX2 3).1 (TX2 3).2.1 (TX2 3).2.2.1 ∈ BIG := (tb2 (List.mem_of_getElem? (i := 201) rfl) rfl)
theorem fdX11_320 : FD RX11 320 2 3 0 := ⟨RX2, TX2, 5, rfl, by decide, rfl, rfl, inBX2, lkX11_320⟩
theorem fpX11_320 : FP RX11 320 2 3 0 .int := ⟨RX2, TX2, 5, tyX2, rfl, by decide, rfl, rfl, inBX2, lkX11_320, tyX2_ok, nmX2, rfl, rfl⟩
theorem lkX11_323 : Cond.fieldLink RX11 323 (TX2 4).1 (TX2 4).2.1 (TX2 4).2.2.1 ∈ BIG := (tb2 (List.mem_of_getElem? (i := 203) rfl) rfl)
theorem fdX11_323 : FD RX11 323 2 4 0 := ⟨RX2, TX2, 5, rfl, by decide, rfl, rfl, inBX2, lkX11_323⟩
theorem fpX11_323 : FP RX11 323 2 4 0 .int := ⟨RX2, TX2, 5, tyX2, rfl, by decide, rfl, rfl, inBX2, lkX11_323, tyX2_ok, nmX2, rfl, rfl⟩
theorem lkX11_326 : Cond.fieldLink RX11 326 (TX0 11).1 (TX0 11).2.1 (TX0 11).2.2.1 ∈ BIG := (tb2 (List.mem_of_getElem? (i := 97) rfl) rfl)
theorem fdX11_326 : FD RX11 326 0 11 1 := ⟨RX0, TX0, 12, rfl, by decide, rfl, rfl, inBX0, lkX11_326⟩
theorem fpX11_326 : FP RX11 326 0 11 1 .long := ⟨RX0, TX0, 12, tyX0, rfl, by decide, rfl, rfl, inBX0, lkX11_326, tyX0_ok, nmX0, rfl, rfl⟩
theorem lkX11_338 : Cond.fieldLink RX11 338 (TX7 1).1 (TX7 1).2.1 (TX7 1).2.2.1 ∈ BIG := (tb2 (List.mem_of_getElem? (i := 150) rfl) rfl)
theorem fdX11_338 : FD RX11 338 7 1 0 := ⟨RX7, TX7, 2, rfl, by decide, rfl, rfl, inBX7, lkX11_338⟩
theorem fpX11_338 : FP RX11 338 7 1 0 .int := ⟨RX7, TX7, 2, tyX7, rfl, by decide, rfl, rfl, inBX7, lkX11_338, tyX7_ok, nmX7, rfl, rfl⟩
theorem lkX11_339 : Cond.fieldLink RX11 339 (TX6 2).1 (TX6 2).2.1 (TX6 2).2.2.1 ∈ BIG := (tb1 (List.mem_of_getElem? (i := 234) rfl) rfl)
theorem fdX11_339 : FD RX11 339 6 2 2 := ⟨RX6, TX6, 11, rfl, by decide, rfl, rfl, inBX6, lkX11_339⟩
theorem lkX11_342 : Cond.fieldLink RX11 342 (TX6 3).1 (TX6 3).2.1 (TX6 3).2.2.1 ∈ BIG := (tb1 (List.mem_of_getElem? (i := 238) rfl) rfl)
theorem fdX11_342 : FD RX11 342 6 3 2 := ⟨RX6, TX6, 11, rfl, by decide, rfl, rfl, inBX6, lkX11_342⟩
theorem lkX11_345 : Cond.fieldLink RX11 345 (TX6 4).1 (TX6 4).2.1 (TX6 4).2.2.1 ∈ BIG := (tb2 (List.mem_of_getElem? (i := 2) rfl) rfl)
theorem fdX11_345 : FD RX11 345 6 4 2 := ⟨RX6, TX6, 11, rfl, by decide, rfl, rfl, inBX6, lkX11_345⟩
theorem lkX11_348 : Cond.fieldLink RX11 348 (TX6 5).1 (TX6 5).2.1 (TX6 5).2.2.1 ∈ BIG := (tb2 (List.mem_of_getElem? (i := 5) rfl) rfl)
theorem fdX11_348 : FD RX11 348 6 5 2 := ⟨RX6, TX6, 11, rfl, by decide, rfl, rfl, inBX6, lkX11_348⟩
theorem lkX11_352 : Cond.fieldLink RX11 352 (TX3 6).1 (TX3 6).2.1 (TX3 6).2.2.1 ∈ BIG := (tb1 (List.mem_of_getElem? (i := 198) rfl) rfl)
theorem fdX11_352 : FD RX11 352 3 6 0 := ⟨RX3, TX3, 8, rfl, by decide, rfl, rfl, inBX3, lkX11_352⟩
theorem fpX11_352 : FP RX11 352 3 6 0 .int := ⟨RX3, TX3, 8, tyX3, rfl, by decide, rfl, rfl, inBX3, lkX11_352, tyX3_ok, nmX3, rfl, rfl⟩
theorem lkX11_360 : Cond.fieldLink RX11 360 (TX0 10).1 (TX0 10).2.1 (TX0 10).2.2.1 ∈ BIG := (tb2 (List.mem_of_getElem? (i := 95) rfl) rfl)
theorem fdX11_360 : FD RX11 360 0 10 0 := ⟨RX0, TX0, 12, rfl, by decide, rfl, rfl, inBX0, lkX11_360⟩
theorem fpX11_360 : FP RX11 360 0 10 0 .int := ⟨RX0, TX0, 12, tyX0, rfl, by decide, rfl, rfl, inBX0, lkX11_360, tyX0_ok, nmX0, rfl, rfl⟩
theorem lkX12_7 : Cond.fieldLink RX12 7 (TX12 1).1 (TX12 1).2.1 (TX12 1).2.2.1 ∈ BIG := (tb6 (List.mem_of_getElem? (i := 33) rfl) rfl)
theorem fdX12_7 : FD RX12 7 12 1 2 := ⟨RX12, TX12, 67, rfl, by decide, rfl, rfl, inBX12, lkX12_7⟩
theorem lkX12_13 : Cond.fieldLink RX12 13 (TX12 3).1 (TX12 3).2.1 (TX12 3).2.2.1 ∈ BIG := (tb6 (List.mem_of_getElem? (i := 35) rfl) rfl)
theorem fdX12_13 : FD RX12 13 12 3 2 := ⟨RX12, TX12, 67, rfl, by decide, rfl, rfl, inBX12, lkX12_13⟩
theorem lkX12_16 : Cond.fieldLink RX12 16 (TX12 4).1 (TX12 4).2.1 (TX12 4).2.2.1 ∈ BIG := (tb6 (List.mem_of_getElem? (i := 36) rfl) rfl)
theorem fdX12_16 : FD RX12 16 12 4 2 := ⟨RX12, TX12, 67, rfl, by decide, rfl, rfl, inBX12, lkX12_16⟩
theorem lkX12_19 : Cond.fieldLink RX12 19 (TX12 5).1 (TX12 5).2.1 (TX12 5).2.2.1 ∈ BIG := (tb6 (List.mem_of_getElem? (i := 37) rfl) rfl)
theorem fdX12_19 : FD RX12 19 12 5 2 := ⟨RX12, TX12, 67, rfl, by decide, rfl, rfl, inBX12, lkX12_19⟩
theorem lkX12_22 : Cond.fieldLink RX12 22 (TX12 6).1 (TX12 6).2.1 (TX12 6).2.2.1 ∈ BIG := (tb6 (List.mem_of_getElem? (i := 38) rfl) rfl)
theorem fdX12_22 : FD RX12 22 12 6 2 := ⟨RX12, TX12, 67, rfl, by decide, rfl, rfl, inBX12, lkX12_22⟩
theorem lkX12_25 : Cond.fieldLink RX12 25 (TX12 7).1 (TX12 7).2.1 (TX12 7).2.2.1 ∈ BIG := (tb6 (List.mem_of_getElem? (i := 39) rfl) rfl)
theorem fdX12_25 : FD RX12 25 12 7 2 := ⟨RX12, TX12, 67, rfl, by decide, rfl, rfl, inBX12, lkX12_25⟩
theorem lkX12_28 : Cond.fieldLink RX12 28 (TX12 8).1 (TX12 8).2.1 (TX12 8).2.2.1 ∈ BIG := (tb6 (List.mem_of_getElem? (i := 40) rfl) rfl)
theorem fdX12_28 : FD RX12 28 12 8 2 := ⟨RX12, TX12, 67, rfl, by decide, rfl, rfl, inBX12, lkX12_28⟩
theorem lkX12_31 : Cond.fieldLink RX12 31 (TX12 9).1 (TX12 9).2.1 (TX12 9).2.2.1 ∈ BIG := (tb6 (List.mem_of_getElem? (i := 41) rfl) rfl)
theorem fdX12_31 : FD RX12 31 12 9 2 := ⟨RX12, TX12, 67, rfl, by decide, rfl, rfl, inBX12, lkX12_31⟩
theorem lkX12_34 : Cond.fieldLink RX12 34 (TX12 10).1 (TX12 10).2.1 (TX12 10).2.2.1 ∈ BIG := (tb6 (List.mem_of_getElem? (i := 42) rfl) rfl)
theorem fdX12_34 : FD RX12 34 12 10 2 := ⟨RX12, TX12, 67, rfl, by decide, rfl, rfl, inBX12, lkX12_34⟩
theorem lkX12_37 : Cond.fieldLink RX12 37 (TX12 11).1 (TX12 11).2.1 (TX12 11).2.2.1 ∈ BIG := (tb6 (List.mem_of_getElem? (i := 43) rfl) rfl)
theorem fdX12_37 : FD RX12 37 12 11 2 := ⟨RX12, TX12, 67, rfl, by decide, rfl, rfl, inBX12, lkX12_37⟩
theorem lkX12_40 : Cond.fieldLink RX12 40 (TX12 12).1 (TX12 12).2.1 (TX12 12).2.2.1 ∈ BIG := (tb6 (List.mem_of_getElem? (i := 44) rfl) rfl)
theorem fdX12_40 : FD RX12 40 12 12 2 := ⟨RX12, TX12, 67, rfl, by decide, rfl, rfl, inBX12, lkX12_40⟩
theorem lkX12_43 : Cond.fieldLink RX12 43 (TX12 13).1 (TX12 13).2.1 (TX12 13).2.2.1 ∈ BIG := (tb6 (List.mem_of_getElem? (i := 45) rfl) rfl)
theorem fdX12_43 : FD RX12 43 12 13 2 := ⟨RX12, TX12, 67, rfl, by decide, rfl, rfl, inBX12, lkX12_43⟩
theorem lkX12_46 : Cond.fieldLink RX12 46 (TX12 14).1 (TX12 14).2.1 (TX12 14).2.2.1 ∈ BIG := (tb6 (List.mem_of_getElem? (i := 46) rfl) rfl)
theorem fdX12_46 : FD RX12 46 12 14 2 := ⟨RX12, TX12, 67, rfl, by decide, rfl, rfl, inBX12, lkX12_46⟩
theorem lkX12_49 : Cond.fieldLink RX12 49 (TX12 15).1 (TX12 15).2.1 (TX12 15).2.2.1 ∈ BIG := (tb6 (List.mem_of_getElem? (i := 47) rfl) rfl)
theorem fdX12_49 : FD RX12 49 12 15 2 := ⟨RX12, TX12, 67, rfl, by decide, rfl, rfl, inBX12, lkX12_49⟩
theorem lkX12_52 : Cond.fieldLink RX12 52 (TX12 16).1 (TX12 16).2.1 (TX12 16).2.2.1 ∈ BIG := (tb6 (List.mem_of_getElem? (i := 48) rfl) rfl)
theorem fdX12_52 : FD RX12 52 12 16 2 := ⟨RX12, TX12, 67, rfl, by decide, rfl, rfl, inBX12, lkX12_52⟩
theorem lkX12_55 : Cond.fieldLink RX12 55 (TX12 17).1 (TX12 17).2.1 (TX12 17).2.2.1 ∈ BIG := (tb6 (List.mem_of_getElem? (i := 49) rfl) rfl)
theorem fdX12_55 : FD RX12 55 12 17 2 := ⟨RX12, TX12, 67, rfl, by decide, rfl, rfl, inBX12, lkX12_55⟩
theorem lkX12_58 : Cond.fieldLink RX12 58 (TX12 18).1 (TX12 18).2.1 (TX12 18).2.2.1 ∈ BIG := (tb6 (List.mem_of_getElem? (i := 50) rfl) rfl)
theorem fdX12_58 : FD RX12 58 12 18 2 := ⟨RX12, TX12, 67, rfl, by decide, rfl, rfl, inBX12, lkX12_58⟩
theorem lkX12_61 : Cond.fieldLink RX12 61 (TX12 19).1 (TX12 19).2.1 (TX12 19).2.2.1 ∈ BIG := (tb6 (List.mem_of_getElem? (i := 51) rfl) rfl)
theorem fdX12_61 : FD RX12 61 12 19 2 := ⟨RX12, TX12, 67, rfl, by decide, rfl, rfl, inBX12, lkX12_61⟩
theorem lkX12_64 : Cond.fieldLink RX12 64 (TX12 20).1 (TX12 20).2.1 (TX12 20).2.2.1 ∈ BIG := (tb6 (List.mem_of_getElem? (i := 52) rfl) rfl)
theorem fdX12_64 : FD RX12 64 12 20 2 := ⟨RX12, TX12, 67, rfl, by decide, rfl, rfl, inBX12, lkX12_64⟩
theorem lkX12_67 : Cond.fieldLink RX12 67 (TX12 21).1 (TX12 21).2.1 (TX12 21).2.2.1 ∈ BIG := (tb6 (List.mem_of_getElem? (i := 53) rfl) rfl)
theorem fdX12_67 : FD RX12 67 12 21 2 := ⟨RX12, TX12, 67, rfl, by decide, rfl, rfl, inBX12, lkX12_67⟩
theorem lkX12_70 : Cond.fieldLink RX12 70 (TX12 22).1 (TX12 22).2.1 (TX12 22).2.2.1 ∈ BIG := (tb6 (List.mem_of_getElem? (i := 54) rfl) rfl)
theorem fdX12_70 : FD RX12 70 12 22 2 := ⟨RX12, TX12, 67, rfl, by decide, rfl, rfl, inBX12, lkX12_70⟩
theorem lkX12_73 : Cond.fieldLink RX12 73 (TX12 33).1 (TX12 33).2.1 (TX12 33).2.2.1 ∈ BIG := (tb6 (List.mem_of_getElem? (i := 65) rfl) rfl)
theorem fdX12_73 : FD RX12 73 12 33 0 := ⟨RX12, TX12, 67, rfl, by decide, rfl, rfl, inBX12, lkX12_73⟩
theorem fpX12_73 : FP RX12 73 12 33 0 .int := ⟨RX12, TX12, 67, tyX12, rfl, by decide, rfl, rfl, inBX12, lkX12_73, tyX12_ok, nmX12, rfl, rfl⟩
theorem lkX12_77 : Cond.fieldLink RX12 77 (TX12 36).1 (TX12 36).2.1 (TX12 36).2.2.1 ∈ BIG := (tb6 (List.mem_of_getElem? (i := 68) rfl) rfl)
theorem fdX12_77 : FD RX12 77 12 36 2 := ⟨RX12, TX12, 67, rfl, by decide, rfl, rfl, inBX12, lkX12_77⟩
theorem lkX12_81 : Cond.fieldLink RX12 81 (TX12 37).1 (TX12 37).2.1 (TX12 37).2.2.1 ∈ BIG := (tb6 (List.mem_of_getElem? (i := 69) rfl) rfl)
theorem fdX12_81 : FD RX12 81 12 37 2 := ⟨RX12, TX12, 67, rfl, by decide, rfl, rfl, inBX12, lkX12_81⟩
theorem lkX12_84 : Cond.fieldLink RX12 84 (TX12 39).1 (TX12 39).2.1 (TX12 39).2.2.1 ∈ BIG := (tb6 (List.mem_of_getElem? (i := 71) rfl) rfl)
theorem fdX12_84 : FD RX12 84 12 39 2 := ⟨RX12, TX12, 67, rfl, by decide, rfl, rfl, inBX12, lkX12_84⟩
theorem lkX12_87 : Cond.fieldLink RX12 87 (TX12 40).1 (TX12 40).2.1 (TX12 40).2.2.1 ∈ BIG := (tb6 (List.mem_of_getElem? (i := 72) rfl) rfl)
theorem fdX12_87 : FD RX12 87 12 40 2 := ⟨RX12, TX12, 67, rfl, by decide, rfl, rfl, inBX12, lkX12_87⟩
theorem lkX12_90 : Cond.fieldLink RX12 90 (TX12 41).1 (TX12 41).2.1 (TX12 41).2.2.1 ∈ BIG := (tb6 (List.mem_of_getElem? (i := 73) rfl) rfl)
theorem fdX12_90 : FD RX12 90 12 41 2 := ⟨RX12, TX12, 67, rfl, by decide, rfl, rfl, inBX12, lkX12_90⟩
theorem lkX12_93 : Cond.fieldLink RX12 93 (TX12 42).1 (TX12 42).2.1 (TX12 42).2.2.1 ∈ BIG := (tb6 (List.mem_of_getElem? (i := 74) rfl) rfl)
theorem fdX12_93 : FD RX12 93 12 42 2 := ⟨RX12, TX12, 67, rfl, by decide, rfl, rfl, inBX12, lkX12_93⟩
theorem lkX12_96 : Cond.fieldLink RX12 96 (TX12 43).1 (TX12 43).2.1 (TX12 43).2.2.1 ∈ BIG := (tb6 (List.mem_of_getElem? (i := 75) rfl) rfl)
theorem fdX12_96 : FD RX12 96 12 43 2 := ⟨RX12, TX12, 67, rfl, by decide, rfl, rfl, inBX12, lkX12_96⟩
theorem lkX12_99 : Cond.fieldLink RX12 99 (TX12 44).1 (TX12 44).2.1 (TX12 44).2.2.1 ∈ BIG := (tb6 (List.mem_of_getElem? (i := 76) rfl) rfl)
theorem fdX12_99 : FD RX12 99 12 44 2 := ⟨RX12, TX12, 67, rfl, by decide, rfl, rfl, inBX12, lkX12_99⟩
theorem lkX12_102 : Cond.fieldLink RX12 102 (TX12 45).1 (TX12 45).2.1 (TX12 45).2.2.1 ∈ BIG := (tb6 (List.mem_of_getElem? (i := 77) rfl) rfl)
theorem fdX12_102 : FD RX12 102 12 45 2 := ⟨RX12, TX12, 67, rfl, by decide, rfl, rfl, inBX12, lkX12_102⟩
theorem lkX12_105 : Cond.fieldLink RX12 105 (TX12 46).1 (TX12 46).2.1 (TX12 46).2.2.1 ∈ BIG := (tb6 (List.mem_of_getElem? (i := 78) rfl) rfl)
theorem fdX12_105 : FD RX12 105 12 46 2 := ⟨RX12, TX12, 67, rfl, by decide, rfl, rfl, inBX12, lkX12_105⟩
theorem lkX12_108 : Cond.fieldLink RX12 108 (TX12 47).1 (TX12 47).2.1 (TX12 47).2.2.1 ∈ BIG := (tb6 (List.mem_of_getElem? (i := 79) rfl) rfl)
theorem fdX12_108 : FD RX12 108 12 47 2 := ⟨RX12, TX12, 67, rfl, by decide, rfl, rfl, inBX12, lkX12_108⟩
theorem lkX12_111 : Cond.fieldLink RX12 111 (TX12 48).1 (TX12 48).2.1 (TX12 48).2.2.1 ∈ BIG := (tb6 (List.mem_of_getElem? (i := 80) rfl) rfl)
theorem fdX12_111 : FD RX12 111 12 48 2 := ⟨RX12, TX12, 67, rfl, by decide, rfl, rfl, inBX12, lkX12_111⟩
theorem lkX12_114 : Cond.fieldLink RX12 114 (TX12 49).1 (TX12 49).2.1 (TX12 49).2.2.1 ∈ BIG := (tb6 (List.mem_of_getElem? (i := 81) rfl) rfl)
theorem fdX12_114 : FD RX12 114 12 49 2 := ⟨RX12, TX12, 67, rfl, by decide, rfl, rfl, inBX12, lkX12_114⟩
theorem lkX12_117 : Cond.fieldLink RX12 117 (TX12 53).1 (TX12 53).2.1 (TX12 53).2.2.1 ∈ BIG := (tb6 (List.mem_of_getElem? (i := 85) rfl) rfl)
theorem fdX12_117 : FD RX12 117 12 53 0 := ⟨RX12, TX12, 67, rfl, by decide, rfl, rfl, inBX12, lkX12_117⟩
theorem fpX12_117 : FP RX12 117 12 53 0 .int := ⟨RX12, TX12, 67, tyX12, rfl, by decide, rfl, rfl, inBX12, lkX12_117, tyX12_ok, nmX12, rfl, rfl⟩
theorem lkX12_120 : Cond.fieldLink RX12 120 (TX12 54).1 (TX12 54).2.1 (TX12 54).2.2.1 ∈ BIG := (tb6 (List.mem_of_getElem? (i := 86) rfl) rfl)
theorem fdX12_120 : FD RX12 120 12 54 2 := ⟨RX12, TX12, 67, rfl, by decide, rfl, rfl, inBX12, lkX12_120⟩
theorem lkX12_123 : Cond.fieldLink RX12 123 (TX12 55).1 (TX12 55).2.1 (TX12 55).2.2.1 ∈ BIG := (tb6 (List.mem_of_getElem? (i := 87) rfl) rfl)
theorem fdX12_123 : FD RX12 123 12 55 2 := ⟨RX12, TX12, 67, rfl, by decide, rfl, rfl, inBX12, lkX12_123⟩
theorem lkX12_126 : Cond.fieldLink RX12 126 (TX12 59).1 (TX12 59).2.1 (TX12 59).2.2.1 ∈ BIG := (tb6 (List.mem_of_getElem? (i := 91) rfl) rfl)
theorem fdX12_126 : FD RX12 126 12 59 0 := ⟨RX12, TX12, 67, rfl, by decide, rfl, rfl, inBX12, lkX12_126⟩
theorem fpX12_126 : FP RX12 126 12 59 0 .int := ⟨RX12, TX12, 67, tyX12, rfl, by decide, rfl, rfl, inBX12, lkX12_126, tyX12_ok, nmX12, rfl, rfl⟩
theorem lkX12_129 : Cond.fieldLink RX12 129 (TX12 60).1 (TX12 60).2.1 (TX12 60).2.2.1 ∈ BIG := (tb6 (List.mem_of_getElem? (i := 92) rfl) rfl)
theorem fdX12_129 : FD RX12 129 12 60 2 := ⟨RX12, TX12, 67, rfl, by decide, rfl, rfl, inBX12, lkX12_129⟩
theorem lkX12_132 : Cond.fieldLink RX12 132 (TX12 61).1 (TX12 61).2.1 (TX12 61).2.2.1 ∈ BIG := (tb6 (List.mem_of_getElem? (i := 93) rfl) rfl)
theorem fdX12_132 : FD RX12 132 12 61 2 := ⟨RX12, TX12, 67, rfl, by decide, rfl, rfl, inBX12, lkX12_132⟩
theorem lkX12_135 : Cond.fieldLink RX12 135 (TX12 62).1 (TX12 62).2.1 (TX12 62).2.2.1 ∈ BIG := (tb6 (List.mem_of_getElem? (i := 94) rfl) rfl)
theorem fdX12_135 : FD RX12 135 12 62 2 := ⟨RX12, TX12, 67, rfl, by decide, rfl, rfl, inBX12, lkX12_135⟩
theorem lkX12_138 : Cond.fieldLink RX12 138 (TX12 63).1 (TX12 63).2.1 (TX12 63).2.2.1 ∈ BIG := (tb6 (List.mem_of_getElem? (i := 95) rfl) rfl)
theorem fdX12_138 : FD RX12 138 12 63 2 := ⟨RX12, TX12, 67, rfl, by decide, rfl, rfl, inBX12, lkX12_138⟩
theorem lkX12_142 : Cond.fieldLink RX12 142 (TX12 64).1 (TX12 64).2.1 (TX12 64).2.2.1 ∈ BIG := (tb6 (List.mem_of_getElem? (i := 96) rfl) rfl)
theorem fdX12_142 : FD RX12 142 12 64 2 := ⟨RX12, TX12, 67, rfl, by decide, rfl, rfl, inBX12, lkX12_142⟩
theorem lkX12_145 : Cond.fieldLink RX12 145 (TX12 65).1 (TX12 65).2.1 (TX12 65).2.2.1 ∈ BIG := (tb6 (List.mem_of_getElem? (i := 97) rfl) rfl)
theorem fdX12_145 : FD RX12 145 12 65 2 := ⟨RX12, TX12, 67, rfl, by decide, rfl, rfl, inBX12, lkX12_145⟩
theorem lkX12_148 : Cond.fieldLink RX12 148 (TX12 66).1 (TX12 66).2.1 (TX12 66).2.2.1 ∈ BIG := (tb6 (List.mem_of_getElem? (i := 98) rfl) rfl)
theorem fdX12_148 : FD RX12 148 12 66 2 := ⟨RX12, TX12, 67, rfl, by decide, rfl, rfl, inBX12, lkX12_148⟩
theorem lkX12_154 : Cond.fieldLink RX12 154 (TX12 0).1 (TX12 0).2.1 (TX12 0).2.2.1 ∈ BIG := (tb6 (List.mem_of_getElem? (i := 32) rfl) rfl)
theorem fdX12_154 : FD RX12 154 12 0 0 := ⟨RX12, TX12, 67, rfl, by decide, rfl, rfl, inBX12, lkX12_154⟩
theorem fpX12_154 : FP RX12 154 12 0 0 .int := ⟨RX12, TX12, 67, tyX12, rfl, by decide, rfl, rfl, inBX12, lkX12_154, tyX12_ok, nmX12, rfl, rfl⟩
theorem lkX12_157 : Cond.fieldLink RX12 157 (TX12 2).1 (TX12 2).2.1 (TX12 2).2.2.1 ∈ BIG := (tb6 (List.mem_of_getElem? (i := 34) rfl) rfl)
theorem fdX12_157 : FD RX12 157 12 2 0 := ⟨RX12, TX12, 67, rfl, by decide, rfl, rfl, inBX12, lkX12_157⟩
theorem fpX12_157 : FP RX12 157 12 2 0 .int := ⟨RX12, TX12, 67, tyX12, rfl, by decide, rfl, rfl, inBX12, lkX12_157, tyX12_ok, nmX12, rfl, rfl⟩
theorem lkX12_160 : Cond.fieldLink RX12 160 (TX12 26).1 (TX12 26).2.1 (TX12 26).2.2.1 ∈ BIG := (tb6 (List.mem_of_getElem? (i := 58) rfl) rfl)
theorem fdX12_160 : FD RX12 160 12 26 0 := ⟨RX12, TX12, 67, rfl, by decide, rfl, rfl, inBX12, lkX12_160⟩
theorem fpX12_160 : FP RX12 160 12 26 0 .int := ⟨RX12, TX12, 67, tyX12, rfl, by decide, rfl, rfl, inBX12, lkX12_160, tyX12_ok, nmX12, rfl, rfl⟩
theorem lkX12_163 : Cond.fieldLink RX12 163 (TX12 25).1 (TX12 25).2.1 (TX12 25).2.2.1 ∈ BIG := (tb6 (List.mem_of_getElem? (i := 57) rfl) rfl)
theorem fdX12_163 : FD RX12 163 12 25 0 := ⟨RX12, TX12, 67, rfl, by decide, rfl, rfl, inBX12, lkX12_163⟩
theorem fpX12_163 : FP RX12 163 12 25 0 .int := ⟨RX12, TX12, 67, tyX12, rfl, by decide, rfl, rfl, inBX12, lkX12_163, tyX12_ok, nmX12, rfl, rfl⟩
theorem lkX12_170 : Cond.fieldLink RX12 170 (TX12 27).1 (TX12 27).2.1 (TX12 27).2.2.1 ∈ BIG := (tb6 (List.mem_of_getElem? (i := 59) rfl) rfl)
theorem fdX12_170 : FD RX12 170 12 27 0 := ⟨RX12, TX12, 67, rfl, by decide, rfl, rfl, inBX12, lkX12_170⟩
theorem fpX12_170 : FP RX12 170 12 27 0 .int := ⟨RX12, TX12, 67, tyX12, rfl, by decide, rfl, rfl, inBX12, lkX12_170, tyX12_ok, nmX12, rfl, rfl⟩
theorem lkX12_173 : Cond.fieldLink RX12 173 (TX12 28).1 (TX12 28).2.1 (TX12 28).2.2.1 ∈ BIG := (tb6 (List.mem_of_getElem? (i := 60) rfl) rfl)
theorem fdX12_173 : FD RX12 173 12 28 0 := ⟨RX12, TX12, 67, rfl, by decide, rfl, rfl, inBX12, lkX12_173⟩
theorem fpX12_173 : FP RX12 173 12 28 0 .int := ⟨RX12, TX12, 67, tyX12, rfl, by decide, rfl, rfl, inBX12, lkX12_173, tyX12_ok, nmX12, rfl, rfl⟩
theorem lkX12_183 : Cond.fieldLink RX12 183 (TX12 29).1 (TX12 29).2.1 (TX12 29).2.2.1 ∈ BIG := (tb6 (List.mem_of_getElem? (i := 61) rfl) rfl)
theorem fdX12_183 : FD RX12 183 12 29 0 := ⟨RX12, TX12, 67, rfl, by decide, rfl, rfl, inBX12, lkX12_183⟩
theorem fpX12_183 : FP RX12 183 12 29 0 .int := ⟨RX12, TX12, 67, tyX12, rfl, by decide, rfl, rfl, inBX12, lkX12_183, tyX12_ok, nmX12, rfl, rfl⟩
theorem lkX12_208 : Cond.fieldLink RX12 208 (TX12 30).1 (TX12 30).2.1 (TX12 30).2.2.1 ∈ BIG := (tb6 (List.mem_of_getElem? (i := 62) rfl) rfl)
theorem fdX12_208 : FD RX12 208 12 30 0 := ⟨RX12, TX12, 67, rfl, by decide, rfl, rfl, inBX12, lkX12_208⟩
theorem fpX12_208 : FP RX12 208 12 30 0 .int := ⟨RX12, TX12, 67, tyX12, rfl, by decide, rfl, rfl, inBX12, lkX12_208, tyX12_ok, nmX12, rfl, rfl⟩
theorem lkX12_211 : Cond.fieldLink RX12 211 (TX12 31).1 (TX12 31).2.1 (TX12 31).2.2.1 ∈ BIG := (tb6 (List.mem_of_getElem? (i := 63) rfl) rfl)
theorem fdX12_211 : FD RX12 211 12 31 0 := ⟨RX12, TX12, 67, rfl, by decide, rfl, rfl, inBX12, lkX12_211⟩
theorem fpX12_211 : FP RX12 211 12 31 0 .int := ⟨RX12, TX12, 67, tyX12, rfl, by decide, rfl, rfl, inBX12, lkX12_211, tyX12_ok, nmX12, rfl, rfl⟩
theorem lkX12_238 : Cond.fieldLink RX12 238 (TX12 23).1 (TX12 23).2.1 (TX12 23).2.2.1 ∈ BIG := (tb6 (List.mem_of_getElem? (i := 55) rfl) rfl)
theorem fdX12_238 : FD RX12 238 12 23 0 := ⟨RX12, TX12, 67, rfl, by decide, rfl, rfl, inBX12, lkX12_238⟩
theorem fpX12_238 : FP RX12 238 12 23 0 .int := ⟨RX12, TX12, 67, tyX12, rfl, by decide, rfl, rfl, inBX12, lkX12_238, tyX12_ok, nmX12, rfl, rfl⟩
theorem lkX12_264 : Cond.fieldLink RX12 264 (TX12 24).1 (TX12 24).2.1 (TX12 24).2.2.1 ∈ BIG := (tb6 (List.mem_of_getElem? (i := 56) rfl) rfl)
theorem fdX12_264 : FD RX12 264 12 24 0 := ⟨RX12, TX12, 67, rfl, by decide, rfl, rfl, inBX12, lkX12_264⟩
theorem fpX12_264 : FP RX12 264 12 24 0 .int := ⟨RX12, TX12, 67, tyX12, rfl, by decide, rfl, rfl, inBX12, lkX12_264, tyX12_ok, nmX12, rfl, rfl⟩
theorem lkX12_270 : Cond.fieldLink RX12 270 (TX12 35).1 (TX12 35).2.1 (TX12 35).2.2.1 ∈ BIG := (tb6 (List.mem_of_getElem? (i := 67) rfl) rfl)
theorem fdX12_270 : FD RX12 270 12 35 0 := ⟨RX12, TX12, 67, rfl, by decide, rfl, rfl, inBX12, lkX12_270⟩
theorem fpX12_270 : FP RX12 270 12 35 0 .int := ⟨RX12, TX12, 67, tyX12, rfl, by decide, rfl, rfl, inBX12, lkX12_270, tyX12_ok, nmX12, rfl, rfl⟩
theorem lkX12_297 : Cond.fieldLink RX12 297 (TX12 34).1 (TX12 34).2.1 (TX12 34).2.2.1 ∈ BIG := (tb6 (List.mem_of_getElem? (i := 66) rfl) rfl)
theorem fdX12_297 : FD RX12 297 12 34 0 := ⟨RX12, TX12, 67, rfl, by decide, rfl, rfl, inBX12, lkX12_297⟩
theorem fpX12_297 : FP RX12 297 12 34 0 .int := ⟨RX12, TX12, 67, tyX12, rfl, by decide, rfl, rfl, inBX12, lkX12_297, tyX12_ok, nmX12, rfl, rfl⟩
theorem lkX12_303 : Cond.fieldLink RX12 303 (TX12 32).1 (TX12 32).2.1 (TX12 32).2.2.1 ∈ BIG := (tb6 (List.mem_of_getElem? (i := 64) rfl) rfl)
theorem fdX12_303 : FD RX12 303 12 32 0 := ⟨RX12, TX12, 67, rfl, by decide, rfl, rfl, inBX12, lkX12_303⟩
theorem fpX12_303 : FP RX12 303 12 32 0 .int := ⟨RX12, TX12, 67, tyX12, rfl, by decide, rfl, rfl, inBX12, lkX12_303, tyX12_ok, nmX12, rfl, rfl⟩
theorem lkX12_310 : Cond.fieldLink RX12 310 (TX12 58).1 (TX12 58).2.1 (TX12 58).2.2.1 ∈ BIG := (tb6 (List.mem_of_getElem? (i := 90) rfl) rfl)
theorem fdX12_310 : FD RX12 310 12 58 0 := ⟨RX12, TX12, 67, rfl, by decide, rfl, rfl, inBX12, lkX12_310⟩
theorem fpX12_310 : FP RX12 310 12 58 0 .int := ⟨RX12, TX12, 67, tyX12, rfl, by decide, rfl, rfl, inBX12, lkX12_310, tyX12_ok, nmX12, rfl, rfl⟩
theorem lkX12_313 : Cond.fieldLink RX12 313 (TX12 50).1 (TX12 50).2.1 (TX12 50).2.2.1 ∈ BIG := (tb6 (List.mem_of_getElem? (i := 82) rfl) rfl)
theorem fdX12_313 : FD RX12 313 12 50 0 := ⟨RX12, TX12, 67, rfl, by decide, rfl, rfl, inBX12, lkX12_313⟩
theorem fpX12_313 : FP RX12 313 12 50 0 .boolean := ⟨RX12, TX12, 67, tyX12, rfl, by decide, rfl, rfl, inBX12, lkX12_313, tyX12_ok, nmX12, rfl, rfl⟩
theorem lkX12_317 : Cond.fieldLink RX12 317 (TX12 51).1 (TX12 51).2.1 (TX12 51).2.2.1 ∈ BIG := (tb6 (List.mem_of_getElem? (i := 83) rfl) rfl)
theorem fdX12_317 : FD RX12 317 12 51 0 := ⟨RX12, TX12, 67, rfl, by decide, rfl, rfl, inBX12, lkX12_317⟩
theorem fpX12_317 : FP RX12 317 12 51 0 .int := ⟨RX12, TX12, 67, tyX12, rfl, by decide, rfl, rfl, inBX12, lkX12_317, tyX12_ok, nmX12, rfl, rfl⟩
theorem lkX12_320 : Cond.fieldLink RX12 320 (TX12 38).1 (TX12 38).2.1 (TX12 38).2.2.1 ∈ BIG := (tb6 (List.mem_of_getElem? (i := 70) rfl) rfl)
theorem fdX12_320 : FD RX12 320 12 38 0 := ⟨RX12, TX12, 67, rfl, by decide, rfl, rfl, inBX12, lkX12_320⟩
theorem fpX12_320 : FP RX12 320 12 38 0 .int := ⟨RX12, TX12, 67, tyX12, rfl, by decide, rfl, rfl, inBX12, lkX12_320, tyX12_ok, nmX12, rfl, rfl⟩
theorem lkX12_375 : Cond.fieldLink RX12 375 (TX12 52).1 (TX12 52).2.1 (TX12 52).2.2.1 ∈ BIG := (tb6 (List.mem_of_getElem? (i := 84) rfl) rfl)
theorem fdX12_375 : FD RX12 375 12 52 0 := ⟨RX12, TX12, 67, rfl, by decide, rfl, rfl, inBX12, lkX12_375⟩
theorem fpX12_375 : FP RX12 375 12 52 0 .int := ⟨RX12, TX12, 67, tyX12, rfl, by decide, rfl, rfl, inBX12, lkX12_375, tyX12_ok, nmX12, rfl, rfl⟩
theorem lkX12_452 : Cond.fieldLink RX12 452 (TX12 56).1 (TX12 56).2.1 (TX12 56).2.2.1 ∈ BIG := (tb6 (List.mem_of_getElem? (i := 88) rfl) rfl)
theorem fdX12_452 : FD RX12 452 12 56 0 := ⟨RX12, TX12, 67, rfl, by decide, rfl, rfl, inBX12, lkX12_452⟩
theorem fpX12_452 : FP RX12 452 12 56 0 .int := ⟨RX12, TX12, 67, tyX12, rfl, by decide, rfl, rfl, inBX12, lkX12_452, tyX12_ok, nmX12, rfl, rfl⟩
theorem lkX12_455 : Cond.fieldLink RX12 455 (TX12 57).1 (TX12 57).2.1 (TX12 57).2.2.1 ∈ BIG := (tb6 (List.mem_of_getElem? (i := 89) rfl) rfl)
theorem fdX12_455 : FD RX12 455 12 57 0 := ⟨RX12, TX12, 67, rfl, by decide, rfl, rfl, inBX12, lkX12_455⟩
theorem fpX12_455 : FP RX12 455 12 57 0 .int := ⟨RX12, TX12, 67, tyX12, rfl, by decide, rfl, rfl, inBX12, lkX12_455, tyX12_ok, nmX12, rfl, rfl⟩
theorem lkX2_12 : Cond.fieldLink RX2 12 (TX2 0).1 (TX2 0).2.1 (TX2 0).2.2.1 ∈ BIG := (tb2 (List.mem_of_getElem? (i := 197) rfl) rfl)
theorem fdX2_12 : FD RX2 12 2 0 2 := ⟨RX2, TX2, 5, rfl, by decide, rfl, rfl, inBX2, lkX2_12⟩
theorem lkX2_18 : Cond.fieldLink RX2 18 (TX2 1).1 (TX2 1).2.1 (TX2 1).2.2.1 ∈ BIG := (tb2 (List.mem_of_getElem? (i := 198) rfl) rfl)
theorem fdX2_18 : FD RX2 18 2 1 2 := ⟨RX2, TX2, 5, rfl, by decide, rfl, rfl, inBX2, lkX2_18⟩
theorem lkX2_22 : Cond.fieldLink RX2 22 (TX2 2).1 (TX2 2).2.1 (TX2 2).2.2.1 ∈ BIG := (tb2 (List.mem_of_getElem? (i := 199) rfl) rfl)
theorem fdX2_22 : FD RX2 22 2 2 0 := ⟨RX2, TX2, 5, rfl, by decide, rfl, rfl, inBX2, lkX2_22⟩
theorem fpX2_22 : FP RX2 22 2 2 0 .int := ⟨RX2, TX2, 5, tyX2, rfl, by decide, rfl, rfl, inBX2, lkX2_22, tyX2_ok, nmX2, rfl, rfl⟩
theorem lkX2_36 : Cond.fieldLink RX2 36 (TX0 3).1 (TX0 3).2.1 (TX0 3).2.2.1 ∈ BIG := (tb2 (List.mem_of_getElem? (i := 63) rfl) rfl)
theorem fdX2_36 : FD RX2 36 0 3 2 := ⟨RX0, TX0, 12, rfl, by decide, rfl, rfl, inBX0, lkX2_36⟩
theorem lkX2_52 : Cond.fieldLink RX2 52 (TX0 4).1 (TX0 4).2.1 (TX0 4).2.2.1 ∈ BIG := (tb2 (List.mem_of_getElem? (i := 68) rfl) rfl)
theorem fdX2_52 : FD RX2 52 0 4 2 := ⟨RX0, TX0, 12, rfl, by decide, rfl, rfl, inBX0, lkX2_52⟩
theorem lkX2_55 : Cond.fieldLink RX2 55 (TX0 9).1 (TX0 9).2.1 (TX0 9).2.2.1 ∈ BIG := (tb2 (List.mem_of_getElem? (i := 87) rfl) rfl)
theorem fdX2_55 : FD RX2 55 0 9 0 := ⟨RX0, TX0, 12, rfl, by decide, rfl, rfl, inBX0, lkX2_55⟩
theorem fpX2_55 : FP RX2 55 0 9 0 .int := ⟨RX0, TX0, 12, tyX0, rfl, by decide, rfl, rfl, inBX0, lkX2_55, tyX0_ok, nmX0, rfl, rfl⟩
theorem lkX2_64 : Cond.fieldLink RX2 64 (TX2 3).1 (TX2 3).2.1 (TX2 3).2.2.1 ∈ BIG := (tb2 (List.mem_of_getElem? (i := 200) rfl) rfl)
theorem fdX2_64 : FD RX2 64 2 3 0 := ⟨RX2, TX2, 5, rfl, by decide, rfl, rfl, inBX2, lkX2_64⟩
theorem fpX2_64 : FP RX2 64 2 3 0 .int := ⟨RX2, TX2, 5, tyX2, rfl, by decide, rfl, rfl, inBX2, lkX2_64, tyX2_ok, nmX2, rfl, rfl⟩
theorem lkX2_67 : Cond.fieldLink RX2 67 (TX2 4).1 (TX2 4).2.1 (TX2 4).2.2.1 ∈ BIG := (tb2 (List.mem_of_getElem? (i := 202) rfl) rfl)
theorem fdX2_67 : FD RX2 67 2 4 0 := ⟨RX2, TX2, 5, rfl, by decide, rfl, rfl, inBX2, lkX2_67⟩
theorem fpX2_67 : FP RX2 67 2 4 0 .int := ⟨RX2, TX2, 5, tyX2, rfl, by decide, rfl, rfl, inBX2, lkX2_67, tyX2_ok, nmX2, rfl, rfl⟩
theorem lkX3_11 : Cond.fieldLink RX3 11 (TX3 0).1 (TX3 0).2.1 (TX3 0).2.2.1 ∈ BIG := (tb1 (List.mem_of_getElem? (i := 189) rfl) rfl)
theorem fdX3_11 : FD RX3 11 3 0 2 := ⟨RX3, TX3, 8, rfl, by decide, rfl, rfl, inBX3, lkX3_11⟩
theorem lkX3_15 : Cond.fieldLink RX3 15 (TX3 1).1 (TX3 1).2.1 (TX3 1).2.2.1 ∈ BIG := (tb1 (List.mem_of_getElem? (i := 190) rfl) rfl)
theorem fdX3_15 : FD RX3 15 3 1 2 := ⟨RX3, TX3, 8, rfl, by decide, rfl, rfl, inBX3, lkX3_15⟩
theorem lkX3_18 : Cond.fieldLink RX3 18 (TX3 2).1 (TX3 2).2.1 (TX3 2).2.2.1 ∈ BIG := (tb1 (List.mem_of_getElem? (i := 191) rfl) rfl)
theorem fdX3_18 : FD RX3 18 3 2 2 := ⟨RX3, TX3, 8, rfl, by decide, rfl, rfl, inBX3, lkX3_18⟩
theorem lkX3_21 : Cond.fieldLink RX3 21 (TX3 3).1 (TX3 3).2.1 (TX3 3).2.2.1 ∈ BIG := (tb1 (List.mem_of_getElem? (i := 192) rfl) rfl)
theorem fdX3_21 : FD RX3 21 3 3 2 := ⟨RX3, TX3, 8, rfl, by decide, rfl, rfl, inBX3, lkX3_21⟩
theorem lkX3_24 : Cond.fieldLink RX3 24 (TX3 4).1 (TX3 4).2.1 (TX3 4).2.2.1 ∈ BIG := (tb1 (List.mem_of_getElem? (i := 193) rfl) rfl)
theorem fdX3_24 : FD RX3 24 3 4 2 := ⟨RX3, TX3, 8, rfl, by decide, rfl, rfl, inBX3, lkX3_24⟩
theorem lkX3_28 : Cond.fieldLink RX3 28 (TX3 5).1 (TX3 5).2.1 (TX3 5).2.2.1 ∈ BIG := (tb1 (List.mem_of_getElem? (i := 195) rfl) rfl)
theorem fdX3_28 : FD RX3 28 3 5 2 := ⟨RX3, TX3, 8, rfl, by decide, rfl, rfl, inBX3, lkX3_28⟩
theorem lkX3_31 : Cond.fieldLink RX3 31 (TX3 6).1 (TX3 6).2.1 (TX3 6).2.2.1 ∈ BIG := (tb1 (List.mem_of_getElem? (i := 196) rfl) rfl)
theorem fdX3_31 : FD RX3 31 3 6 0 := ⟨RX3, TX3, 8, rfl, by decide, rfl, rfl, inBX3, lkX3_31⟩
theorem fpX3_31 : FP RX3 31 3 6 0 .int := ⟨RX3, TX3, 8, tyX3, rfl, by decide, rfl, rfl, inBX3, lkX3_31, tyX3_ok, nmX3, rfl, rfl⟩
theorem lkX3_35 : Cond.fieldLink RX3 35 (TX3 7).1 (TX3 7).2.1 (TX3 7).2.2.1 ∈ BIG := (tb1 (List.mem_of_getElem? (i := 199) rfl) rfl)
theorem fdX3_35 : FD RX3 35 3 7 0 := ⟨RX3, TX3, 8, rfl, by decide, rfl, rfl, inBX3, lkX3_35⟩
theorem fpX3_35 : FP RX3 35 3 7 0 .int := ⟨RX3, TX3, 8, tyX3, rfl, by decide, rfl, rfl, inBX3, lkX3_35, tyX3_ok, nmX3, rfl, rfl⟩
theorem lkX4_11 : Cond.fieldLink RX4 11 (TX4 0).1 (TX4 0).2.1 (TX4 0).2.2.1 ∈ BIG := (tb2 (List.mem_of_getElem? (i := 221) rfl) rfl)
theorem fdX4_11 : FD RX4 11 4 0 2 := ⟨RX4, TX4, 5, rfl, by decide, rfl, rfl, inBX4, lkX4_11⟩
theorem lkX4_15 : Cond.fieldLink RX4 15 (TX4 1).1 (TX4 1).2.1 (TX4 1).2.2.1 ∈ BIG := (tb2 (List.mem_of_getElem? (i := 222) rfl) rfl)
theorem fdX4_15 : FD RX4 15 4 1 2 := ⟨RX4, TX4, 5, rfl, by decide, rfl, rfl, inBX4, lkX4_15⟩
theorem lkX4_19 : Cond.fieldLink RX4 19 (TX4 2).1 (TX4 2).2.1 (TX4 2).2.2.1 ∈ BIG := (tb2 (List.mem_of_getElem? (i := 223) rfl) rfl)
theorem fdX4_19 : FD RX4 19 4 2 2 := ⟨RX4, TX4, 5, rfl, by decide, rfl, rfl, inBX4, lkX4_19⟩
theorem lkX4_22 : Cond.fieldLink RX4 22 (TX6 0).1 (TX6 0).2.1 (TX6 0).2.2.1 ∈ BIG := (tb1 (List.mem_of_getElem? (i := 220) rfl) rfl)
theorem fdX4_22 : FD RX4 22 6 0 2 := ⟨RX6, TX6, 11, rfl, by decide, rfl, rfl, inBX6, lkX4_22⟩
theorem lkX4_28 : Cond.fieldLink RX4 28 (TX9 2).1 (TX9 2).2.1 (TX9 2).2.2.1 ∈ BIG := (tb1 (List.mem_of_getElem? (i := 170) rfl) rfl)
theorem fdX4_28 : FD RX4 28 9 2 0 := ⟨RX9, TX9, 3, rfl, by decide, rfl, rfl, inBX9, lkX4_28⟩
theorem fpX4_28 : FP RX4 28 9 2 0 .int := ⟨RX9, TX9, 3, tyX9, rfl, by decide, rfl, rfl, inBX9, lkX4_28, tyX9_ok, nmX9, rfl, rfl⟩
theorem lkX4_40 : Cond.fieldLink RX4 40 (TX6 1).1 (TX6 1).2.1 (TX6 1).2.2.1 ∈ BIG := (tb1 (List.mem_of_getElem? (i := 226) rfl) rfl)
theorem fdX4_40 : FD RX4 40 6 1 2 := ⟨RX6, TX6, 11, rfl, by decide, rfl, rfl, inBX6, lkX4_40⟩
theorem lkX4_62 : Cond.fieldLink RX4 62 (TX0 1).1 (TX0 1).2.1 (TX0 1).2.2.1 ∈ BIG := (tb2 (List.mem_of_getElem? (i := 56) rfl) rfl)
theorem fdX4_62 : FD RX4 62 0 1 2 := ⟨RX0, TX0, 12, rfl, by decide, rfl, rfl, inBX0, lkX4_62⟩
theorem lkX4_67 : Cond.fieldLink RX4 67 (TX4 3).1 (TX4 3).2.1 (TX4 3).2.2.1 ∈ BIG := (tb2 (List.mem_of_getElem? (i := 225) rfl) rfl)
theorem fdX4_67 : FD RX4 67 4 3 0 := ⟨RX4, TX4, 5, rfl, by decide, rfl, rfl, inBX4, lkX4_67⟩
theorem fpX4_67 : FP RX4 67 4 3 0 .int := ⟨RX4, TX4, 5, tyX4, rfl, by decide, rfl, rfl, inBX4, lkX4_67, tyX4_ok, nmX4, rfl, rfl⟩
theorem lkX4_70 : Cond.fieldLink RX4 70 (TX4 4).1 (TX4 4).2.1 (TX4 4).2.2.1 ∈ BIG := (tb2 (List.mem_of_getElem? (i := 227) rfl) rfl)
theorem fdX4_70 : FD RX4 70 4 4 0 := ⟨RX4, TX4, 5, rfl, by decide, rfl, rfl, inBX4, lkX4_70⟩
theorem fpX4_70 : FP RX4 70 4 4 0 .int := ⟨RX4, TX4, 5, tyX4, rfl, by decide, rfl, rfl, inBX4, lkX4_70, tyX4_ok, nmX4, rfl, rfl⟩
theorem lkX5_9 : Cond.fieldLink RX5 9 (TX5 1).1 (TX5 1).2.1 (TX5 1).2.2.1 ∈ BIG := (tb2 (List.mem_of_getElem? (i := 130) rfl) rfl)
theorem fdX5_9 : FD RX5 9 5 1 0 := ⟨RX5, TX5, 4, rfl, by decide, rfl, rfl, inBX5, lkX5_9⟩
theorem fpX5_9 : FP RX5 9 5 1 0 .int := ⟨RX5, TX5, 4, tyX5, rfl, by decide, rfl, rfl, inBX5, lkX5_9, tyX5_ok, nmX5, rfl, rfl⟩
theorem lkX5_15 : Cond.fieldLink RX5 15 (TX5 2).1 (TX5 2).2.1 (TX5 2).2.2.1 ∈ BIG := (tb2 (List.mem_of_getElem? (i := 131) rfl) rfl)
theorem fdX5_15 : FD RX5 15 5 2 0 := ⟨RX5, TX5, 4, rfl, by decide, rfl, rfl, inBX5, lkX5_15⟩
theorem fpX5_15 : FP RX5 15 5 2 0 .boolean := ⟨RX5, TX5, 4, tyX5, rfl, by decide, rfl, rfl, inBX5, lkX5_15, tyX5_ok, nmX5, rfl, rfl⟩
theorem lkX5_19 : Cond.fieldLink RX5 19 (TX5 3).1 (TX5 3).2.1 (TX5 3).2.2.1 ∈ BIG := (tb2 (List.mem_of_getElem? (i := 132) rfl) rfl)
theorem fdX5_19 : FD RX5 19 5 3 0 := ⟨RX5, TX5, 4, rfl, by decide, rfl, rfl, inBX5, lkX5_19⟩
theorem fpX5_19 : FP RX5 19 5 3 0 .boolean := ⟨RX5, TX5, 4, tyX5, rfl, by decide, rfl, rfl, inBX5, lkX5_19, tyX5_ok, nmX5, rfl, rfl⟩
theorem lkX5_22 : Cond.fieldLink RX5 22 (TX5 0).1 (TX5 0).2.1 (TX5 0).2.2.1 ∈ BIG := (tb2 (List.mem_of_getElem? (i := 129) rfl) rfl)
theorem fdX5_22 : FD RX5 22 5 0 0 := ⟨RX5, TX5, 4, rfl, by decide, rfl, rfl, inBX5, lkX5_22⟩
theorem fpX5_22 : FP RX5 22 5 0 0 .int := ⟨RX5, TX5, 4, tyX5, rfl, by decide, rfl, rfl, inBX5, lkX5_22, tyX5_ok, nmX5, rfl, rfl⟩
theorem lkX5_28 : Cond.fieldLink RX5 28 (TX6 6).1 (TX6 6).2.1 (TX6 6).2.2.1 ∈ BIG := (tb2 (List.mem_of_getElem? (i := 7) rfl) rfl)
theorem fdX5_28 : FD RX5 28 6 6 0 := ⟨RX6, TX6, 11, rfl, by decide, rfl, rfl, inBX6, lkX5_28⟩
theorem fpX5_28 : FP RX5 28 6 6 0 .int := ⟨RX6, TX6, 11, tyX6, rfl, by decide, rfl, rfl, inBX6, lkX5_28, tyX6_ok, nmX6, rfl, rfl⟩
theorem lkX5_37 : Cond.fieldLink RX5 37 (TX6 3).1 (TX6 3).2.1 (TX6 3).2.2.1 ∈ BIG := (tb1 (List.mem_of_getElem? (i := 237) rfl) rfl)
theorem fdX5_37 : FD RX5 37 6 3 2 := ⟨RX6, TX6, 11, rfl, by decide, rfl, rfl, inBX6, lkX5_37⟩
theorem lkX5_45 : Cond.fieldLink RX5 45 (TX6 4).1 (TX6 4).2.1 (TX6 4).2.2.1 ∈ BIG := (tb2 (List.mem_of_getElem? (i := 1) rfl) rfl)
theorem fdX5_45 : FD RX5 45 6 4 2 := ⟨RX6, TX6, 11, rfl, by decide, rfl, rfl, inBX6, lkX5_45⟩
theorem lkX5_54 : Cond.fieldLink RX5 54 (TX6 2).1 (TX6 2).2.1 (TX6 2).2.2.1 ∈ BIG := (tb1 (List.mem_of_getElem? (i := 233) rfl) rfl)
theorem fdX5_54 : FD RX5 54 6 2 2 := ⟨RX6, TX6, 11, rfl, by decide, rfl, rfl, inBX6, lkX5_54⟩
theorem lkX5_60 : Cond.fieldLink RX5 60 (TX6 0).1 (TX6 0).2.1 (TX6 0).2.2.1 ∈ BIG := (tb1 (List.mem_of_getElem? (i := 224) rfl) rfl)
theorem fdX5_60 : FD RX5 60 6 0 2 := ⟨RX6, TX6, 11, rfl, by decide, rfl, rfl, inBX6, lkX5_60⟩
theorem lkX5_63 : Cond.fieldLink RX5 63 (TX9 2).1 (TX9 2).2.1 (TX9 2).2.2.1 ∈ BIG := (tb1 (List.mem_of_getElem? (i := 173) rfl) rfl)
theorem fdX5_63 : FD RX5 63 9 2 0 := ⟨RX9, TX9, 3, rfl, by decide, rfl, rfl, inBX9, lkX5_63⟩
theorem fpX5_63 : FP RX5 63 9 2 0 .int := ⟨RX9, TX9, 3, tyX9, rfl, by decide, rfl, rfl, inBX9, lkX5_63, tyX9_ok, nmX9, rfl, rfl⟩
theorem lkX5_68 : Cond.fieldLink RX5 68 (TX0 4).1 (TX0 4).2.1 (TX0 4).2.2.1 ∈ BIG := (tb2 (List.mem_of_getElem? (i := 70) rfl) rfl)
theorem fdX5_68 : FD RX5 68 0 4 2 := ⟨RX0, TX0, 12, rfl, by decide, rfl, rfl, inBX0, lkX5_68⟩
theorem lkX5_78 : Cond.fieldLink RX5 78 (TX0 9).1 (TX0 9).2.1 (TX0 9).2.2.1 ∈ BIG := (tb2 (List.mem_of_getElem? (i := 89) rfl) rfl)
theorem fdX5_78 : FD RX5 78 0 9 0 := ⟨RX0, TX0, 12, rfl, by decide, rfl, rfl, inBX0, lkX5_78⟩
theorem fpX5_78 : FP RX5 78 0 9 0 .int := ⟨RX0, TX0, 12, tyX0, rfl, by decide, rfl, rfl, inBX0, lkX5_78, tyX0_ok, nmX0, rfl, rfl⟩
theorem lkX5_93 : Cond.fieldLink RX5 93 (TX0 0).1 (TX0 0).2.1 (TX0 0).2.2.1 ∈ BIG := (tb2 (List.mem_of_getElem? (i := 53) rfl) rfl)
theorem fdX5_93 : FD RX5 93 0 0 2 := ⟨RX0, TX0, 12, rfl, by decide, rfl, rfl, inBX0, lkX5_93⟩
theorem lkX5_101 : Cond.fieldLink RX5 101 (TX0 1).1 (TX0 1).2.1 (TX0 1).2.2.1 ∈ BIG := (tb2 (List.mem_of_getElem? (i := 59) rfl) rfl)
theorem fdX5_101 : FD RX5 101 0 1 2 := ⟨RX0, TX0, 12, rfl, by decide, rfl, rfl, inBX0, lkX5_101⟩
theorem lkX5_104 : Cond.fieldLink RX5 104 (TX6 1).1 (TX6 1).2.1 (TX6 1).2.2.1 ∈ BIG := (tb1 (List.mem_of_getElem? (i := 230) rfl) rfl)
theorem fdX5_104 : FD RX5 104 6 1 2 := ⟨RX6, TX6, 11, rfl, by decide, rfl, rfl, inBX6, lkX5_104⟩
theorem lkX5_123 : Cond.fieldLink RX5 123 (TX0 10).1 (TX0 10).2.1 (TX0 10).2.2.1 ∈ BIG := (tb2 (List.mem_of_getElem? (i := 94) rfl) rfl)
theorem fdX5_123 : FD RX5 123 0 10 0 := ⟨RX0, TX0, 12, rfl, by decide, rfl, rfl, inBX0, lkX5_123⟩
theorem fpX5_123 : FP RX5 123 0 10 0 .int := ⟨RX0, TX0, 12, tyX0, rfl, by decide, rfl, rfl, inBX0, lkX5_123, tyX0_ok, nmX0, rfl, rfl⟩
theorem lkX5_130 : Cond.fieldLink RX5 130 (TX0 7).1 (TX0 7).2.1 (TX0 7).2.2.1 ∈ BIG := (tb2 (List.mem_of_getElem? (i := 83) rfl) rfl)
theorem fdX5_130 : FD RX5 130 0 7 2 := ⟨RX0, TX0, 12, rfl, by decide, rfl, rfl, inBX0, lkX5_130⟩
theorem lkX5_137 : Cond.fieldLink RX5 137 (TX0 6).1 (TX0 6).2.1 (TX0 6).2.2.1 ∈ BIG := (tb2 (List.mem_of_getElem? (i := 79) rfl) rfl)
theorem fdX5_137 : FD RX5 137 0 6 2 := ⟨RX0, TX0, 12, rfl, by decide, rfl, rfl, inBX0, lkX5_137⟩
theorem lkX5_148 : Cond.fieldLink RX5 148 (TX0 8).1 (TX0 8).2.1 (TX0 8).2.2.1 ∈ BIG := (tb2 (List.mem_of_getElem? (i := 86) rfl) rfl)
theorem fdX5_148 : FD RX5 148 0 8 2 := ⟨RX0, TX0, 12, rfl, by decide, rfl, rfl, inBX0, lkX5_148⟩
theorem lkX5_151 : Cond.fieldLink RX5 151 (TX0 5).1 (TX0 5).2.1 (TX0 5).2.2.1 ∈ BIG := (tb2 (List.mem_of_getElem? (i := 76) rfl) rfl)
theorem fdX5_151 : FD RX5 151 0 5 2 := ⟨RX0, TX0, 12, rfl, by decide, rfl, rfl, inBX0, lkX5_151⟩
theorem lkX5_154 : Cond.fieldLink RX5 154 (TX0 3).1 (TX0 3).2.1 (TX0 3).2.2.1 ∈ BIG := (tb2 (List.mem_of_getElem? (i := 66) rfl) rfl)
theorem fdX5_154 : FD RX5 154 0 3 2 := ⟨RX0, TX0, 12, rfl, by decide, rfl, rfl, inBX0, lkX5_154⟩
theorem lkX6_14 : Cond.fieldLink RX6 14 (TX6 0).1 (TX6 0).2.1 (TX6 0).2.2.1 ∈ BIG := (tb1 (List.mem_of_getElem? (i := 219) rfl) rfl)
theorem fdX6_14 : FD RX6 14 6 0 2 := ⟨RX6, TX6, 11, rfl, by decide, rfl, rfl, inBX6, lkX6_14⟩
theorem lkX6_20 : Cond.fieldLink RX6 20 (TX6 1).1 (TX6 1).2.1 (TX6 1).2.2.1 ∈ BIG := (tb1 (List.mem_of_getElem? (i := 225) rfl) rfl)
theorem fdX6_20 : FD RX6 20 6 1 2 := ⟨RX6, TX6, 11, rfl, by decide, rfl, rfl, inBX6, lkX6_20⟩
theorem lkX6_23 : Cond.fieldLink RX6 23 (TX6 2).1 (TX6 2).2.1 (TX6 2).2.2.1 ∈ BIG := (tb1 (List.mem_of_getElem? (i := 231) rfl) rfl)
theorem fdX6_23 : FD RX6 23 6 2 2 := ⟨RX6, TX6, 11, rfl, by decide, rfl, rfl, inBX6, lkX6_23⟩
theorem lkX6_26 : Cond.fieldLink RX6 26 (TX6 3).1 (TX6 3).2.1 (TX6 3).2.2.1 ∈ BIG := (tb1 (List.mem_of_getElem? (i := 235) rfl) rfl)
theorem fdX6_26 : FD RX6 26 6 3 2 := ⟨RX6, TX6, 11, rfl, by decide, rfl, rfl, inBX6, lkX6_26⟩
theorem lkX6_29 : Cond.fieldLink RX6 29 (TX6 4).1 (TX6 4).2.1 (TX6 4).2.2.1 ∈ BIG := (tb1 (List.mem_of_getElem? (i := 239) rfl) rfl)
theorem fdX6_29 : FD RX6 29 6 4 2 := ⟨RX6, TX6, 11, rfl, by decide, rfl, rfl, inBX6, lkX6_29⟩
theorem lkX6_35 : Cond.fieldLink RX6 35 (TX6 5).1 (TX6 5).2.1 (TX6 5).2.2.1 ∈ BIG := (tb2 (List.mem_of_getElem? (i := 3) rfl) rfl)
theorem fdX6_35 : FD RX6 35 6 5 2 := ⟨RX6, TX6, 11, rfl, by decide, rfl, rfl, inBX6, lkX6_35⟩
theorem lkX6_39 : Cond.fieldLink RX6 39 (TX6 6).1 (TX6 6).2.1 (TX6 6).2.2.1 ∈ BIG := (tb2 (List.mem_of_getElem? (i := 6) rfl) rfl)
theorem fdX6_39 : FD RX6 39 6 6 0 := ⟨RX6, TX6, 11, rfl, by decide, rfl, rfl, inBX6, lkX6_39⟩
theorem fpX6_39 : FP RX6 39 6 6 0 .int := ⟨RX6, TX6, 11, tyX6, rfl, by decide, rfl, rfl, inBX6, lkX6_39, tyX6_ok, nmX6, rfl, rfl⟩
theorem lkX6_43 : Cond.fieldLink RX6 43 (TX9 2).1 (TX9 2).2.1 (TX9 2).2.2.1 ∈ BIG := (tb1 (List.mem_of_getElem? (i := 171) rfl) rfl)
theorem fdX6_43 : FD RX6 43 9 2 0 := ⟨RX9, TX9, 3, rfl, by decide, rfl, rfl, inBX9, lkX6_43⟩
theorem fpX6_43 : FP RX6 43 9 2 0 .int := ⟨RX9, TX9, 3, tyX9, rfl, by decide, rfl, rfl, inBX9, lkX6_43, tyX9_ok, nmX9, rfl, rfl⟩
theorem lkX6_49 : Cond.fieldLink RX6 49 (TX6 7).1 (TX6 7).2.1 (TX6 7).2.2.1 ∈ BIG := (tb2 (List.mem_of_getElem? (i := 10) rfl) rfl)
theorem fdX6_49 : FD RX6 49 6 7 0 := ⟨RX6, TX6, 11, rfl, by decide, rfl, rfl, inBX6, lkX6_49⟩
theorem fpX6_49 : FP RX6 49 6 7 0 .boolean := ⟨RX6, TX6, 11, tyX6, rfl, by decide, rfl, rfl, inBX6, lkX6_49, tyX6_ok, nmX6, rfl, rfl⟩
theorem lkX6_53 : Cond.fieldLink RX6 53 (TX6 8).1 (TX6 8).2.1 (TX6 8).2.2.1 ∈ BIG := (tb2 (List.mem_of_getElem? (i := 12) rfl) rfl)
theorem fdX6_53 : FD RX6 53 6 8 0 := ⟨RX6, TX6, 11, rfl, by decide, rfl, rfl, inBX6, lkX6_53⟩
theorem fpX6_53 : FP RX6 53 6 8 0 .int := ⟨RX6, TX6, 11, tyX6, rfl, by decide, rfl, rfl, inBX6, lkX6_53, tyX6_ok, nmX6, rfl, rfl⟩
theorem lkX6_56 : Cond.fieldLink RX6 56 (TX6 9).1 (TX6 9).2.1 (TX6 9).2.2.1 ∈ BIG := (tb2 (List.mem_of_getElem? (i := 15) rfl) rfl)
theorem fdX6_56 : FD RX6 56 6 9 0 := ⟨RX6, TX6, 11, rfl, by decide, rfl, rfl, inBX6, lkX6_56⟩
theorem fpX6_56 : FP RX6 56 6 9 0 .boolean := ⟨RX6, TX6, 11, tyX6, rfl, by decide, rfl, rfl, inBX6, lkX6_56, tyX6_ok, nmX6, rfl, rfl⟩
theorem lkX6_59 : Cond.fieldLink RX6 59 (TX6 10).1 (TX6 10).2.1 (TX6 10).2.2.1 ∈ BIG := (tb2 (List.mem_of_getElem? (i := 18) rfl) rfl)
theorem fdX6_59 : FD RX6 59 6 10 0 := ⟨RX6, TX6, 11, rfl, by decide, rfl, rfl, inBX6, lkX6_59⟩
theorem fpX6_59 : FP RX6 59 6 10 0 .int := ⟨RX6, TX6, 11, tyX6, rfl, by decide, rfl, rfl, inBX6, lkX6_59, tyX6_ok, nmX6, rfl, rfl⟩
theorem lkX6_79 : Cond.fieldLink RX6 79 (TX0 1).1 (TX0 1).2.1 (TX0 1).2.2.1 ∈ BIG := (tb2 (List.mem_of_getElem? (i := 57) rfl) rfl)
theorem fdX6_79 : FD RX6 79 0 1 2 := ⟨RX0, TX0, 12, rfl, by decide, rfl, rfl, inBX0, lkX6_79⟩
theorem lkX6_85 : Cond.fieldLink RX6 85 (TX0 3).1 (TX0 3).2.1 (TX0 3).2.2.1 ∈ BIG := (tb2 (List.mem_of_getElem? (i := 64) rfl) rfl)
theorem fdX6_85 : FD RX6 85 0 3 2 := ⟨RX0, TX0, 12, rfl, by decide, rfl, rfl, inBX0, lkX6_85⟩
theorem lkX6_91 : Cond.fieldLink RX6 91 (TX3 4).1 (TX3 4).2.1 (TX3 4).2.2.1 ∈ BIG := (tb1 (List.mem_of_getElem? (i := 194) rfl) rfl)
theorem fdX6_91 : FD RX6 91 3 4 2 := ⟨RX3, TX3, 8, rfl, by decide, rfl, rfl, inBX3, lkX6_91⟩
theorem lkX6_99 : Cond.fieldLink RX6 99 (TX0 5).1 (TX0 5).2.1 (TX0 5).2.2.1 ∈ BIG := (tb2 (List.mem_of_getElem? (i := 73) rfl) rfl)
theorem fdX6_99 : FD RX6 99 0 5 2 := ⟨RX0, TX0, 12, rfl, by decide, rfl, rfl, inBX0, lkX6_99⟩
theorem lkX6_102 : Cond.fieldLink RX6 102 (TX0 0).1 (TX0 0).2.1 (TX0 0).2.2.1 ∈ BIG := (tb2 (List.mem_of_getElem? (i := 52) rfl) rfl)
theorem fdX6_102 : FD RX6 102 0 0 2 := ⟨RX0, TX0, 12, rfl, by decide, rfl, rfl, inBX0, lkX6_102⟩
theorem lkX6_105 : Cond.fieldLink RX6 105 (TX0 9).1 (TX0 9).2.1 (TX0 9).2.2.1 ∈ BIG := (tb2 (List.mem_of_getElem? (i := 90) rfl) rfl)
theorem fdX6_105 : FD RX6 105 0 9 0 := ⟨RX0, TX0, 12, rfl, by decide, rfl, rfl, inBX0, lkX6_105⟩
theorem fpX6_105 : FP RX6 105 0 9 0 .int := ⟨RX0, TX0, 12, tyX0, rfl, by decide, rfl, rfl, inBX0, lkX6_105, tyX0_ok, nmX0, rfl, rfl⟩
theorem lkX7_11 : Cond.fieldLink RX7 11 (TX7 0).1 (TX7 0).2.1 (TX7 0).2.2.1 ∈ BIG := (tb2 (List.mem_of_getElem? (i := 148) rfl) rfl)
theorem fdX7_11 : FD RX7 11 7 0 2 := ⟨RX7, TX7, 2, rfl, by decide, rfl, rfl, inBX7, lkX7_11⟩
theorem lkX7_15 : Cond.fieldLink RX7 15 (TX7 1).1 (TX7 1).2.1 (TX7 1).2.2.1 ∈ BIG := (tb2 (List.mem_of_getElem? (i := 149) rfl) rfl)
theorem fdX7_15 : FD RX7 15 7 1 0 := ⟨RX7, TX7, 2, rfl, by decide, rfl, rfl, inBX7, lkX7_15⟩
theorem fpX7_15 : FP RX7 15 7 1 0 .int := ⟨RX7, TX7, 2, tyX7, rfl, by decide, rfl, rfl, inBX7, lkX7_15, tyX7_ok, nmX7, rfl, rfl⟩
theorem lkX7_25 : Cond.fieldLink RX7 25 (TX0 0).1 (TX0 0).2.1 (TX0 0).2.2.1 ∈ BIG := (tb2 (List.mem_of_getElem? (i := 50) rfl) rfl)
theorem fdX7_25 : FD RX7 25 0 0 2 := ⟨RX0, TX0, 12, rfl, by decide, rfl, rfl, inBX0, lkX7_25⟩
theorem lkX7_30 : Cond.fieldLink RX7 30 (TX0 1).1 (TX0 1).2.1 (TX0 1).2.2.1 ∈ BIG := (tb2 (List.mem_of_getElem? (i := 55) rfl) rfl)
theorem fdX7_30 : FD RX7 30 0 1 2 := ⟨RX0, TX0, 12, rfl, by decide, rfl, rfl, inBX0, lkX7_30⟩
theorem lkX7_33 : Cond.fieldLink RX7 33 (TX0 4).1 (TX0 4).2.1 (TX0 4).2.2.1 ∈ BIG := (tb2 (List.mem_of_getElem? (i := 69) rfl) rfl)
theorem fdX7_33 : FD RX7 33 0 4 2 := ⟨RX0, TX0, 12, rfl, by decide, rfl, rfl, inBX0, lkX7_33⟩
theorem lkX7_36 : Cond.fieldLink RX7 36 (TX0 7).1 (TX0 7).2.1 (TX0 7).2.2.1 ∈ BIG := (tb2 (List.mem_of_getElem? (i := 81) rfl) rfl)
theorem fdX7_36 : FD RX7 36 0 7 2 := ⟨RX0, TX0, 12, rfl, by decide, rfl, rfl, inBX0, lkX7_36⟩
theorem lkX8_13 : Cond.fieldLink RX8 13 (TX8 1).1 (TX8 1).2.1 (TX8 1).2.2.1 ∈ BIG := (tb1 (List.mem_of_getElem? (i := 127) rfl) rfl)
theorem fdX8_13 : FD RX8 13 8 1 2 := ⟨RX8, TX8, 9, rfl, by decide, rfl, rfl, inBX8, lkX8_13⟩
theorem lkX8_17 : Cond.fieldLink RX8 17 (TX8 2).1 (TX8 2).2.1 (TX8 2).2.2.1 ∈ BIG := (tb1 (List.mem_of_getElem? (i := 128) rfl) rfl)
theorem fdX8_17 : FD RX8 17 8 2 2 := ⟨RX8, TX8, 9, rfl, by decide, rfl, rfl, inBX8, lkX8_17⟩
theorem lkX8_21 : Cond.fieldLink RX8 21 (TX8 8).1 (TX8 8).2.1 (TX8 8).2.2.1 ∈ BIG := (tb1 (List.mem_of_getElem? (i := 135) rfl) rfl)
theorem fdX8_21 : FD RX8 21 8 8 0 := ⟨RX8, TX8, 9, rfl, by decide, rfl, rfl, inBX8, lkX8_21⟩
theorem fpX8_21 : FP RX8 21 8 8 0 .int := ⟨RX8, TX8, 9, tyX8, rfl, by decide, rfl, rfl, inBX8, lkX8_21, tyX8_ok, nmX8, rfl, rfl⟩
theorem lkX8_30 : Cond.fieldLink RX8 30 (TX8 0).1 (TX8 0).2.1 (TX8 0).2.2.1 ∈ BIG := (tb1 (List.mem_of_getElem? (i := 126) rfl) rfl)
theorem fdX8_30 : FD RX8 30 8 0 2 := ⟨RX8, TX8, 9, rfl, by decide, rfl, rfl, inBX8, lkX8_30⟩
theorem lkX8_34 : Cond.fieldLink RX8 34 (TX8 7).1 (TX8 7).2.1 (TX8 7).2.2.1 ∈ BIG := (tb1 (List.mem_of_getElem? (i := 133) rfl) rfl)
theorem fdX8_34 : FD RX8 34 8 7 0 := ⟨RX8, TX8, 9, rfl, by decide, rfl, rfl, inBX8, lkX8_34⟩
theorem fpX8_34 : FP RX8 34 8 7 0 .int := ⟨RX8, TX8, 9, tyX8, rfl, by decide, rfl, rfl, inBX8, lkX8_34, tyX8_ok, nmX8, rfl, rfl⟩
theorem lkX8_46 : Cond.fieldLink RX8 46 (TX10 4).1 (TX10 4).2.1 (TX10 4).2.2.1 ∈ BIG := (tb1 (List.mem_of_getElem? (i := 102) rfl) rfl)
theorem fdX8_46 : FD RX8 46 10 4 0 := ⟨RX10, TX10, 7, rfl, by decide, rfl, rfl, inBX10, lkX8_46⟩
theorem fpX8_46 : FP RX8 46 10 4 0 .int := ⟨RX10, TX10, 7, tyX10, rfl, by decide, rfl, rfl, inBX10, lkX8_46, tyX10_ok, nmX10, rfl, rfl⟩
theorem lkX8_53 : Cond.fieldLink RX8 53 (TX6 10).1 (TX6 10).2.1 (TX6 10).2.2.1 ∈ BIG := (tb2 (List.mem_of_getElem? (i := 17) rfl) rfl)
theorem fdX8_53 : FD RX8 53 6 10 0 := ⟨RX6, TX6, 11, rfl, by decide, rfl, rfl, inBX6, lkX8_53⟩
theorem fpX8_53 : FP RX8 53 6 10 0 .int := ⟨RX6, TX6, 11, tyX6, rfl, by decide, rfl, rfl, inBX6, lkX8_53, tyX6_ok, nmX6, rfl, rfl⟩
theorem lkX8_56 : Cond.fieldLink RX8 56 (TX10 5).1 (TX10 5).2.1 (TX10 5).2.2.1 ∈ BIG := (tb1 (List.mem_of_getElem? (i := 104) rfl) rfl)
theorem fdX8_56 : FD RX8 56 10 5 0 := ⟨RX10, TX10, 7, rfl, by decide, rfl, rfl, inBX10, lkX8_56⟩
theorem fpX8_56 : FP RX8 56 10 5 0 .int := ⟨RX10, TX10, 7, tyX10, rfl, by decide, rfl, rfl, inBX10, lkX8_56, tyX10_ok, nmX10, rfl, rfl⟩
theorem lkX8_59 : Cond.fieldLink RX8 59 (TX6 0).1 (TX6 0).2.1 (TX6 0).2.2.1 ∈ BIG := (tb1 (List.mem_of_getElem? (i := 222) rfl) rfl)
theorem fdX8_59 : FD RX8 59 6 0 2 := ⟨RX6, TX6, 11, rfl, by decide, rfl, rfl, inBX6, lkX8_59⟩
theorem lkX8_67 : Cond.fieldLink RX8 67 (TX6 1).1 (TX6 1).2.1 (TX6 1).2.2.1 ∈ BIG := (tb1 (List.mem_of_getElem? (i := 228) rfl) rfl)
theorem fdX8_67 : FD RX8 67 6 1 2 := ⟨RX6, TX6, 11, rfl, by decide, rfl, rfl, inBX6, lkX8_67⟩
theorem lkX8_73 : Cond.fieldLink RX8 73 (TX6 2).1 (TX6 2).2.1 (TX6 2).2.2.1 ∈ BIG := (tb1 (List.mem_of_getElem? (i := 232) rfl) rfl)
theorem fdX8_73 : FD RX8 73 6 2 2 := ⟨RX6, TX6, 11, rfl, by decide, rfl, rfl, inBX6, lkX8_73⟩
theorem lkX8_80 : Cond.fieldLink RX8 80 (TX6 3).1 (TX6 3).2.1 (TX6 3).2.2.1 ∈ BIG := (tb1 (List.mem_of_getElem? (i := 236) rfl) rfl)
theorem fdX8_80 : FD RX8 80 6 3 2 := ⟨RX6, TX6, 11, rfl, by decide, rfl, rfl, inBX6, lkX8_80⟩
theorem lkX8_86 : Cond.fieldLink RX8 86 (TX6 4).1 (TX6 4).2.1 (TX6 4).2.2.1 ∈ BIG := (tb2 (List.mem_of_getElem? (i := 0) rfl) rfl)
theorem fdX8_86 : FD RX8 86 6 4 2 := ⟨RX6, TX6, 11, rfl, by decide, rfl, rfl, inBX6, lkX8_86⟩
theorem lkX8_98 : Cond.fieldLink RX8 98 (TX6 5).1 (TX6 5).2.1 (TX6 5).2.2.1 ∈ BIG := (tb2 (List.mem_of_getElem? (i := 4) rfl) rfl)
theorem fdX8_98 : FD RX8 98 6 5 2 := ⟨RX6, TX6, 11, rfl, by decide, rfl, rfl, inBX6, lkX8_98⟩
theorem lkX8_133 : Cond.fieldLink RX8 133 (TX10 6).1 (TX10 6).2.1 (TX10 6).2.2.1 ∈ BIG := (tb1 (List.mem_of_getElem? (i := 107) rfl) rfl)
theorem fdX8_133 : FD RX8 133 10 6 0 := ⟨RX10, TX10, 7, rfl, by decide, rfl, rfl, inBX10, lkX8_133⟩
theorem fpX8_133 : FP RX8 133 10 6 0 .int := ⟨RX10, TX10, 7, tyX10, rfl, by decide, rfl, rfl, inBX10, lkX8_133, tyX10_ok, nmX10, rfl, rfl⟩
theorem lkX8_140 : Cond.fieldLink RX8 140 (TX9 2).1 (TX9 2).2.1 (TX9 2).2.2.1 ∈ BIG := (tb1 (List.mem_of_getElem? (i := 174) rfl) rfl)
theorem fdX8_140 : FD RX8 140 9 2 0 := ⟨RX9, TX9, 3, rfl, by decide, rfl, rfl, inBX9, lkX8_140⟩
theorem fpX8_140 : FP RX8 140 9 2 0 .int := ⟨RX9, TX9, 3, tyX9, rfl, by decide, rfl, rfl, inBX9, lkX8_140, tyX9_ok, nmX9, rfl, rfl⟩
theorem lkX8_158 : Cond.fieldLink RX8 158 (TX6 7).1 (TX6 7).2.1 (TX6 7).2.2.1 ∈ BIG := (tb2 (List.mem_of_getElem? (i := 11) rfl) rfl)
theorem fdX8_158 : FD RX8 158 6 7 0 := ⟨RX6, TX6, 11, rfl, by decide, rfl, rfl, inBX6, lkX8_158⟩
theorem fpX8_158 : FP RX8 158 6 7 0 .boolean := ⟨RX6, TX6, 11, tyX6, rfl, by decide, rfl, rfl, inBX6, lkX8_158, tyX6_ok, nmX6, rfl, rfl⟩
theorem lkX8_162 : Cond.fieldLink RX8 162 (TX6 6).1 (TX6 6).2.1 (TX6 6).2.2.1 ∈ BIG := (tb2 (List.mem_of_getElem? (i := 8) rfl) rfl)
theorem fdX8_162 : FD RX8 162 6 6 0 := ⟨RX6, TX6, 11, rfl, by decide, rfl, rfl, inBX6, lkX8_162⟩
theorem fpX8_162 : FP RX8 162 6 6 0 .int := ⟨RX6, TX6, 11, tyX6, rfl, by decide, rfl, rfl, inBX6, lkX8_162, tyX6_ok, nmX6, rfl, rfl⟩
theorem lkX8_165 : Cond.fieldLink RX8 165 (TX6 9).1 (TX6 9).2.1 (TX6 9).2.2.1 ∈ BIG := (tb2 (List.mem_of_getElem? (i := 16) rfl) rfl)
theorem fdX8_165 : FD RX8 165 6 9 0 := ⟨RX6, TX6, 11, rfl, by decide, rfl, rfl, inBX6, lkX8_165⟩
theorem fpX8_165 : FP RX8 165 6 9 0 .boolean := ⟨RX6, TX6, 11, tyX6, rfl, by decide, rfl, rfl, inBX6, lkX8_165, tyX6_ok, nmX6, rfl, rfl⟩
theorem lkX8_169 : Cond.fieldLink RX8 169 (TX6 8).1 (TX6 8).2.1 (TX6 8).2.2.1 ∈ BIG := (tb2 (List.mem_of_getElem? (i := 14) rfl) rfl)
theorem fdX8_169 : FD RX8 169 6 8 0 := ⟨RX6, TX6, 11, rfl, by decide, rfl, rfl, inBX6, lkX8_169⟩
theorem fpX8_169 : FP RX8 169 6 8 0 .int := ⟨RX6, TX6, 11, tyX6, rfl, by decide, rfl, rfl, inBX6, lkX8_169, tyX6_ok, nmX6, rfl, rfl⟩
theorem lkX8_175 : Cond.fieldLink RX8 175 (TX3 7).1 (TX3 7).2.1 (TX3 7).2.2.1 ∈ BIG := (tb1 (List.mem_of_getElem? (i := 200) rfl) rfl)
theorem fdX8_175 : FD RX8 175 3 7 0 := ⟨RX3, TX3, 8, rfl, by decide, rfl, rfl, inBX3, lkX8_175⟩
theorem fpX8_175 : FP RX8 175 3 7 0 .int := ⟨RX3, TX3, 8, tyX3, rfl, by decide, rfl, rfl, inBX3, lkX8_175, tyX3_ok, nmX3, rfl, rfl⟩
theorem lkX8_176 : Cond.fieldLink RX8 176 (TX8 3).1 (TX8 3).2.1 (TX8 3).2.2.1 ∈ BIG := (tb1 (List.mem_of_getElem? (i := 129) rfl) rfl)
theorem fdX8_176 : FD RX8 176 8 3 0 := ⟨RX8, TX8, 9, rfl, by decide, rfl, rfl, inBX8, lkX8_176⟩
theorem fpX8_176 : FP RX8 176 8 3 0 .int := ⟨RX8, TX8, 9, tyX8, rfl, by decide, rfl, rfl, inBX8, lkX8_176, tyX8_ok, nmX8, rfl, rfl⟩
theorem lkX8_179 : Cond.fieldLink RX8 179 (TX8 4).1 (TX8 4).2.1 (TX8 4).2.2.1 ∈ BIG := (tb1 (List.mem_of_getElem? (i := 130) rfl) rfl)
theorem fdX8_179 : FD RX8 179 8 4 0 := ⟨RX8, TX8, 9, rfl, by decide, rfl, rfl, inBX8, lkX8_179⟩
theorem fpX8_179 : FP RX8 179 8 4 0 .int := ⟨RX8, TX8, 9, tyX8, rfl, by decide, rfl, rfl, inBX8, lkX8_179, tyX8_ok, nmX8, rfl, rfl⟩
theorem lkX8_182 : Cond.fieldLink RX8 182 (TX8 5).1 (TX8 5).2.1 (TX8 5).2.2.1 ∈ BIG := (tb1 (List.mem_of_getElem? (i := 131) rfl) rfl)
theorem fdX8_182 : FD RX8 182 8 5 0 := ⟨RX8, TX8, 9, rfl, by decide, rfl, rfl, inBX8, lkX8_182⟩
theorem fpX8_182 : FP RX8 182 8 5 0 .boolean := ⟨RX8, TX8, 9, tyX8, rfl, by decide, rfl, rfl, inBX8, lkX8_182, tyX8_ok, nmX8, rfl, rfl⟩
theorem lkX8_185 : Cond.fieldLink RX8 185 (TX8 6).1 (TX8 6).2.1 (TX8 6).2.2.1 ∈ BIG := (tb1 (List.mem_of_getElem? (i := 132) rfl) rfl)
theorem fdX8_185 : FD RX8 185 8 6 0 := ⟨RX8, TX8, 9, rfl, by decide, rfl, rfl, inBX8, lkX8_185⟩
theorem fpX8_185 : FP RX8 185 8 6 0 .boolean := ⟨RX8, TX8, 9, tyX8, rfl, by decide, rfl, rfl, inBX8, lkX8_185, tyX8_ok, nmX8, rfl, rfl⟩
theorem lkX8_215 : Cond.fieldLink RX8 215 (TX3 6).1 (TX3 6).2.1 (TX3 6).2.2.1 ∈ BIG := (tb1 (List.mem_of_getElem? (i := 197) rfl) rfl)
theorem fdX8_215 : FD RX8 215 3 6 0 := ⟨RX3, TX3, 8, rfl, by decide, rfl, rfl, inBX3, lkX8_215⟩
theorem fpX8_215 : FP RX8 215 3 6 0 .int := ⟨RX3, TX3, 8, tyX3, rfl, by decide, rfl, rfl, inBX3, lkX8_215, tyX3_ok, nmX3, rfl, rfl⟩
theorem lkX9_9 : Cond.fieldLink RX9 9 (TX9 0).1 (TX9 0).2.1 (TX9 0).2.2.1 ∈ BIG := (tb1 (List.mem_of_getElem? (i := 168) rfl) rfl)
theorem fdX9_9 : FD RX9 9 9 0 0 := ⟨RX9, TX9, 3, rfl, by decide, rfl, rfl, inBX9, lkX9_9⟩
theorem lkX9_15 : Cond.fieldLink RX9 15 (TX9 1).1 (TX9 1).2.1 (TX9 1).2.2.1 ∈ BIG := (tb1 (List.mem_of_getElem? (i := 169) rfl) rfl)
theorem fdX9_15 : FD RX9 15 9 1 2 := ⟨RX9, TX9, 3, rfl, by decide, rfl, rfl, inBX9, lkX9_15⟩
theorem lkX9_19 : Cond.fieldLink RX9 19 (TX9 2).1 (TX9 2).2.1 (TX9 2).2.2.1 ∈ BIG := (tb1 (List.mem_of_getElem? (i := 172) rfl) rfl)
theorem fdX9_19 : FD RX9 19 9 2 0 := ⟨RX9, TX9, 3, rfl, by decide, rfl, rfl, inBX9, lkX9_19⟩
theorem fpX9_19 : FP RX9 19 9 2 0 .int := ⟨RX9, TX9, 3, tyX9, rfl, by decide, rfl, rfl, inBX9, lkX9_19, tyX9_ok, nmX9, rfl, rfl⟩
abbrev cwX6_hasTub : Cond := .code yX6_hasTub cX6_hasTub 2 (some .boolean)
theorem cmX6_hasTub : cwX6_hasTub ∈ BIG := (tb3 (List.mem_of_getElem? (i := 7) rfl) rfl)
theorem pdX6_hasTub : yX6_hasTub.cls ≠ "java/lang/invoke/MethodHandle" ∧ yX6_hasTub.cls ≠ "java/lang/invoke/VarHandle" ∧ (parseMethodDescriptor yX6_hasTub.desc).map (fun d => d.parameters.length) = some 1 := by decide +kernel
theorem mdX0_39 : MD RX0 39 yX6_hasTub cwX6_hasTub 1 := ⟨(tb3 (List.mem_of_getElem? (i := 4) rfl) rfl), (tb3 (List.mem_of_getElem? (i := 5) rfl) rfl), (tb3 (List.mem_of_getElem? (i := 6) rfl) rfl), (tb1 (List.mem_of_getElem? (i := 8) rfl) rfl), cmX6_hasTub, pdX6_hasTub⟩
abbrev cwX9_cell : Cond := .code yX9_cell cX9_cell 4 (some .int)
theorem cmX9_cell : cwX9_cell ∈ BIG := (tb3 (List.mem_of_getElem? (i := 11) rfl) rfl)
theorem pdX9_cell : yX9_cell.cls ≠ "java/lang/invoke/MethodHandle" ∧ yX9_cell.cls ≠ "java/lang/invoke/VarHandle" ∧ (parseMethodDescriptor yX9_cell.desc).map (fun d => d.parameters.length) = some 2 := by decide +kernel
theorem mdX0_49 : MD RX0 49 yX9_cell cwX9_cell 2 := ⟨(tb3 (List.mem_of_getElem? (i := 8) rfl) rfl), (tb3 (List.mem_of_getElem? (i := 9) rfl) rfl), (tb3 (List.mem_of_getElem? (i := 10) rfl) rfl), (tb1 (List.mem_of_getElem? (i := 9) rfl) rfl), cmX9_cell, pdX9_cell⟩
abbrev cwX6_hasKnight : Cond := .code yX6_hasKnight cX6_hasKnight 2 (some .boolean)
theorem cmX6_hasKnight : cwX6_hasKnight ∈ BIG := (tb3 (List.mem_of_getElem? (i := 15) rfl) rfl)
theorem pdX6_hasKnight : yX6_hasKnight.cls ≠ "java/lang/invoke/MethodHandle" ∧ yX6_hasKnight.cls ≠ "java/lang/invoke/VarHandle" ∧ (parseMethodDescriptor yX6_hasKnight.desc).map (fun d => d.parameters.length) = some 1 := by decide +kernel
theorem mdX0_55 : MD RX0 55 yX6_hasKnight cwX6_hasKnight 1 := ⟨(tb3 (List.mem_of_getElem? (i := 12) rfl) rfl), (tb3 (List.mem_of_getElem? (i := 13) rfl) rfl), (tb3 (List.mem_of_getElem? (i := 14) rfl) rfl), (tb1 (List.mem_of_getElem? (i := 8) rfl) rfl), cmX6_hasKnight, pdX6_hasKnight⟩
abbrev cwX0_isTub : Cond := .code yX0_isTub cX0_isTub 1 (some .boolean)
theorem cmX0_isTub : cwX0_isTub ∈ BIG := (tb4 (List.mem_of_getElem? (i := 77) rfl) rfl)
theorem pdX0_isTub : yX0_isTub.cls ≠ "java/lang/invoke/MethodHandle" ∧ yX0_isTub.cls ≠ "java/lang/invoke/VarHandle" ∧ (parseMethodDescriptor yX0_isTub.desc).map (fun d => d.parameters.length) = some 1 := by decide +kernel
theorem msX0_81 : MS RX0 81 yX0_isTub cwX0_isTub 1 := ⟨(tb4 (List.mem_of_getElem? (i := 75) rfl) rfl), (tb4 (List.mem_of_getElem? (i := 76) rfl) rfl), (tb1 (List.mem_of_getElem? (i := 11) rfl) rfl), cmX0_isTub, pdX0_isTub⟩
abbrev cwX0_mixedHeat : Cond := .code yX0_mixedHeat cX0_mixedHeat 4 (some .int)
theorem cmX0_mixedHeat : cwX0_mixedHeat ∈ BIG := (tb4 (List.mem_of_getElem? (i := 92) rfl) rfl)
theorem pdX0_mixedHeat : yX0_mixedHeat.cls ≠ "java/lang/invoke/MethodHandle" ∧ yX0_mixedHeat.cls ≠ "java/lang/invoke/VarHandle" ∧ (parseMethodDescriptor yX0_mixedHeat.desc).map (fun d => d.parameters.length) = some 3 := by decide +kernel
theorem mdX0_84 : MD RX0 84 yX0_mixedHeat cwX0_mixedHeat 3 := ⟨(tb4 (List.mem_of_getElem? (i := 89) rfl) rfl), (tb4 (List.mem_of_getElem? (i := 90) rfl) rfl), (tb4 (List.mem_of_getElem? (i := 91) rfl) rfl), (tb1 (List.mem_of_getElem? (i := 11) rfl) rfl), cmX0_mixedHeat, pdX0_mixedHeat⟩
abbrev cwX0_isKnight : Cond := .code yX0_isKnight cX0_isKnight 1 (some .boolean)
theorem cmX0_isKnight : cwX0_isKnight ∈ BIG := (tb4 (List.mem_of_getElem? (i := 107) rfl) rfl)
theorem pdX0_isKnight : yX0_isKnight.cls ≠ "java/lang/invoke/MethodHandle" ∧ yX0_isKnight.cls ≠ "java/lang/invoke/VarHandle" ∧ (parseMethodDescriptor yX0_isKnight.desc).map (fun d => d.parameters.length) = some 1 := by decide +kernel
theorem msX0_88 : MS RX0 88 yX0_isKnight cwX0_isKnight 1 := ⟨(tb4 (List.mem_of_getElem? (i := 105) rfl) rfl), (tb4 (List.mem_of_getElem? (i := 106) rfl) rfl), (tb1 (List.mem_of_getElem? (i := 11) rfl) rfl), cmX0_isKnight, pdX0_isKnight⟩
abbrev cwX0_leave : Cond := .code yX0_leave cX0_leave 3 none
theorem cmX0_leave : cwX0_leave ∈ BIG := (tb4 (List.mem_of_getElem? (i := 111) rfl) rfl)
theorem pdX0_leave : yX0_leave.cls ≠ "java/lang/invoke/MethodHandle" ∧ yX0_leave.cls ≠ "java/lang/invoke/VarHandle" ∧ (parseMethodDescriptor yX0_leave.desc).map (fun d => d.parameters.length) = some 1 := by decide +kernel
theorem mdX0_91 : MD RX0 91 yX0_leave cwX0_leave 1 := ⟨(tb4 (List.mem_of_getElem? (i := 108) rfl) rfl), (tb4 (List.mem_of_getElem? (i := 109) rfl) rfl), (tb4 (List.mem_of_getElem? (i := 110) rfl) rfl), (tb1 (List.mem_of_getElem? (i := 11) rfl) rfl), cmX0_leave, pdX0_leave⟩
abbrev cwX1_record : Cond := .code yX1_record cX1_record 5 (some .int)
theorem cmX1_record : cwX1_record ∈ BIG := (tb5 (List.mem_of_getElem? (i := 71) rfl) rfl)
theorem pdX1_record : yX1_record.cls ≠ "java/lang/invoke/MethodHandle" ∧ yX1_record.cls ≠ "java/lang/invoke/VarHandle" ∧ (parseMethodDescriptor yX1_record.desc).map (fun d => d.parameters.length) = some 4 := by decide +kernel
theorem mdX1_38 : MD RX1 38 yX1_record cwX1_record 4 := ⟨(tb5 (List.mem_of_getElem? (i := 80) rfl) rfl), (tb5 (List.mem_of_getElem? (i := 69) rfl) rfl), (tb5 (List.mem_of_getElem? (i := 70) rfl) rfl), (tb1 (List.mem_of_getElem? (i := 14) rfl) rfl), cmX1_record, pdX1_record⟩
abbrev cwX1_countKnown : Cond := .code yX1_countKnown cX1_countKnown 1 (some .int)
theorem cmX1_countKnown : cwX1_countKnown ∈ BIG := (tb5 (List.mem_of_getElem? (i := 96) rfl) rfl)
theorem pdX1_countKnown : yX1_countKnown.cls ≠ "java/lang/invoke/MethodHandle" ∧ yX1_countKnown.cls ≠ "java/lang/invoke/VarHandle" ∧ (parseMethodDescriptor yX1_countKnown.desc).map (fun d => d.parameters.length) = some 0 := by decide +kernel
theorem mdX1_42 : MD RX1 42 yX1_countKnown cwX1_countKnown 0 := ⟨(tb5 (List.mem_of_getElem? (i := 93) rfl) rfl), (tb5 (List.mem_of_getElem? (i := 94) rfl) rfl), (tb5 (List.mem_of_getElem? (i := 95) rfl) rfl), (tb1 (List.mem_of_getElem? (i := 14) rfl) rfl), cmX1_countKnown, pdX1_countKnown⟩
abbrev cwX10_placed : Cond := .code yX10_placed cX10_placed 2 (some .int)
theorem cmX10_placed : cwX10_placed ∈ BIG := (tb1 (List.mem_of_getElem? (i := 97) rfl) rfl)
theorem pdX10_placed : yX10_placed.cls ≠ "java/lang/invoke/MethodHandle" ∧ yX10_placed.cls ≠ "java/lang/invoke/VarHandle" ∧ (parseMethodDescriptor yX10_placed.desc).map (fun d => d.parameters.length) = some 2 := by decide +kernel
theorem msX10_29 : MS RX10 29 yX10_placed cwX10_placed 2 := ⟨(tb1 (List.mem_of_getElem? (i := 95) rfl) rfl), (tb1 (List.mem_of_getElem? (i := 96) rfl) rfl), (tb1 (List.mem_of_getElem? (i := 3) rfl) rfl), cmX10_placed, pdX10_placed⟩
abbrev cwX10_advance : Cond := .code yX10_advance cX10_advance 2 none
theorem cmX10_advance : cwX10_advance ∈ BIG := (tb3 (List.mem_of_getElem? (i := 90) rfl) rfl)
theorem pdX10_advance : yX10_advance.cls ≠ "java/lang/invoke/MethodHandle" ∧ yX10_advance.cls ≠ "java/lang/invoke/VarHandle" ∧ (parseMethodDescriptor yX10_advance.desc).map (fun d => d.parameters.length) = some 0 := by decide +kernel
theorem mdX10_40 : MD RX10 40 yX10_advance cwX10_advance 0 := ⟨(tb3 (List.mem_of_getElem? (i := 87) rfl) rfl), (tb3 (List.mem_of_getElem? (i := 88) rfl) rfl), (tb3 (List.mem_of_getElem? (i := 89) rfl) rfl), (tb1 (List.mem_of_getElem? (i := 3) rfl) rfl), cmX10_advance, pdX10_advance⟩
abbrev cwX10_byteAt : Cond := .code yX10_byteAt cX10_byteAt 2 (some .int)
theorem cmX10_byteAt : cwX10_byteAt ∈ BIG := (tb3 (List.mem_of_getElem? (i := 94) rfl) rfl)
theorem pdX10_byteAt : yX10_byteAt.cls ≠ "java/lang/invoke/MethodHandle" ∧ yX10_byteAt.cls ≠ "java/lang/invoke/VarHandle" ∧ (parseMethodDescriptor yX10_byteAt.desc).map (fun d => d.parameters.length) = some 1 := by decide +kernel
theorem mdX10_43 : MD RX10 43 yX10_byteAt cwX10_byteAt 1 := ⟨(tb3 (List.mem_of_getElem? (i := 91) rfl) rfl), (tb3 (List.mem_of_getElem? (i := 93) rfl) rfl), (tbp (n := 7) (List.mem_append_left _ (List.mem_of_getElem? (i := 1) rfl)) rfl), (tb1 (List.mem_of_getElem? (i := 3) rfl) rfl), cmX10_byteAt, pdX10_byteAt⟩
abbrev cwX10_isBlank : Cond := .code yX10_isBlank cX10_isBlank 1 (some .boolean)
theorem cmX10_isBlank : cwX10_isBlank ∈ BIG := (tb3 (List.mem_of_getElem? (i := 97) rfl) rfl)
theorem pdX10_isBlank : yX10_isBlank.cls ≠ "java/lang/invoke/MethodHandle" ∧ yX10_isBlank.cls ≠ "java/lang/invoke/VarHandle" ∧ (parseMethodDescriptor yX10_isBlank.desc).map (fun d => d.parameters.length) = some 1 := by decide +kernel
theorem msX10_47 : MS RX10 47 yX10_isBlank cwX10_isBlank 1 := ⟨(tb3 (List.mem_of_getElem? (i := 95) rfl) rfl), (tb3 (List.mem_of_getElem? (i := 96) rfl) rfl), (tb1 (List.mem_of_getElem? (i := 3) rfl) rfl), cmX10_isBlank, pdX10_isBlank⟩
abbrev cwX10_isLetter : Cond := .code yX10_isLetter cX10_isLetter 1 (some .boolean)
theorem cmX10_isLetter : cwX10_isLetter ∈ BIG := (tb3 (List.mem_of_getElem? (i := 100) rfl) rfl)
theorem pdX10_isLetter : yX10_isLetter.cls ≠ "java/lang/invoke/MethodHandle" ∧ yX10_isLetter.cls ≠ "java/lang/invoke/VarHandle" ∧ (parseMethodDescriptor yX10_isLetter.desc).map (fun d => d.parameters.length) = some 1 := by decide +kernel
theorem msX10_60 : MS RX10 60 yX10_isLetter cwX10_isLetter 1 := ⟨(tb3 (List.mem_of_getElem? (i := 98) rfl) rfl), (tb3 (List.mem_of_getElem? (i := 99) rfl) rfl), (tb1 (List.mem_of_getElem? (i := 3) rfl) rfl), cmX10_isLetter, pdX10_isLetter⟩
abbrev cwX10_takeWord : Cond := .code yX10_takeWord cX10_takeWord 3 none
theorem cmX10_takeWord : cwX10_takeWord ∈ BIG := (tb3 (List.mem_of_getElem? (i := 104) rfl) rfl)
theorem pdX10_takeWord : yX10_takeWord.cls ≠ "java/lang/invoke/MethodHandle" ∧ yX10_takeWord.cls ≠ "java/lang/invoke/VarHandle" ∧ (parseMethodDescriptor yX10_takeWord.desc).map (fun d => d.parameters.length) = some 0 := by decide +kernel
theorem mdX10_63 : MD RX10 63 yX10_takeWord cwX10_takeWord 0 := ⟨(tb3 (List.mem_of_getElem? (i := 101) rfl) rfl), (tb3 (List.mem_of_getElem? (i := 103) rfl) rfl), (tbp (n := 7) (List.mem_append_left _ (List.mem_of_getElem? (i := 2) rfl)) rfl), (tb1 (List.mem_of_getElem? (i := 3) rfl) rfl), cmX10_takeWord, pdX10_takeWord⟩
abbrev cwX10_isDigit : Cond := .code yX10_isDigit cX10_isDigit 1 (some .boolean)
theorem cmX10_isDigit : cwX10_isDigit ∈ BIG := (tb3 (List.mem_of_getElem? (i := 111) rfl) rfl)
theorem pdX10_isDigit : yX10_isDigit.cls ≠ "java/lang/invoke/MethodHandle" ∧ yX10_isDigit.cls ≠ "java/lang/invoke/VarHandle" ∧ (parseMethodDescriptor yX10_isDigit.desc).map (fun d => d.parameters.length) = some 1 := by decide +kernel
theorem msX10_66 : MS RX10 66 yX10_isDigit cwX10_isDigit 1 := ⟨(tb3 (List.mem_of_getElem? (i := 109) rfl) rfl), (tb3 (List.mem_of_getElem? (i := 110) rfl) rfl), (tb1 (List.mem_of_getElem? (i := 3) rfl) rfl), cmX10_isDigit, pdX10_isDigit⟩
abbrev cwX10_takeNumber : Cond := .code yX10_takeNumber cX10_takeNumber 3 none
theorem cmX10_takeNumber : cwX10_takeNumber ∈ BIG := (tb3 (List.mem_of_getElem? (i := 115) rfl) rfl)
theorem pdX10_takeNumber : yX10_takeNumber.cls ≠ "java/lang/invoke/MethodHandle" ∧ yX10_takeNumber.cls ≠ "java/lang/invoke/VarHandle" ∧ (parseMethodDescriptor yX10_takeNumber.desc).map (fun d => d.parameters.length) = some 0 := by decide +kernel
theorem mdX10_69 : MD RX10 69 yX10_takeNumber cwX10_takeNumber 0 := ⟨(tb3 (List.mem_of_getElem? (i := 112) rfl) rfl), (tb3 (List.mem_of_getElem? (i := 114) rfl) rfl), (tbp (n := 7) (List.mem_append_left _ (List.mem_of_getElem? (i := 4) rfl)) rfl), (tb1 (List.mem_of_getElem? (i := 3) rfl) rfl), cmX10_takeNumber, pdX10_takeNumber⟩
abbrev cwX10_signOf : Cond := .code yX10_signOf cX10_signOf 2 (some .int)
theorem cmX10_signOf : cwX10_signOf ∈ BIG := (tb3 (List.mem_of_getElem? (i := 122) rfl) rfl)
theorem pdX10_signOf : yX10_signOf.cls ≠ "java/lang/invoke/MethodHandle" ∧ yX10_signOf.cls ≠ "java/lang/invoke/VarHandle" ∧ (parseMethodDescriptor yX10_signOf.desc).map (fun d => d.parameters.length) = some 2 := by decide +kernel
theorem msX10_72 : MS RX10 72 yX10_signOf cwX10_signOf 2 := ⟨(tb3 (List.mem_of_getElem? (i := 120) rfl) rfl), (tb3 (List.mem_of_getElem? (i := 121) rfl) rfl), (tb1 (List.mem_of_getElem? (i := 3) rfl) rfl), cmX10_signOf, pdX10_signOf⟩
abbrev cwX10_kindOf : Cond := .code yX10_kindOf cX10_kindOf 3 (some .int)
theorem cmX10_kindOf : cwX10_kindOf ∈ BIG := (tb3 (List.mem_of_getElem? (i := 108) rfl) rfl)
theorem pdX10_kindOf : yX10_kindOf.cls ≠ "java/lang/invoke/MethodHandle" ∧ yX10_kindOf.cls ≠ "java/lang/invoke/VarHandle" ∧ (parseMethodDescriptor yX10_kindOf.desc).map (fun d => d.parameters.length) = some 1 := by decide +kernel
theorem mdX10_75 : MD RX10 75 yX10_kindOf cwX10_kindOf 1 := ⟨(tb3 (List.mem_of_getElem? (i := 105) rfl) rfl), (tb3 (List.mem_of_getElem? (i := 107) rfl) rfl), (tbp (n := 7) (List.mem_append_left _ (List.mem_of_getElem? (i := 3) rfl)) rfl), (tb1 (List.mem_of_getElem? (i := 3) rfl) rfl), cmX10_kindOf, pdX10_kindOf⟩
abbrev cwX0_begin : Cond := .code yX0_begin cX0_begin 4 none
theorem cmX0_begin : cwX0_begin ∈ BIG := (tb3 (List.mem_of_getElem? (i := 3) rfl) rfl)
theorem pdX0_begin : yX0_begin.cls ≠ "java/lang/invoke/MethodHandle" ∧ yX0_begin.cls ≠ "java/lang/invoke/VarHandle" ∧ (parseMethodDescriptor yX0_begin.desc).map (fun d => d.parameters.length) = some 1 := by decide +kernel
theorem mdX11_82 : MD RX11 82 yX0_begin cwX0_begin 1 := ⟨(tb3 (List.mem_of_getElem? (i := 0) rfl) rfl), (tb3 (List.mem_of_getElem? (i := 1) rfl) rfl), (tb3 (List.mem_of_getElem? (i := 2) rfl) rfl), (tb1 (List.mem_of_getElem? (i := 11) rfl) rfl), cmX0_begin, pdX0_begin⟩
abbrev cwX11_putBytes : Cond := .code yX11_putBytes cX11_putBytes 3 none
theorem cmX11_putBytes : cwX11_putBytes ∈ BIG := (tb3 (List.mem_of_getElem? (i := 66) rfl) rfl)
theorem pdX11_putBytes : yX11_putBytes.cls ≠ "java/lang/invoke/MethodHandle" ∧ yX11_putBytes.cls ≠ "java/lang/invoke/VarHandle" ∧ (parseMethodDescriptor yX11_putBytes.desc).map (fun d => d.parameters.length) = some 1 := by decide +kernel
theorem mdX11_90 : MD RX11 90 yX11_putBytes cwX11_putBytes 1 := ⟨(tb3 (List.mem_of_getElem? (i := 63) rfl) rfl), (tb3 (List.mem_of_getElem? (i := 65) rfl) rfl), (tbp (n := 14) (List.mem_append_left _ (List.mem_of_getElem? (i := 0) rfl)) rfl), (tb1 (List.mem_of_getElem? (i := 1) rfl) rfl), cmX11_putBytes, pdX11_putBytes⟩
abbrev cwX8_readAll : Cond := .code yX8_readAll cX8_readAll 4 (some .boolean)
theorem cmX8_readAll : cwX8_readAll ∈ BIG := (tb3 (List.mem_of_getElem? (i := 74) rfl) rfl)
theorem pdX8_readAll : yX8_readAll.cls ≠ "java/lang/invoke/MethodHandle" ∧ yX8_readAll.cls ≠ "java/lang/invoke/VarHandle" ∧ (parseMethodDescriptor yX8_readAll.desc).map (fun d => d.parameters.length) = some 2 := by decide +kernel
theorem mdX11_94 : MD RX11 94 yX8_readAll cwX8_readAll 2 := ⟨(tb3 (List.mem_of_getElem? (i := 71) rfl) rfl), (tb3 (List.mem_of_getElem? (i := 72) rfl) rfl), (tb3 (List.mem_of_getElem? (i := 73) rfl) rfl), (tb1 (List.mem_of_getElem? (i := 2) rfl) rfl), cmX8_readAll, pdX8_readAll⟩
abbrev cwX1_forget : Cond := .code yX1_forget cX1_forget 1 none
theorem cmX1_forget : cwX1_forget ∈ BIG := (tb4 (List.mem_of_getElem? (i := 5) rfl) rfl)
theorem pdX1_forget : yX1_forget.cls ≠ "java/lang/invoke/MethodHandle" ∧ yX1_forget.cls ≠ "java/lang/invoke/VarHandle" ∧ (parseMethodDescriptor yX1_forget.desc).map (fun d => d.parameters.length) = some 0 := by decide +kernel
theorem mdX11_98 : MD RX11 98 yX1_forget cwX1_forget 0 := ⟨(tb4 (List.mem_of_getElem? (i := 2) rfl) rfl), (tb4 (List.mem_of_getElem? (i := 3) rfl) rfl), (tb4 (List.mem_of_getElem? (i := 4) rfl) rfl), (tb1 (List.mem_of_getElem? (i := 14) rfl) rfl), cmX1_forget, pdX1_forget⟩
abbrev cwX7_forget : Cond := .code yX7_forget cX7_forget 1 none
theorem cmX7_forget : cwX7_forget ∈ BIG := (tb4 (List.mem_of_getElem? (i := 9) rfl) rfl)
theorem pdX7_forget : yX7_forget.cls ≠ "java/lang/invoke/MethodHandle" ∧ yX7_forget.cls ≠ "java/lang/invoke/VarHandle" ∧ (parseMethodDescriptor yX7_forget.desc).map (fun d => d.parameters.length) = some 0 := by decide +kernel
theorem mdX11_101 : MD RX11 101 yX7_forget cwX7_forget 0 := ⟨(tb4 (List.mem_of_getElem? (i := 6) rfl) rfl), (tb4 (List.mem_of_getElem? (i := 7) rfl) rfl), (tb4 (List.mem_of_getElem? (i := 8) rfl) rfl), (tb1 (List.mem_of_getElem? (i := 13) rfl) rfl), cmX7_forget, pdX7_forget⟩
abbrev cwX9_find : Cond := .code yX9_find cX9_find 3 (some .int)
theorem cmX9_find : cwX9_find ∈ BIG := (tb3 (List.mem_of_getElem? (i := 151) rfl) rfl)
theorem pdX9_find : yX9_find.cls ≠ "java/lang/invoke/MethodHandle" ∧ yX9_find.cls ≠ "java/lang/invoke/VarHandle" ∧ (parseMethodDescriptor yX9_find.desc).map (fun d => d.parameters.length) = some 1 := by decide +kernel
theorem mdX11_119 : MD RX11 119 yX9_find cwX9_find 1 := ⟨(tb4 (List.mem_of_getElem? (i := 18) rfl) rfl), (tb3 (List.mem_of_getElem? (i := 149) rfl) rfl), (tb3 (List.mem_of_getElem? (i := 150) rfl) rfl), (tb1 (List.mem_of_getElem? (i := 9) rfl) rfl), cmX9_find, pdX9_find⟩
theorem mdX11_128 : MD RX11 128 yX6_hasTub cwX6_hasTub 1 := ⟨(tb4 (List.mem_of_getElem? (i := 33) rfl) rfl), (tb3 (List.mem_of_getElem? (i := 5) rfl) rfl), (tb3 (List.mem_of_getElem? (i := 6) rfl) rfl), (tb1 (List.mem_of_getElem? (i := 8) rfl) rfl), cmX6_hasTub, pdX6_hasTub⟩
theorem mdX11_154 : MD RX11 154 yX6_hasKnight cwX6_hasKnight 1 := ⟨(tb4 (List.mem_of_getElem? (i := 23) rfl) rfl), (tb3 (List.mem_of_getElem? (i := 13) rfl) rfl), (tb3 (List.mem_of_getElem? (i := 14) rfl) rfl), (tb1 (List.mem_of_getElem? (i := 8) rfl) rfl), cmX6_hasKnight, pdX6_hasKnight⟩
abbrev cwX6_rankOf : Cond := .code yX6_rankOf cX6_rankOf 2 (some .int)
theorem cmX6_rankOf : cwX6_rankOf ∈ BIG := (tb4 (List.mem_of_getElem? (i := 27) rfl) rfl)
theorem pdX6_rankOf : yX6_rankOf.cls ≠ "java/lang/invoke/MethodHandle" ∧ yX6_rankOf.cls ≠ "java/lang/invoke/VarHandle" ∧ (parseMethodDescriptor yX6_rankOf.desc).map (fun d => d.parameters.length) = some 1 := by decide +kernel
theorem mdX11_160 : MD RX11 160 yX6_rankOf cwX6_rankOf 1 := ⟨(tb4 (List.mem_of_getElem? (i := 24) rfl) rfl), (tb4 (List.mem_of_getElem? (i := 25) rfl) rfl), (tb4 (List.mem_of_getElem? (i := 26) rfl) rfl), (tb1 (List.mem_of_getElem? (i := 8) rfl) rfl), cmX6_rankOf, pdX6_rankOf⟩
abbrev cwX6_easeIn : Cond := .code yX6_easeIn cX6_easeIn 7 (some .boolean)
theorem cmX6_easeIn : cwX6_easeIn ∈ BIG := (tb4 (List.mem_of_getElem? (i := 37) rfl) rfl)
theorem pdX6_easeIn : yX6_easeIn.cls ≠ "java/lang/invoke/MethodHandle" ∧ yX6_easeIn.cls ≠ "java/lang/invoke/VarHandle" ∧ (parseMethodDescriptor yX6_easeIn.desc).map (fun d => d.parameters.length) = some 4 := by decide +kernel
theorem mdX11_178 : MD RX11 178 yX6_easeIn cwX6_easeIn 4 := ⟨(tb4 (List.mem_of_getElem? (i := 34) rfl) rfl), (tb4 (List.mem_of_getElem? (i := 35) rfl) rfl), (tb4 (List.mem_of_getElem? (i := 36) rfl) rfl), (tb1 (List.mem_of_getElem? (i := 8) rfl) rfl), cmX6_easeIn, pdX6_easeIn⟩
abbrev cwX6_worthOf : Cond := .code yX6_worthOf cX6_worthOf 8 (some .long)
theorem cmX6_worthOf : cwX6_worthOf ∈ BIG := (tb4 (List.mem_of_getElem? (i := 43) rfl) rfl)
theorem pdX6_worthOf : yX6_worthOf.cls ≠ "java/lang/invoke/MethodHandle" ∧ yX6_worthOf.cls ≠ "java/lang/invoke/VarHandle" ∧ (parseMethodDescriptor yX6_worthOf.desc).map (fun d => d.parameters.length) = some 5 := by decide +kernel
theorem mdX11_184 : MD RX11 184 yX6_worthOf cwX6_worthOf 5 := ⟨(tb4 (List.mem_of_getElem? (i := 63) rfl) rfl), (tb4 (List.mem_of_getElem? (i := 41) rfl) rfl), (tb4 (List.mem_of_getElem? (i := 42) rfl) rfl), (tb1 (List.mem_of_getElem? (i := 8) rfl) rfl), cmX6_worthOf, pdX6_worthOf⟩
abbrev cwX11_isPoured : Cond := .code yX11_isPoured cX11_isPoured 1 (some .boolean)
theorem cmX11_isPoured : cwX11_isPoured ∈ BIG := (tb4 (List.mem_of_getElem? (i := 70) rfl) rfl)
theorem pdX11_isPoured : yX11_isPoured.cls ≠ "java/lang/invoke/MethodHandle" ∧ yX11_isPoured.cls ≠ "java/lang/invoke/VarHandle" ∧ (parseMethodDescriptor yX11_isPoured.desc).map (fun d => d.parameters.length) = some 1 := by decide +kernel
theorem msX11_188 : MS RX11 188 yX11_isPoured cwX11_isPoured 1 := ⟨(tb4 (List.mem_of_getElem? (i := 68) rfl) rfl), (tb4 (List.mem_of_getElem? (i := 69) rfl) rfl), (tb1 (List.mem_of_getElem? (i := 1) rfl) rfl), cmX11_isPoured, pdX11_isPoured⟩
abbrev cwX0_hasRoom : Cond := .code yX0_hasRoom cX0_hasRoom 3 (some .boolean)
theorem cmX0_hasRoom : cwX0_hasRoom ∈ BIG := (tb4 (List.mem_of_getElem? (i := 74) rfl) rfl)
theorem pdX0_hasRoom : yX0_hasRoom.cls ≠ "java/lang/invoke/MethodHandle" ∧ yX0_hasRoom.cls ≠ "java/lang/invoke/VarHandle" ∧ (parseMethodDescriptor yX0_hasRoom.desc).map (fun d => d.parameters.length) = some 2 := by decide +kernel
theorem mdX11_191 : MD RX11 191 yX0_hasRoom cwX0_hasRoom 2 := ⟨(tb4 (List.mem_of_getElem? (i := 71) rfl) rfl), (tb4 (List.mem_of_getElem? (i := 72) rfl) rfl), (tb4 (List.mem_of_getElem? (i := 73) rfl) rfl), (tb1 (List.mem_of_getElem? (i := 11) rfl) rfl), cmX0_hasRoom, pdX0_hasRoom⟩
abbrev cwX7_save : Cond := .code yX7_save cX7_save 3 none
theorem cmX7_save : cwX7_save ∈ BIG := (tb4 (List.mem_of_getElem? (i := 81) rfl) rfl)
theorem pdX7_save : yX7_save.cls ≠ "java/lang/invoke/MethodHandle" ∧ yX7_save.cls ≠ "java/lang/invoke/VarHandle" ∧ (parseMethodDescriptor yX7_save.desc).map (fun d => d.parameters.length) = some 1 := by decide +kernel
theorem mdX11_195 : MD RX11 195 yX7_save cwX7_save 1 := ⟨(tb4 (List.mem_of_getElem? (i := 78) rfl) rfl), (tb4 (List.mem_of_getElem? (i := 79) rfl) rfl), (tb4 (List.mem_of_getElem? (i := 80) rfl) rfl), (tb1 (List.mem_of_getElem? (i := 13) rfl) rfl), cmX7_save, pdX7_save⟩
abbrev cwX0_pourIn : Cond := .code yX0_pourIn cX0_pourIn 4 none
theorem cmX0_pourIn : cwX0_pourIn ∈ BIG := (tb4 (List.mem_of_getElem? (i := 88) rfl) rfl)
theorem pdX0_pourIn : yX0_pourIn.cls ≠ "java/lang/invoke/MethodHandle" ∧ yX0_pourIn.cls ≠ "java/lang/invoke/VarHandle" ∧ (parseMethodDescriptor yX0_pourIn.desc).map (fun d => d.parameters.length) = some 3 := by decide +kernel
theorem mdX11_199 : MD RX11 199 yX0_pourIn cwX0_pourIn 3 := ⟨(tb4 (List.mem_of_getElem? (i := 85) rfl) rfl), (tb4 (List.mem_of_getElem? (i := 86) rfl) rfl), (tb4 (List.mem_of_getElem? (i := 87) rfl) rfl), (tb1 (List.mem_of_getElem? (i := 11) rfl) rfl), cmX0_pourIn, pdX0_pourIn⟩
abbrev cwX0_enter : Cond := .code yX0_enter cX0_enter 3 (some .boolean)
theorem cmX0_enter : cwX0_enter ∈ BIG := (tb4 (List.mem_of_getElem? (i := 104) rfl) rfl)
theorem pdX0_enter : yX0_enter.cls ≠ "java/lang/invoke/MethodHandle" ∧ yX0_enter.cls ≠ "java/lang/invoke/VarHandle" ∧ (parseMethodDescriptor yX0_enter.desc).map (fun d => d.parameters.length) = some 2 := by decide +kernel
theorem mdX11_203 : MD RX11 203 yX0_enter cwX0_enter 2 := ⟨(tb4 (List.mem_of_getElem? (i := 101) rfl) rfl), (tb4 (List.mem_of_getElem? (i := 102) rfl) rfl), (tb4 (List.mem_of_getElem? (i := 103) rfl) rfl), (tb1 (List.mem_of_getElem? (i := 11) rfl) rfl), cmX0_enter, pdX0_enter⟩
theorem mdX11_206 : MD RX11 206 yX0_leave cwX0_leave 1 := ⟨(tb4 (List.mem_of_getElem? (i := 116) rfl) rfl), (tb4 (List.mem_of_getElem? (i := 109) rfl) rfl), (tb4 (List.mem_of_getElem? (i := 110) rfl) rfl), (tb1 (List.mem_of_getElem? (i := 11) rfl) rfl), cmX0_leave, pdX0_leave⟩
abbrev cwX5_drawn : Cond := .code yX5_drawn cX5_drawn 1 none
theorem cmX5_drawn : cwX5_drawn ∈ BIG := (tb4 (List.mem_of_getElem? (i := 124) rfl) rfl)
theorem pdX5_drawn : yX5_drawn.cls ≠ "java/lang/invoke/MethodHandle" ∧ yX5_drawn.cls ≠ "java/lang/invoke/VarHandle" ∧ (parseMethodDescriptor yX5_drawn.desc).map (fun d => d.parameters.length) = some 0 := by decide +kernel
theorem mdX11_212 : MD RX11 212 yX5_drawn cwX5_drawn 0 := ⟨(tb4 (List.mem_of_getElem? (i := 121) rfl) rfl), (tb4 (List.mem_of_getElem? (i := 122) rfl) rfl), (tb4 (List.mem_of_getElem? (i := 123) rfl) rfl), (tb1 (List.mem_of_getElem? (i := 12) rfl) rfl), cmX5_drawn, pdX5_drawn⟩
abbrev cwX5_passMany : Cond := .code yX5_passMany cX5_passMany 5 none
theorem cmX5_passMany : cwX5_passMany ∈ BIG := (tb4 (List.mem_of_getElem? (i := 128) rfl) rfl)
theorem pdX5_passMany : yX5_passMany.cls ≠ "java/lang/invoke/MethodHandle" ∧ yX5_passMany.cls ≠ "java/lang/invoke/VarHandle" ∧ (parseMethodDescriptor yX5_passMany.desc).map (fun d => d.parameters.length) = some 3 := by decide +kernel
theorem mdX11_215 : MD RX11 215 yX5_passMany cwX5_passMany 3 := ⟨(tb4 (List.mem_of_getElem? (i := 125) rfl) rfl), (tb4 (List.mem_of_getElem? (i := 126) rfl) rfl), (tb4 (List.mem_of_getElem? (i := 127) rfl) rfl), (tb1 (List.mem_of_getElem? (i := 12) rfl) rfl), cmX5_passMany, pdX5_passMany⟩
abbrev cwX11_tryAsItGoes : Cond := .code yX11_tryAsItGoes cX11_tryAsItGoes 1 none
theorem cmX11_tryAsItGoes : cwX11_tryAsItGoes ∈ BIG := (tb4 (List.mem_of_getElem? (i := 185) rfl) rfl)
theorem pdX11_tryAsItGoes : yX11_tryAsItGoes.cls ≠ "java/lang/invoke/MethodHandle" ∧ yX11_tryAsItGoes.cls ≠ "java/lang/invoke/VarHandle" ∧ (parseMethodDescriptor yX11_tryAsItGoes.desc).map (fun d => d.parameters.length) = some 0 := by decide +kernel
theorem mdX11_219 : MD RX11 219 yX11_tryAsItGoes cwX11_tryAsItGoes 0 := ⟨(tb4 (List.mem_of_getElem? (i := 182) rfl) rfl), (tb4 (List.mem_of_getElem? (i := 184) rfl) rfl), (tbp (n := 14) (List.mem_append_right _ (List.mem_append_left _ (List.mem_of_getElem? (i := 13) rfl))) rfl), (tb1 (List.mem_of_getElem? (i := 1) rfl) rfl), cmX11_tryAsItGoes, pdX11_tryAsItGoes⟩
abbrev cwX11_sumOf : Cond := .code yX11_sumOf cX11_sumOf 3 (some .int)
theorem cmX11_sumOf : cwX11_sumOf ∈ BIG := (tb4 (List.mem_of_getElem? (i := 198) rfl) rfl)
theorem pdX11_sumOf : yX11_sumOf.cls ≠ "java/lang/invoke/MethodHandle" ∧ yX11_sumOf.cls ≠ "java/lang/invoke/VarHandle" ∧ (parseMethodDescriptor yX11_sumOf.desc).map (fun d => d.parameters.length) = some 1 := by decide +kernel
theorem msX11_222 : MS RX11 222 yX11_sumOf cwX11_sumOf 1 := ⟨(tb4 (List.mem_of_getElem? (i := 196) rfl) rfl), (tb4 (List.mem_of_getElem? (i := 197) rfl) rfl), (tb1 (List.mem_of_getElem? (i := 1) rfl) rfl), cmX11_sumOf, pdX11_sumOf⟩
abbrev cwX0_become : Cond := .code yX0_become cX0_become 2 none
theorem cmX0_become : cwX0_become ∈ BIG := (tb4 (List.mem_of_getElem? (i := 189) rfl) rfl)
theorem pdX0_become : yX0_become.cls ≠ "java/lang/invoke/MethodHandle" ∧ yX0_become.cls ≠ "java/lang/invoke/VarHandle" ∧ (parseMethodDescriptor yX0_become.desc).map (fun d => d.parameters.length) = some 1 := by decide +kernel
theorem mdX11_226 : MD RX11 226 yX0_become cwX0_become 1 := ⟨(tb4 (List.mem_of_getElem? (i := 186) rfl) rfl), (tb4 (List.mem_of_getElem? (i := 187) rfl) rfl), (tb4 (List.mem_of_getElem? (i := 188) rfl) rfl), (tb1 (List.mem_of_getElem? (i := 11) rfl) rfl), cmX0_become, pdX0_become⟩
abbrev cwX5_asItGoes : Cond := .code yX5_asItGoes cX5_asItGoes 2 none
theorem cmX5_asItGoes : cwX5_asItGoes ∈ BIG := (tb4 (List.mem_of_getElem? (i := 194) rfl) rfl)
theorem pdX5_asItGoes : yX5_asItGoes.cls ≠ "java/lang/invoke/MethodHandle" ∧ yX5_asItGoes.cls ≠ "java/lang/invoke/VarHandle" ∧ (parseMethodDescriptor yX5_asItGoes.desc).map (fun d => d.parameters.length) = some 1 := by decide +kernel
theorem mdX11_229 : MD RX11 229 yX5_asItGoes cwX5_asItGoes 1 := ⟨(tb4 (List.mem_of_getElem? (i := 191) rfl) rfl), (tb4 (List.mem_of_getElem? (i := 192) rfl) rfl), (tb4 (List.mem_of_getElem? (i := 193) rfl) rfl), (tb1 (List.mem_of_getElem? (i := 12) rfl) rfl), cmX5_asItGoes, pdX5_asItGoes⟩
abbrev cwX11_isDegrees : Cond := .code yX11_isDegrees cX11_isDegrees 1 (some .boolean)
theorem cmX11_isDegrees : cwX11_isDegrees ∈ BIG := (tb4 (List.mem_of_getElem? (i := 205) rfl) rfl)
theorem pdX11_isDegrees : yX11_isDegrees.cls ≠ "java/lang/invoke/MethodHandle" ∧ yX11_isDegrees.cls ≠ "java/lang/invoke/VarHandle" ∧ (parseMethodDescriptor yX11_isDegrees.desc).map (fun d => d.parameters.length) = some 1 := by decide +kernel
theorem msX11_232 : MS RX11 232 yX11_isDegrees cwX11_isDegrees 1 := ⟨(tb4 (List.mem_of_getElem? (i := 203) rfl) rfl), (tb4 (List.mem_of_getElem? (i := 204) rfl) rfl), (tb1 (List.mem_of_getElem? (i := 1) rfl) rfl), cmX11_isDegrees, pdX11_isDegrees⟩
abbrev cwX5_pass : Cond := .code yX5_pass cX5_pass 4 none
theorem cmX5_pass : cwX5_pass ∈ BIG := (tb4 (List.mem_of_getElem? (i := 132) rfl) rfl)
theorem pdX5_pass : yX5_pass.cls ≠ "java/lang/invoke/MethodHandle" ∧ yX5_pass.cls ≠ "java/lang/invoke/VarHandle" ∧ (parseMethodDescriptor yX5_pass.desc).map (fun d => d.parameters.length) = some 2 := by decide +kernel
theorem mdX11_235 : MD RX11 235 yX5_pass cwX5_pass 2 := ⟨(tb4 (List.mem_of_getElem? (i := 206) rfl) rfl), (tb4 (List.mem_of_getElem? (i := 130) rfl) rfl), (tb4 (List.mem_of_getElem? (i := 131) rfl) rfl), (tb1 (List.mem_of_getElem? (i := 12) rfl) rfl), cmX5_pass, pdX5_pass⟩
abbrev cwX11_standsAhead : Cond := .code yX11_standsAhead cX11_standsAhead 3 (some .boolean)
theorem cmX11_standsAhead : cwX11_standsAhead ∈ BIG := (tb4 (List.mem_of_getElem? (i := 218) rfl) rfl)
theorem pdX11_standsAhead : yX11_standsAhead.cls ≠ "java/lang/invoke/MethodHandle" ∧ yX11_standsAhead.cls ≠ "java/lang/invoke/VarHandle" ∧ (parseMethodDescriptor yX11_standsAhead.desc).map (fun d => d.parameters.length) = some 2 := by decide +kernel
theorem mdX11_242 : MD RX11 242 yX11_standsAhead cwX11_standsAhead 2 := ⟨(tb4 (List.mem_of_getElem? (i := 215) rfl) rfl), (tb4 (List.mem_of_getElem? (i := 217) rfl) rfl), (tbp (n := 14) (List.mem_append_right _ (List.mem_append_left _ (List.mem_of_getElem? (i := 14) rfl))) rfl), (tb1 (List.mem_of_getElem? (i := 1) rfl) rfl), cmX11_standsAhead, pdX11_standsAhead⟩
abbrev cwX11_fewestFor : Cond := .code yX11_fewestFor cX11_fewestFor 4 (some .int)
theorem cmX11_fewestFor : cwX11_fewestFor ∈ BIG := (tb4 (List.mem_of_getElem? (i := 226) rfl) rfl)
theorem pdX11_fewestFor : yX11_fewestFor.cls ≠ "java/lang/invoke/MethodHandle" ∧ yX11_fewestFor.cls ≠ "java/lang/invoke/VarHandle" ∧ (parseMethodDescriptor yX11_fewestFor.desc).map (fun d => d.parameters.length) = some 2 := by decide +kernel
theorem mdX11_245 : MD RX11 245 yX11_fewestFor cwX11_fewestFor 2 := ⟨(tb4 (List.mem_of_getElem? (i := 223) rfl) rfl), (tb4 (List.mem_of_getElem? (i := 225) rfl) rfl), (tbp (n := 14) (List.mem_append_right _ (List.mem_append_left _ (List.mem_of_getElem? (i := 15) rfl))) rfl), (tb1 (List.mem_of_getElem? (i := 1) rfl) rfl), cmX11_fewestFor, pdX11_fewestFor⟩
theorem mdX11_249 : MD RX11 249 yX0_mixedHeat cwX0_mixedHeat 3 := ⟨(tb4 (List.mem_of_getElem? (i := 227) rfl) rfl), (tb4 (List.mem_of_getElem? (i := 90) rfl) rfl), (tb4 (List.mem_of_getElem? (i := 91) rfl) rfl), (tb1 (List.mem_of_getElem? (i := 11) rfl) rfl), cmX0_mixedHeat, pdX0_mixedHeat⟩
abbrev cwX11_leastTerm : Cond := .code yX11_leastTerm cX11_leastTerm 12 (some .long)
theorem cmX11_leastTerm : cwX11_leastTerm ∈ BIG := (tb4 (List.mem_of_getElem? (i := 238) rfl) rfl)
theorem pdX11_leastTerm : yX11_leastTerm.cls ≠ "java/lang/invoke/MethodHandle" ∧ yX11_leastTerm.cls ≠ "java/lang/invoke/VarHandle" ∧ (parseMethodDescriptor yX11_leastTerm.desc).map (fun d => d.parameters.length) = some 3 := by decide +kernel
theorem msX11_253 : MS RX11 253 yX11_leastTerm cwX11_leastTerm 3 := ⟨(tb4 (List.mem_of_getElem? (i := 236) rfl) rfl), (tb4 (List.mem_of_getElem? (i := 237) rfl) rfl), (tb1 (List.mem_of_getElem? (i := 1) rfl) rfl), cmX11_leastTerm, pdX11_leastTerm⟩
abbrev cwX4_find : Cond := .code yX4_find cX4_find 7 none
theorem cmX4_find : cwX4_find ∈ BIG := (tb5 (List.mem_of_getElem? (i := 7) rfl) rfl)
theorem pdX4_find : yX4_find.cls ≠ "java/lang/invoke/MethodHandle" ∧ yX4_find.cls ≠ "java/lang/invoke/VarHandle" ∧ (parseMethodDescriptor yX4_find.desc).map (fun d => d.parameters.length) = some 2 := by decide +kernel
theorem mdX11_259 : MD RX11 259 yX4_find cwX4_find 2 := ⟨(tb5 (List.mem_of_getElem? (i := 4) rfl) rfl), (tb5 (List.mem_of_getElem? (i := 5) rfl) rfl), (tb5 (List.mem_of_getElem? (i := 6) rfl) rfl), (tb1 (List.mem_of_getElem? (i := 16) rfl) rfl), cmX4_find, pdX4_find⟩
abbrev cwX11_winningLitres : Cond := .code yX11_winningLitres cX11_winningLitres 8 (some .int)
theorem cmX11_winningLitres : cwX11_winningLitres ∈ BIG := (tb5 (List.mem_of_getElem? (i := 30) rfl) rfl)
theorem pdX11_winningLitres : yX11_winningLitres.cls ≠ "java/lang/invoke/MethodHandle" ∧ yX11_winningLitres.cls ≠ "java/lang/invoke/VarHandle" ∧ (parseMethodDescriptor yX11_winningLitres.desc).map (fun d => d.parameters.length) = some 2 := by decide +kernel
theorem mdX11_270 : MD RX11 270 yX11_winningLitres cwX11_winningLitres 2 := ⟨(tb5 (List.mem_of_getElem? (i := 27) rfl) rfl), (tb5 (List.mem_of_getElem? (i := 29) rfl) rfl), (tbp (n := 14) (List.mem_append_right _ (List.mem_append_right _ (List.mem_append_left _ (List.mem_of_getElem? (i := 3) rfl)))) rfl), (tb1 (List.mem_of_getElem? (i := 1) rfl) rfl), cmX11_winningLitres, pdX11_winningLitres⟩
abbrev cwX11_areTwo : Cond := .code yX11_areTwo cX11_areTwo 3 (some .boolean)
theorem cmX11_areTwo : cwX11_areTwo ∈ BIG := (tb5 (List.mem_of_getElem? (i := 43) rfl) rfl)
theorem pdX11_areTwo : yX11_areTwo.cls ≠ "java/lang/invoke/MethodHandle" ∧ yX11_areTwo.cls ≠ "java/lang/invoke/VarHandle" ∧ (parseMethodDescriptor yX11_areTwo.desc).map (fun d => d.parameters.length) = some 2 := by decide +kernel
theorem mdX11_278 : MD RX11 278 yX11_areTwo cwX11_areTwo 2 := ⟨(tb5 (List.mem_of_getElem? (i := 40) rfl) rfl), (tb5 (List.mem_of_getElem? (i := 42) rfl) rfl), (tbp (n := 14) (List.mem_append_right _ (List.mem_append_right _ (List.mem_append_left _ (List.mem_of_getElem? (i := 4) rfl)))) rfl), (tb1 (List.mem_of_getElem? (i := 1) rfl) rfl), cmX11_areTwo, pdX11_areTwo⟩
abbrev cwX11_restsUpTo : Cond := .code yX11_restsUpTo cX11_restsUpTo 6 (some .int)
theorem cmX11_restsUpTo : cwX11_restsUpTo ∈ BIG := (tb5 (List.mem_of_getElem? (i := 47) rfl) rfl)
theorem pdX11_restsUpTo : yX11_restsUpTo.cls ≠ "java/lang/invoke/MethodHandle" ∧ yX11_restsUpTo.cls ≠ "java/lang/invoke/VarHandle" ∧ (parseMethodDescriptor yX11_restsUpTo.desc).map (fun d => d.parameters.length) = some 3 := by decide +kernel
theorem mdX11_281 : MD RX11 281 yX11_restsUpTo cwX11_restsUpTo 3 := ⟨(tb5 (List.mem_of_getElem? (i := 44) rfl) rfl), (tb5 (List.mem_of_getElem? (i := 46) rfl) rfl), (tbp (n := 14) (List.mem_append_right _ (List.mem_append_right _ (List.mem_append_left _ (List.mem_of_getElem? (i := 5) rfl)))) rfl), (tb1 (List.mem_of_getElem? (i := 1) rfl) rfl), cmX11_restsUpTo, pdX11_restsUpTo⟩
abbrev cwX11_isRest : Cond := .code yX11_isRest cX11_isRest 8 (some .boolean)
theorem cmX11_isRest : cwX11_isRest ∈ BIG := (tb5 (List.mem_of_getElem? (i := 51) rfl) rfl)
theorem pdX11_isRest : yX11_isRest.cls ≠ "java/lang/invoke/MethodHandle" ∧ yX11_isRest.cls ≠ "java/lang/invoke/VarHandle" ∧ (parseMethodDescriptor yX11_isRest.desc).map (fun d => d.parameters.length) = some 3 := by decide +kernel
theorem mdX11_284 : MD RX11 284 yX11_isRest cwX11_isRest 3 := ⟨(tb5 (List.mem_of_getElem? (i := 48) rfl) rfl), (tb5 (List.mem_of_getElem? (i := 50) rfl) rfl), (tbp (n := 14) (List.mem_append_right _ (List.mem_append_right _ (List.mem_append_left _ (List.mem_of_getElem? (i := 6) rfl)))) rfl), (tb1 (List.mem_of_getElem? (i := 1) rfl) rfl), cmX11_isRest, pdX11_isRest⟩
abbrev cwX11_gain : Cond := .code yX11_gain cX11_gain 3 (some .int)
theorem cmX11_gain : cwX11_gain ∈ BIG := (tb5 (List.mem_of_getElem? (i := 54) rfl) rfl)
theorem pdX11_gain : yX11_gain.cls ≠ "java/lang/invoke/MethodHandle" ∧ yX11_gain.cls ≠ "java/lang/invoke/VarHandle" ∧ (parseMethodDescriptor yX11_gain.desc).map (fun d => d.parameters.length) = some 3 := by decide +kernel
theorem msX11_288 : MS RX11 288 yX11_gain cwX11_gain 3 := ⟨(tb5 (List.mem_of_getElem? (i := 52) rfl) rfl), (tb5 (List.mem_of_getElem? (i := 53) rfl) rfl), (tb1 (List.mem_of_getElem? (i := 1) rfl) rfl), cmX11_gain, pdX11_gain⟩
theorem mdX11_296 : MD RX11 296 yX1_record cwX1_record 4 := ⟨(tb5 (List.mem_of_getElem? (i := 68) rfl) rfl), (tb5 (List.mem_of_getElem? (i := 69) rfl) rfl), (tb5 (List.mem_of_getElem? (i := 70) rfl) rfl), (tb1 (List.mem_of_getElem? (i := 14) rfl) rfl), cmX1_record, pdX1_record⟩
abbrev cwX1_recordStrike : Cond := .code yX1_recordStrike cX1_recordStrike 3 (some .int)
theorem cmX1_recordStrike : cwX1_recordStrike ∈ BIG := (tb5 (List.mem_of_getElem? (i := 79) rfl) rfl)
theorem pdX1_recordStrike : yX1_recordStrike.cls ≠ "java/lang/invoke/MethodHandle" ∧ yX1_recordStrike.cls ≠ "java/lang/invoke/VarHandle" ∧ (parseMethodDescriptor yX1_recordStrike.desc).map (fun d => d.parameters.length) = some 1 := by decide +kernel
theorem mdX11_300 : MD RX11 300 yX1_recordStrike cwX1_recordStrike 1 := ⟨(tb5 (List.mem_of_getElem? (i := 76) rfl) rfl), (tb5 (List.mem_of_getElem? (i := 77) rfl) rfl), (tb5 (List.mem_of_getElem? (i := 78) rfl) rfl), (tb1 (List.mem_of_getElem? (i := 14) rfl) rfl), cmX1_recordStrike, pdX1_recordStrike⟩
abbrev cwX1_sift : Cond := .code yX1_sift cX1_sift 4 none
theorem cmX1_sift : cwX1_sift ∈ BIG := (tb5 (List.mem_of_getElem? (i := 92) rfl) rfl)
theorem pdX1_sift : yX1_sift.cls ≠ "java/lang/invoke/MethodHandle" ∧ yX1_sift.cls ≠ "java/lang/invoke/VarHandle" ∧ (parseMethodDescriptor yX1_sift.desc).map (fun d => d.parameters.length) = some 0 := by decide +kernel
theorem mdX11_307 : MD RX11 307 yX1_sift cwX1_sift 0 := ⟨(tb5 (List.mem_of_getElem? (i := 89) rfl) rfl), (tb5 (List.mem_of_getElem? (i := 90) rfl) rfl), (tb5 (List.mem_of_getElem? (i := 91) rfl) rfl), (tb1 (List.mem_of_getElem? (i := 14) rfl) rfl), cmX1_sift, pdX1_sift⟩
abbrev cwX1_lastMinute : Cond := .code yX1_lastMinute cX1_lastMinute 3 (some .int)
theorem cmX1_lastMinute : cwX1_lastMinute ∈ BIG := (tb5 (List.mem_of_getElem? (i := 100) rfl) rfl)
theorem pdX1_lastMinute : yX1_lastMinute.cls ≠ "java/lang/invoke/MethodHandle" ∧ yX1_lastMinute.cls ≠ "java/lang/invoke/VarHandle" ∧ (parseMethodDescriptor yX1_lastMinute.desc).map (fun d => d.parameters.length) = some 0 := by decide +kernel
theorem mdX11_310 : MD RX11 310 yX1_lastMinute cwX1_lastMinute 0 := ⟨(tb5 (List.mem_of_getElem? (i := 97) rfl) rfl), (tb5 (List.mem_of_getElem? (i := 98) rfl) rfl), (tb5 (List.mem_of_getElem? (i := 99) rfl) rfl), (tb1 (List.mem_of_getElem? (i := 14) rfl) rfl), cmX1_lastMinute, pdX1_lastMinute⟩
abbrev cwX2_find : Cond := .code yX2_find cX2_find 9 (some .int)
theorem cmX2_find : cwX2_find ∈ BIG := (tb5 (List.mem_of_getElem? (i := 105) rfl) rfl)
theorem pdX2_find : yX2_find.cls ≠ "java/lang/invoke/MethodHandle" ∧ yX2_find.cls ≠ "java/lang/invoke/VarHandle" ∧ (parseMethodDescriptor yX2_find.desc).map (fun d => d.parameters.length) = some 5 := by decide +kernel
theorem mdX11_314 : MD RX11 314 yX2_find cwX2_find 5 := ⟨(tb5 (List.mem_of_getElem? (i := 102) rfl) rfl), (tb5 (List.mem_of_getElem? (i := 103) rfl) rfl), (tb5 (List.mem_of_getElem? (i := 104) rfl) rfl), (tb1 (List.mem_of_getElem? (i := 15) rfl) rfl), cmX2_find, pdX2_find⟩
abbrev cwX2_findQuestion : Cond := .code yX2_findQuestion cX2_findQuestion 5 none
theorem cmX2_findQuestion : cwX2_findQuestion ∈ BIG := (tb5 (List.mem_of_getElem? (i := 120) rfl) rfl)
theorem pdX2_findQuestion : yX2_findQuestion.cls ≠ "java/lang/invoke/MethodHandle" ∧ yX2_findQuestion.cls ≠ "java/lang/invoke/VarHandle" ∧ (parseMethodDescriptor yX2_findQuestion.desc).map (fun d => d.parameters.length) = some 0 := by decide +kernel
theorem mdX11_317 : MD RX11 317 yX2_findQuestion cwX2_findQuestion 0 := ⟨(tb5 (List.mem_of_getElem? (i := 117) rfl) rfl), (tb5 (List.mem_of_getElem? (i := 118) rfl) rfl), (tb5 (List.mem_of_getElem? (i := 119) rfl) rfl), (tb1 (List.mem_of_getElem? (i := 15) rfl) rfl), cmX2_findQuestion, pdX2_findQuestion⟩
abbrev cwX5_otherwise : Cond := .code yX5_otherwise cX5_otherwise 3 none
theorem cmX5_otherwise : cwX5_otherwise ∈ BIG := (tb5 (List.mem_of_getElem? (i := 139) rfl) rfl)
theorem pdX5_otherwise : yX5_otherwise.cls ≠ "java/lang/invoke/MethodHandle" ∧ yX5_otherwise.cls ≠ "java/lang/invoke/VarHandle" ∧ (parseMethodDescriptor yX5_otherwise.desc).map (fun d => d.parameters.length) = some 2 := by decide +kernel
theorem mdX11_330 : MD RX11 330 yX5_otherwise cwX5_otherwise 2 := ⟨(tb5 (List.mem_of_getElem? (i := 136) rfl) rfl), (tb5 (List.mem_of_getElem? (i := 137) rfl) rfl), (tb5 (List.mem_of_getElem? (i := 138) rfl) rfl), (tb1 (List.mem_of_getElem? (i := 12) rfl) rfl), cmX5_otherwise, pdX5_otherwise⟩
abbrev cwX7_restore : Cond := .code yX7_restore cX7_restore 4 (some .boolean)
theorem cmX7_restore : cwX7_restore ∈ BIG := (tb5 (List.mem_of_getElem? (i := 147) rfl) rfl)
theorem pdX7_restore : yX7_restore.cls ≠ "java/lang/invoke/MethodHandle" ∧ yX7_restore.cls ≠ "java/lang/invoke/VarHandle" ∧ (parseMethodDescriptor yX7_restore.desc).map (fun d => d.parameters.length) = some 1 := by decide +kernel
theorem mdX11_334 : MD RX11 334 yX7_restore cwX7_restore 1 := ⟨(tb5 (List.mem_of_getElem? (i := 144) rfl) rfl), (tb5 (List.mem_of_getElem? (i := 145) rfl) rfl), (tb5 (List.mem_of_getElem? (i := 146) rfl) rfl), (tb1 (List.mem_of_getElem? (i := 13) rfl) rfl), cmX7_restore, pdX7_restore⟩
abbrev cwX0_bathers : Cond := .code yX0_bathers cX0_bathers 3 (some .int)
theorem cmX0_bathers : cwX0_bathers ∈ BIG := (tb5 (List.mem_of_getElem? (i := 165) rfl) rfl)
theorem pdX0_bathers : yX0_bathers.cls ≠ "java/lang/invoke/MethodHandle" ∧ yX0_bathers.cls ≠ "java/lang/invoke/VarHandle" ∧ (parseMethodDescriptor yX0_bathers.desc).map (fun d => d.parameters.length) = some 0 := by decide +kernel
theorem mdX11_357 : MD RX11 357 yX0_bathers cwX0_bathers 0 := ⟨(tb5 (List.mem_of_getElem? (i := 162) rfl) rfl), (tb5 (List.mem_of_getElem? (i := 163) rfl) rfl), (tb5 (List.mem_of_getElem? (i := 164) rfl) rfl), (tb1 (List.mem_of_getElem? (i := 11) rfl) rfl), cmX0_bathers, pdX0_bathers⟩
theorem mdX11_363 : MD RX11 363 yX1_countKnown cwX1_countKnown 0 := ⟨(tb5 (List.mem_of_getElem? (i := 166) rfl) rfl), (tb5 (List.mem_of_getElem? (i := 94) rfl) rfl), (tb5 (List.mem_of_getElem? (i := 95) rfl) rfl), (tb1 (List.mem_of_getElem? (i := 14) rfl) rfl), cmX1_countKnown, pdX1_countKnown⟩
abbrev cwX12_begins : Cond := .code yX12_begins cX12_begins 1 none
theorem cmX12_begins : cwX12_begins ∈ BIG := (tb6 (List.mem_of_getElem? (i := 27) rfl) rfl)
theorem pdX12_begins : yX12_begins.cls ≠ "java/lang/invoke/MethodHandle" ∧ yX12_begins.cls ≠ "java/lang/invoke/VarHandle" ∧ (parseMethodDescriptor yX12_begins.desc).map (fun d => d.parameters.length) = some 0 := by decide +kernel
theorem mdX12_151 : MD RX12 151 yX12_begins cwX12_begins 0 := ⟨(tb6 (List.mem_of_getElem? (i := 24) rfl) rfl), (tb6 (List.mem_of_getElem? (i := 26) rfl) rfl), (tbp (n := 67) (List.mem_append_right _ (List.mem_append_right _ (List.mem_append_left _ (List.mem_of_getElem? (i := 8) rfl)))) rfl), (tb1 (List.mem_of_getElem? (i := 17) rfl) rfl), cmX12_begins, pdX12_begins⟩
abbrev cwX12_here : Cond := .code yX12_here cX12_here 1 (some .int)
theorem cmX12_here : cwX12_here ∈ BIG := (tb7 (List.mem_of_getElem? (i := 17) rfl) rfl)
theorem pdX12_here : yX12_here.cls ≠ "java/lang/invoke/MethodHandle" ∧ yX12_here.cls ≠ "java/lang/invoke/VarHandle" ∧ (parseMethodDescriptor yX12_here.desc).map (fun d => d.parameters.length) = some 0 := by decide +kernel
theorem mdX12_166 : MD RX12 166 yX12_here cwX12_here 0 := ⟨(tb7 (List.mem_of_getElem? (i := 14) rfl) rfl), (tb7 (List.mem_of_getElem? (i := 16) rfl) rfl), (tbp (n := 67) (List.mem_append_right _ (List.mem_append_right _ (List.mem_append_left _ (List.mem_of_getElem? (i := 12) rfl)))) rfl), (tb1 (List.mem_of_getElem? (i := 17) rfl) rfl), cmX12_here, pdX12_here⟩
abbrev cwX12_isSmall : Cond := .code yX12_isSmall cX12_isSmall 1 (some .boolean)
theorem cmX12_isSmall : cwX12_isSmall ∈ BIG := (tb7 (List.mem_of_getElem? (i := 20) rfl) rfl)
theorem pdX12_isSmall : yX12_isSmall.cls ≠ "java/lang/invoke/MethodHandle" ∧ yX12_isSmall.cls ≠ "java/lang/invoke/VarHandle" ∧ (parseMethodDescriptor yX12_isSmall.desc).map (fun d => d.parameters.length) = some 1 := by decide +kernel
theorem msX12_176 : MS RX12 176 yX12_isSmall cwX12_isSmall 1 := ⟨(tb7 (List.mem_of_getElem? (i := 18) rfl) rfl), (tb7 (List.mem_of_getElem? (i := 19) rfl) rfl), (tb1 (List.mem_of_getElem? (i := 17) rfl) rfl), cmX12_isSmall, pdX12_isSmall⟩
abbrev cwX12_word : Cond := .code yX12_word cX12_word 4 (some .int)
theorem cmX12_word : cwX12_word ∈ BIG := (tb7 (List.mem_of_getElem? (i := 24) rfl) rfl)
theorem pdX12_word : yX12_word.cls ≠ "java/lang/invoke/MethodHandle" ∧ yX12_word.cls ≠ "java/lang/invoke/VarHandle" ∧ (parseMethodDescriptor yX12_word.desc).map (fun d => d.parameters.length) = some 0 := by decide +kernel
theorem mdX12_180 : MD RX12 180 yX12_word cwX12_word 0 := ⟨(tb7 (List.mem_of_getElem? (i := 21) rfl) rfl), (tb7 (List.mem_of_getElem? (i := 23) rfl) rfl), (tbp (n := 67) (List.mem_append_right _ (List.mem_append_right _ (List.mem_append_left _ (List.mem_of_getElem? (i := 13) rfl)))) rfl), (tb1 (List.mem_of_getElem? (i := 17) rfl) rfl), cmX12_word, pdX12_word⟩
abbrev cwX12_name : Cond := .code yX12_name cX12_name 2 none
theorem cmX12_name : cwX12_name ∈ BIG := (tb7 (List.mem_of_getElem? (i := 31) rfl) rfl)
theorem pdX12_name : yX12_name.cls ≠ "java/lang/invoke/MethodHandle" ∧ yX12_name.cls ≠ "java/lang/invoke/VarHandle" ∧ (parseMethodDescriptor yX12_name.desc).map (fun d => d.parameters.length) = some 0 := by decide +kernel
theorem mdX12_186 : MD RX12 186 yX12_name cwX12_name 0 := ⟨(tb7 (List.mem_of_getElem? (i := 28) rfl) rfl), (tb7 (List.mem_of_getElem? (i := 30) rfl) rfl), (tbp (n := 67) (List.mem_append_right _ (List.mem_append_right _ (List.mem_append_left _ (List.mem_of_getElem? (i := 14) rfl)))) rfl), (tb1 (List.mem_of_getElem? (i := 17) rfl) rfl), cmX12_name, pdX12_name⟩
abbrev cwX12_isDigit : Cond := .code yX12_isDigit cX12_isDigit 1 (some .boolean)
theorem cmX12_isDigit : cwX12_isDigit ∈ BIG := (tb7 (List.mem_of_getElem? (i := 34) rfl) rfl)
theorem pdX12_isDigit : yX12_isDigit.cls ≠ "java/lang/invoke/MethodHandle" ∧ yX12_isDigit.cls ≠ "java/lang/invoke/VarHandle" ∧ (parseMethodDescriptor yX12_isDigit.desc).map (fun d => d.parameters.length) = some 1 := by decide +kernel
theorem msX12_189 : MS RX12 189 yX12_isDigit cwX12_isDigit 1 := ⟨(tb7 (List.mem_of_getElem? (i := 32) rfl) rfl), (tb7 (List.mem_of_getElem? (i := 33) rfl) rfl), (tb1 (List.mem_of_getElem? (i := 17) rfl) rfl), cmX12_isDigit, pdX12_isDigit⟩
abbrev cwX12_sign : Cond := .code yX12_sign cX12_sign 2 none
theorem cmX12_sign : cwX12_sign ∈ BIG := (tb7 (List.mem_of_getElem? (i := 39) rfl) rfl)
theorem pdX12_sign : yX12_sign.cls ≠ "java/lang/invoke/MethodHandle" ∧ yX12_sign.cls ≠ "java/lang/invoke/VarHandle" ∧ (parseMethodDescriptor yX12_sign.desc).map (fun d => d.parameters.length) = some 1 := by decide +kernel
theorem mdX12_193 : MD RX12 193 yX12_sign cwX12_sign 1 := ⟨(tb7 (List.mem_of_getElem? (i := 36) rfl) rfl), (tb7 (List.mem_of_getElem? (i := 38) rfl) rfl), (tbp (n := 67) (List.mem_append_right _ (List.mem_append_right _ (List.mem_append_left _ (List.mem_of_getElem? (i := 15) rfl)))) rfl), (tb1 (List.mem_of_getElem? (i := 17) rfl) rfl), cmX12_sign, pdX12_sign⟩
abbrev cwX12_token : Cond := .code yX12_token cX12_token 2 none
theorem cmX12_token : cwX12_token ∈ BIG := (tb7 (List.mem_of_getElem? (i := 13) rfl) rfl)
theorem pdX12_token : yX12_token.cls ≠ "java/lang/invoke/MethodHandle" ∧ yX12_token.cls ≠ "java/lang/invoke/VarHandle" ∧ (parseMethodDescriptor yX12_token.desc).map (fun d => d.parameters.length) = some 0 := by decide +kernel
theorem mdX12_214 : MD RX12 214 yX12_token cwX12_token 0 := ⟨(tb7 (List.mem_of_getElem? (i := 10) rfl) rfl), (tb7 (List.mem_of_getElem? (i := 12) rfl) rfl), (tbp (n := 67) (List.mem_append_right _ (List.mem_append_right _ (List.mem_append_left _ (List.mem_of_getElem? (i := 11) rfl)))) rfl), (tb1 (List.mem_of_getElem? (i := 17) rfl) rfl), cmX12_token, pdX12_token⟩
abbrev cwX12_wrong : Cond := .code yX12_wrong cX12_wrong 2 none
theorem cmX12_wrong : cwX12_wrong ∈ BIG := (tb7 (List.mem_of_getElem? (i := 47) rfl) rfl)
theorem pdX12_wrong : yX12_wrong.cls ≠ "java/lang/invoke/MethodHandle" ∧ yX12_wrong.cls ≠ "java/lang/invoke/VarHandle" ∧ (parseMethodDescriptor yX12_wrong.desc).map (fun d => d.parameters.length) = some 1 := by decide +kernel
theorem mdX12_217 : MD RX12 217 yX12_wrong cwX12_wrong 1 := ⟨(tb7 (List.mem_of_getElem? (i := 44) rfl) rfl), (tb7 (List.mem_of_getElem? (i := 46) rfl) rfl), (tbp (n := 67) (List.mem_append_right _ (List.mem_append_right _ (List.mem_append_right _ (List.mem_append_left _ (List.mem_of_getElem? (i := 1) rfl))))) rfl), (tb1 (List.mem_of_getElem? (i := 17) rfl) rfl), cmX12_wrong, pdX12_wrong⟩
abbrev cwX12_found : Cond := .code yX12_found cX12_found 5 (some .int)
theorem cmX12_found : cwX12_found ∈ BIG := (tb7 (List.mem_of_getElem? (i := 62) rfl) rfl)
theorem pdX12_found : yX12_found.cls ≠ "java/lang/invoke/MethodHandle" ∧ yX12_found.cls ≠ "java/lang/invoke/VarHandle" ∧ (parseMethodDescriptor yX12_found.desc).map (fun d => d.parameters.length) = some 4 := by decide +kernel
theorem msX12_220 : MS RX12 220 yX12_found cwX12_found 4 := ⟨(tb7 (List.mem_of_getElem? (i := 60) rfl) rfl), (tb7 (List.mem_of_getElem? (i := 61) rfl) rfl), (tb1 (List.mem_of_getElem? (i := 17) rfl) rfl), cmX12_found, pdX12_found⟩
abbrev cwX12_fresher : Cond := .code yX12_fresher cX12_fresher 2 (some .int)
theorem cmX12_fresher : cwX12_fresher ∈ BIG := (tb7 (List.mem_of_getElem? (i := 55) rfl) rfl)
theorem pdX12_fresher : yX12_fresher.cls ≠ "java/lang/invoke/MethodHandle" ∧ yX12_fresher.cls ≠ "java/lang/invoke/VarHandle" ∧ (parseMethodDescriptor yX12_fresher.desc).map (fun d => d.parameters.length) = some 1 := by decide +kernel
theorem mdX12_224 : MD RX12 224 yX12_fresher cwX12_fresher 1 := ⟨(tb7 (List.mem_of_getElem? (i := 52) rfl) rfl), (tb7 (List.mem_of_getElem? (i := 54) rfl) rfl), (tbp (n := 67) (List.mem_append_right _ (List.mem_append_right _ (List.mem_append_right _ (List.mem_append_left _ (List.mem_of_getElem? (i := 3) rfl))))) rfl), (tb1 (List.mem_of_getElem? (i := 17) rfl) rfl), cmX12_fresher, pdX12_fresher⟩
abbrev cwX12_atHand : Cond := .code yX12_atHand cX12_atHand 5 (some .int)
theorem cmX12_atHand : cwX12_atHand ∈ BIG := (tb7 (List.mem_of_getElem? (i := 70) rfl) rfl)
theorem pdX12_atHand : yX12_atHand.cls ≠ "java/lang/invoke/MethodHandle" ∧ yX12_atHand.cls ≠ "java/lang/invoke/VarHandle" ∧ (parseMethodDescriptor yX12_atHand.desc).map (fun d => d.parameters.length) = some 3 := by decide +kernel
theorem mdX12_228 : MD RX12 228 yX12_atHand cwX12_atHand 3 := ⟨(tb7 (List.mem_of_getElem? (i := 67) rfl) rfl), (tb7 (List.mem_of_getElem? (i := 69) rfl) rfl), (tbp (n := 67) (List.mem_append_right _ (List.mem_append_right _ (List.mem_append_right _ (List.mem_append_left _ (List.mem_of_getElem? (i := 6) rfl))))) rfl), (tb1 (List.mem_of_getElem? (i := 17) rfl) rfl), cmX12_atHand, pdX12_atHand⟩
abbrev cwX12_goOn : Cond := .code yX12_goOn cX12_goOn 1 none
theorem cmX12_goOn : cwX12_goOn ∈ BIG := (tb7 (List.mem_of_getElem? (i := 74) rfl) rfl)
theorem pdX12_goOn : yX12_goOn.cls ≠ "java/lang/invoke/MethodHandle" ∧ yX12_goOn.cls ≠ "java/lang/invoke/VarHandle" ∧ (parseMethodDescriptor yX12_goOn.desc).map (fun d => d.parameters.length) = some 0 := by decide +kernel
theorem mdX12_232 : MD RX12 232 yX12_goOn cwX12_goOn 0 := ⟨(tb7 (List.mem_of_getElem? (i := 71) rfl) rfl), (tb7 (List.mem_of_getElem? (i := 73) rfl) rfl), (tbp (n := 67) (List.mem_append_right _ (List.mem_append_right _ (List.mem_append_right _ (List.mem_append_left _ (List.mem_of_getElem? (i := 7) rfl))))) rfl), (tb1 (List.mem_of_getElem? (i := 17) rfl) rfl), cmX12_goOn, pdX12_goOn⟩
abbrev cwX12_isFull : Cond := .code yX12_isFull cX12_isFull 2 (some .boolean)
theorem cmX12_isFull : cwX12_isFull ∈ BIG := (tb7 (List.mem_of_getElem? (i := 51) rfl) rfl)
theorem pdX12_isFull : yX12_isFull.cls ≠ "java/lang/invoke/MethodHandle" ∧ yX12_isFull.cls ≠ "java/lang/invoke/VarHandle" ∧ (parseMethodDescriptor yX12_isFull.desc).map (fun d => d.parameters.length) = some 1 := by decide +kernel
theorem mdX12_235 : MD RX12 235 yX12_isFull cwX12_isFull 1 := ⟨(tb7 (List.mem_of_getElem? (i := 48) rfl) rfl), (tb7 (List.mem_of_getElem? (i := 50) rfl) rfl), (tbp (n := 67) (List.mem_append_right _ (List.mem_append_right _ (List.mem_append_right _ (List.mem_append_left _ (List.mem_of_getElem? (i := 2) rfl))))) rfl), (tb1 (List.mem_of_getElem? (i := 17) rfl) rfl), cmX12_isFull, pdX12_isFull⟩
abbrev cwX12_fresh : Cond := .code yX12_fresh cX12_fresh 5 (some .int)
theorem cmX12_fresh : cwX12_fresh ∈ BIG := (tb7 (List.mem_of_getElem? (i := 59) rfl) rfl)
theorem pdX12_fresh : yX12_fresh.cls ≠ "java/lang/invoke/MethodHandle" ∧ yX12_fresh.cls ≠ "java/lang/invoke/VarHandle" ∧ (parseMethodDescriptor yX12_fresh.desc).map (fun d => d.parameters.length) = some 3 := by decide +kernel
theorem mdX12_241 : MD RX12 241 yX12_fresh cwX12_fresh 3 := ⟨(tb7 (List.mem_of_getElem? (i := 56) rfl) rfl), (tb7 (List.mem_of_getElem? (i := 58) rfl) rfl), (tbp (n := 67) (List.mem_append_right _ (List.mem_append_right _ (List.mem_append_right _ (List.mem_append_left _ (List.mem_of_getElem? (i := 4) rfl))))) rfl), (tb1 (List.mem_of_getElem? (i := 17) rfl) rfl), cmX12_fresh, pdX12_fresh⟩
abbrev cwX12_numeral : Cond := .code yX12_numeral cX12_numeral 4 (some .int)
theorem cmX12_numeral : cwX12_numeral ∈ BIG := (tb7 (List.mem_of_getElem? (i := 66) rfl) rfl)
theorem pdX12_numeral : yX12_numeral.cls ≠ "java/lang/invoke/MethodHandle" ∧ yX12_numeral.cls ≠ "java/lang/invoke/VarHandle" ∧ (parseMethodDescriptor yX12_numeral.desc).map (fun d => d.parameters.length) = some 2 := by decide +kernel
theorem mdX12_244 : MD RX12 244 yX12_numeral cwX12_numeral 2 := ⟨(tb7 (List.mem_of_getElem? (i := 63) rfl) rfl), (tb7 (List.mem_of_getElem? (i := 65) rfl) rfl), (tbp (n := 67) (List.mem_append_right _ (List.mem_append_right _ (List.mem_append_right _ (List.mem_append_left _ (List.mem_of_getElem? (i := 5) rfl))))) rfl), (tb1 (List.mem_of_getElem? (i := 17) rfl) rfl), cmX12_numeral, pdX12_numeral⟩
abbrev cwX12_reads : Cond := .code yX12_reads cX12_reads 3 none
theorem cmX12_reads : cwX12_reads ∈ BIG := (tb7 (List.mem_of_getElem? (i := 9) rfl) rfl)
theorem pdX12_reads : yX12_reads.cls ≠ "java/lang/invoke/MethodHandle" ∧ yX12_reads.cls ≠ "java/lang/invoke/VarHandle" ∧ (parseMethodDescriptor yX12_reads.desc).map (fun d => d.parameters.length) = some 2 := by decide +kernel
theorem mdX12_248 : MD RX12 248 yX12_reads cwX12_reads 2 := ⟨(tb7 (List.mem_of_getElem? (i := 6) rfl) rfl), (tb7 (List.mem_of_getElem? (i := 8) rfl) rfl), (tbp (n := 67) (List.mem_append_right _ (List.mem_append_right _ (List.mem_append_left _ (List.mem_of_getElem? (i := 10) rfl)))) rfl), (tb1 (List.mem_of_getElem? (i := 17) rfl) rfl), cmX12_reads, pdX12_reads⟩
abbrev cwX12_tubAhead : Cond := .code yX12_tubAhead cX12_tubAhead 2 (some .int)
theorem cmX12_tubAhead : cwX12_tubAhead ∈ BIG := (tb7 (List.mem_of_getElem? (i := 78) rfl) rfl)
theorem pdX12_tubAhead : yX12_tubAhead.cls ≠ "java/lang/invoke/MethodHandle" ∧ yX12_tubAhead.cls ≠ "java/lang/invoke/VarHandle" ∧ (parseMethodDescriptor yX12_tubAhead.desc).map (fun d => d.parameters.length) = some 0 := by decide +kernel
theorem mdX12_252 : MD RX12 252 yX12_tubAhead cwX12_tubAhead 0 := ⟨(tb7 (List.mem_of_getElem? (i := 75) rfl) rfl), (tb7 (List.mem_of_getElem? (i := 77) rfl) rfl), (tbp (n := 67) (List.mem_append_right _ (List.mem_append_right _ (List.mem_append_right _ (List.mem_append_left _ (List.mem_of_getElem? (i := 8) rfl))))) rfl), (tb1 (List.mem_of_getElem? (i := 17) rfl) rfl), cmX12_tubAhead, pdX12_tubAhead⟩
abbrev cwX12_pipeLine : Cond := .code yX12_pipeLine cX12_pipeLine 2 none
theorem cmX12_pipeLine : cwX12_pipeLine ∈ BIG := (tb7 (List.mem_of_getElem? (i := 82) rfl) rfl)
theorem pdX12_pipeLine : yX12_pipeLine.cls ≠ "java/lang/invoke/MethodHandle" ∧ yX12_pipeLine.cls ≠ "java/lang/invoke/VarHandle" ∧ (parseMethodDescriptor yX12_pipeLine.desc).map (fun d => d.parameters.length) = some 0 := by decide +kernel
theorem mdX12_255 : MD RX12 255 yX12_pipeLine cwX12_pipeLine 0 := ⟨(tb7 (List.mem_of_getElem? (i := 79) rfl) rfl), (tb7 (List.mem_of_getElem? (i := 81) rfl) rfl), (tbp (n := 67) (List.mem_append_right _ (List.mem_append_right _ (List.mem_append_right _ (List.mem_append_left _ (List.mem_of_getElem? (i := 9) rfl))))) rfl), (tb1 (List.mem_of_getElem? (i := 17) rfl) rfl), cmX12_pipeLine, pdX12_pipeLine⟩
abbrev cwX12_lawLine : Cond := .code yX12_lawLine cX12_lawLine 2 none
theorem cmX12_lawLine : cwX12_lawLine ∈ BIG := (tb7 (List.mem_of_getElem? (i := 86) rfl) rfl)
theorem pdX12_lawLine : yX12_lawLine.cls ≠ "java/lang/invoke/MethodHandle" ∧ yX12_lawLine.cls ≠ "java/lang/invoke/VarHandle" ∧ (parseMethodDescriptor yX12_lawLine.desc).map (fun d => d.parameters.length) = some 0 := by decide +kernel
theorem mdX12_258 : MD RX12 258 yX12_lawLine cwX12_lawLine 0 := ⟨(tb7 (List.mem_of_getElem? (i := 83) rfl) rfl), (tb7 (List.mem_of_getElem? (i := 85) rfl) rfl), (tbp (n := 67) (List.mem_append_right _ (List.mem_append_right _ (List.mem_append_right _ (List.mem_append_left _ (List.mem_of_getElem? (i := 10) rfl))))) rfl), (tb1 (List.mem_of_getElem? (i := 17) rfl) rfl), cmX12_lawLine, pdX12_lawLine⟩
abbrev cwX12_isSign : Cond := .code yX12_isSign cX12_isSign 2 (some .boolean)
theorem cmX12_isSign : cwX12_isSign ∈ BIG := (tb7 (List.mem_of_getElem? (i := 126) rfl) rfl)
theorem pdX12_isSign : yX12_isSign.cls ≠ "java/lang/invoke/MethodHandle" ∧ yX12_isSign.cls ≠ "java/lang/invoke/VarHandle" ∧ (parseMethodDescriptor yX12_isSign.desc).map (fun d => d.parameters.length) = some 1 := by decide +kernel
theorem mdX12_261 : MD RX12 261 yX12_isSign cwX12_isSign 1 := ⟨(tb7 (List.mem_of_getElem? (i := 123) rfl) rfl), (tb7 (List.mem_of_getElem? (i := 125) rfl) rfl), (tbp (n := 67) (List.mem_append_right _ (List.mem_append_right _ (List.mem_append_right _ (List.mem_append_right _ (List.mem_append_left _ (List.mem_of_getElem? (i := 4) rfl)))))) rfl), (tb1 (List.mem_of_getElem? (i := 17) rfl) rfl), cmX12_isSign, pdX12_isSign⟩
abbrev cwX12_expression : Cond := .code yX12_expression cX12_expression 1 none
theorem cmX12_expression : cwX12_expression ∈ BIG := (tb7 (List.mem_of_getElem? (i := 90) rfl) rfl)
theorem pdX12_expression : yX12_expression.cls ≠ "java/lang/invoke/MethodHandle" ∧ yX12_expression.cls ≠ "java/lang/invoke/VarHandle" ∧ (parseMethodDescriptor yX12_expression.desc).map (fun d => d.parameters.length) = some 0 := by decide +kernel
theorem mdX12_267 : MD RX12 267 yX12_expression cwX12_expression 0 := ⟨(tb7 (List.mem_of_getElem? (i := 87) rfl) rfl), (tb7 (List.mem_of_getElem? (i := 89) rfl) rfl), (tbp (n := 67) (List.mem_append_right _ (List.mem_append_right _ (List.mem_append_right _ (List.mem_append_left _ (List.mem_of_getElem? (i := 11) rfl))))) rfl), (tb1 (List.mem_of_getElem? (i := 17) rfl) rfl), cmX12_expression, pdX12_expression⟩
abbrev cwX12_conjunction : Cond := .code yX12_conjunction cX12_conjunction 1 none
theorem cmX12_conjunction : cwX12_conjunction ∈ BIG := (tb7 (List.mem_of_getElem? (i := 94) rfl) rfl)
theorem pdX12_conjunction : yX12_conjunction.cls ≠ "java/lang/invoke/MethodHandle" ∧ yX12_conjunction.cls ≠ "java/lang/invoke/VarHandle" ∧ (parseMethodDescriptor yX12_conjunction.desc).map (fun d => d.parameters.length) = some 0 := by decide +kernel
theorem mdX12_273 : MD RX12 273 yX12_conjunction cwX12_conjunction 0 := ⟨(tb7 (List.mem_of_getElem? (i := 91) rfl) rfl), (tb7 (List.mem_of_getElem? (i := 93) rfl) rfl), (tbp (n := 67) (List.mem_append_right _ (List.mem_append_right _ (List.mem_append_right _ (List.mem_append_left _ (List.mem_of_getElem? (i := 12) rfl))))) rfl), (tb1 (List.mem_of_getElem? (i := 17) rfl) rfl), cmX12_conjunction, pdX12_conjunction⟩
abbrev cwX12_isWord : Cond := .code yX12_isWord cX12_isWord 2 (some .boolean)
theorem cmX12_isWord : cwX12_isWord ∈ BIG := (tb7 (List.mem_of_getElem? (i := 102) rfl) rfl)
theorem pdX12_isWord : yX12_isWord.cls ≠ "java/lang/invoke/MethodHandle" ∧ yX12_isWord.cls ≠ "java/lang/invoke/VarHandle" ∧ (parseMethodDescriptor yX12_isWord.desc).map (fun d => d.parameters.length) = some 1 := by decide +kernel
theorem mdX12_276 : MD RX12 276 yX12_isWord cwX12_isWord 1 := ⟨(tb7 (List.mem_of_getElem? (i := 99) rfl) rfl), (tb7 (List.mem_of_getElem? (i := 101) rfl) rfl), (tbp (n := 67) (List.mem_append_right _ (List.mem_append_right _ (List.mem_append_right _ (List.mem_append_left _ (List.mem_of_getElem? (i := 14) rfl))))) rfl), (tb1 (List.mem_of_getElem? (i := 17) rfl) rfl), cmX12_isWord, pdX12_isWord⟩
abbrev cwX12_knot : Cond := .code yX12_knot cX12_knot 1 none
theorem cmX12_knot : cwX12_knot ∈ BIG := (tb7 (List.mem_of_getElem? (i := 106) rfl) rfl)
theorem pdX12_knot : yX12_knot.cls ≠ "java/lang/invoke/MethodHandle" ∧ yX12_knot.cls ≠ "java/lang/invoke/VarHandle" ∧ (parseMethodDescriptor yX12_knot.desc).map (fun d => d.parameters.length) = some 0 := by decide +kernel
theorem mdX12_279 : MD RX12 279 yX12_knot cwX12_knot 0 := ⟨(tb7 (List.mem_of_getElem? (i := 103) rfl) rfl), (tb7 (List.mem_of_getElem? (i := 105) rfl) rfl), (tbp (n := 67) (List.mem_append_right _ (List.mem_append_right _ (List.mem_append_right _ (List.mem_append_left _ (List.mem_of_getElem? (i := 15) rfl))))) rfl), (tb1 (List.mem_of_getElem? (i := 17) rfl) rfl), cmX12_knot, pdX12_knot⟩
abbrev cwX12_puts : Cond := .code yX12_puts cX12_puts 3 none
theorem cmX12_puts : cwX12_puts ∈ BIG := (tb7 (List.mem_of_getElem? (i := 110) rfl) rfl)
theorem pdX12_puts : yX12_puts.cls ≠ "java/lang/invoke/MethodHandle" ∧ yX12_puts.cls ≠ "java/lang/invoke/VarHandle" ∧ (parseMethodDescriptor yX12_puts.desc).map (fun d => d.parameters.length) = some 2 := by decide +kernel
theorem mdX12_282 : MD RX12 282 yX12_puts cwX12_puts 2 := ⟨(tb7 (List.mem_of_getElem? (i := 107) rfl) rfl), (tb7 (List.mem_of_getElem? (i := 109) rfl) rfl), (tbp (n := 67) (List.mem_append_right _ (List.mem_append_right _ (List.mem_append_right _ (List.mem_append_right _ (List.mem_append_left _ (List.mem_of_getElem? (i := 0) rfl)))))) rfl), (tb1 (List.mem_of_getElem? (i := 17) rfl) rfl), cmX12_puts, pdX12_puts⟩
abbrev cwX12_negation : Cond := .code yX12_negation cX12_negation 2 none
theorem cmX12_negation : cwX12_negation ∈ BIG := (tb7 (List.mem_of_getElem? (i := 98) rfl) rfl)
theorem pdX12_negation : yX12_negation.cls ≠ "java/lang/invoke/MethodHandle" ∧ yX12_negation.cls ≠ "java/lang/invoke/VarHandle" ∧ (parseMethodDescriptor yX12_negation.desc).map (fun d => d.parameters.length) = some 0 := by decide +kernel
theorem mdX12_285 : MD RX12 285 yX12_negation cwX12_negation 0 := ⟨(tb7 (List.mem_of_getElem? (i := 95) rfl) rfl), (tb7 (List.mem_of_getElem? (i := 97) rfl) rfl), (tbp (n := 67) (List.mem_append_right _ (List.mem_append_right _ (List.mem_append_right _ (List.mem_append_left _ (List.mem_of_getElem? (i := 13) rfl))))) rfl), (tb1 (List.mem_of_getElem? (i := 17) rfl) rfl), cmX12_negation, pdX12_negation⟩
abbrev cwX12_sum : Cond := .code yX12_sum cX12_sum 2 none
theorem cmX12_sum : cwX12_sum ∈ BIG := (tb7 (List.mem_of_getElem? (i := 114) rfl) rfl)
theorem pdX12_sum : yX12_sum.cls ≠ "java/lang/invoke/MethodHandle" ∧ yX12_sum.cls ≠ "java/lang/invoke/VarHandle" ∧ (parseMethodDescriptor yX12_sum.desc).map (fun d => d.parameters.length) = some 0 := by decide +kernel
theorem mdX12_288 : MD RX12 288 yX12_sum cwX12_sum 0 := ⟨(tb7 (List.mem_of_getElem? (i := 111) rfl) rfl), (tb7 (List.mem_of_getElem? (i := 113) rfl) rfl), (tbp (n := 67) (List.mem_append_right _ (List.mem_append_right _ (List.mem_append_right _ (List.mem_append_right _ (List.mem_append_left _ (List.mem_of_getElem? (i := 1) rfl)))))) rfl), (tb1 (List.mem_of_getElem? (i := 17) rfl) rfl), cmX12_sum, pdX12_sum⟩
abbrev cwX12_product : Cond := .code yX12_product cX12_product 2 none
theorem cmX12_product : cwX12_product ∈ BIG := (tb7 (List.mem_of_getElem? (i := 118) rfl) rfl)
theorem pdX12_product : yX12_product.cls ≠ "java/lang/invoke/MethodHandle" ∧ yX12_product.cls ≠ "java/lang/invoke/VarHandle" ∧ (parseMethodDescriptor yX12_product.desc).map (fun d => d.parameters.length) = some 0 := by decide +kernel
theorem mdX12_291 : MD RX12 291 yX12_product cwX12_product 0 := ⟨(tb7 (List.mem_of_getElem? (i := 115) rfl) rfl), (tb7 (List.mem_of_getElem? (i := 117) rfl) rfl), (tbp (n := 67) (List.mem_append_right _ (List.mem_append_right _ (List.mem_append_right _ (List.mem_append_right _ (List.mem_append_left _ (List.mem_of_getElem? (i := 2) rfl)))))) rfl), (tb1 (List.mem_of_getElem? (i := 17) rfl) rfl), cmX12_product, pdX12_product⟩
abbrev cwX12_primary : Cond := .code yX12_primary cX12_primary 2 none
theorem cmX12_primary : cwX12_primary ∈ BIG := (tb7 (List.mem_of_getElem? (i := 122) rfl) rfl)
theorem pdX12_primary : yX12_primary.cls ≠ "java/lang/invoke/MethodHandle" ∧ yX12_primary.cls ≠ "java/lang/invoke/VarHandle" ∧ (parseMethodDescriptor yX12_primary.desc).map (fun d => d.parameters.length) = some 0 := by decide +kernel
theorem mdX12_294 : MD RX12 294 yX12_primary cwX12_primary 0 := ⟨(tb7 (List.mem_of_getElem? (i := 119) rfl) rfl), (tb7 (List.mem_of_getElem? (i := 121) rfl) rfl), (tbp (n := 67) (List.mem_append_right _ (List.mem_append_right _ (List.mem_append_right _ (List.mem_append_right _ (List.mem_append_left _ (List.mem_of_getElem? (i := 3) rfl)))))) rfl), (tb1 (List.mem_of_getElem? (i := 17) rfl) rfl), cmX12_primary, pdX12_primary⟩
abbrev cwX12_line : Cond := .code yX12_line cX12_line 6 none
theorem cmX12_line : cwX12_line ∈ BIG := (tb7 (List.mem_of_getElem? (i := 43) rfl) rfl)
theorem pdX12_line : yX12_line.cls ≠ "java/lang/invoke/MethodHandle" ∧ yX12_line.cls ≠ "java/lang/invoke/VarHandle" ∧ (parseMethodDescriptor yX12_line.desc).map (fun d => d.parameters.length) = some 0 := by decide +kernel
theorem mdX12_300 : MD RX12 300 yX12_line cwX12_line 0 := ⟨(tb7 (List.mem_of_getElem? (i := 40) rfl) rfl), (tb7 (List.mem_of_getElem? (i := 42) rfl) rfl), (tbp (n := 67) (List.mem_append_right _ (List.mem_append_right _ (List.mem_append_right _ (List.mem_append_left _ (List.mem_of_getElem? (i := 0) rfl))))) rfl), (tb1 (List.mem_of_getElem? (i := 17) rfl) rfl), cmX12_line, pdX12_line⟩
abbrev cwX12_half : Cond := .code yX12_half cX12_half 3 none
theorem cmX12_half : cwX12_half ∈ BIG := (tb7 (List.mem_of_getElem? (i := 129) rfl) rfl)
theorem pdX12_half : yX12_half.cls ≠ "java/lang/invoke/MethodHandle" ∧ yX12_half.cls ≠ "java/lang/invoke/VarHandle" ∧ (parseMethodDescriptor yX12_half.desc).map (fun d => d.parameters.length) = some 1 := by decide +kernel
theorem msX12_306 : MS RX12 306 yX12_half cwX12_half 1 := ⟨(tb7 (List.mem_of_getElem? (i := 127) rfl) rfl), (tb7 (List.mem_of_getElem? (i := 128) rfl) rfl), (tb1 (List.mem_of_getElem? (i := 17) rfl) rfl), cmX12_half, pdX12_half⟩
abbrev cwX12_is : Cond := .code yX12_is cX12_is 1 (some .long)
theorem cmX12_is : cwX12_is ∈ BIG := (tb7 (List.mem_of_getElem? (i := 187) rfl) rfl)
theorem pdX12_is : yX12_is.cls ≠ "java/lang/invoke/MethodHandle" ∧ yX12_is.cls ≠ "java/lang/invoke/VarHandle" ∧ (parseMethodDescriptor yX12_is.desc).map (fun d => d.parameters.length) = some 1 := by decide +kernel
theorem msX12_323 : MS RX12 323 yX12_is cwX12_is 1 := ⟨(tb7 (List.mem_of_getElem? (i := 185) rfl) rfl), (tb7 (List.mem_of_getElem? (i := 186) rfl) rfl), (tb1 (List.mem_of_getElem? (i := 17) rfl) rfl), cmX12_is, pdX12_is⟩
abbrev cwX12_works : Cond := .code yX12_works cX12_works 8 (some .boolean)
theorem cmX12_works : cwX12_works ∈ BIG := (tb7 (List.mem_of_getElem? (i := 184) rfl) rfl)
theorem pdX12_works : yX12_works.cls ≠ "java/lang/invoke/MethodHandle" ∧ yX12_works.cls ≠ "java/lang/invoke/VarHandle" ∧ (parseMethodDescriptor yX12_works.desc).map (fun d => d.parameters.length) = some 1 := by decide +kernel
theorem mdX12_337 : MD RX12 337 yX12_works cwX12_works 1 := ⟨(tb7 (List.mem_of_getElem? (i := 181) rfl) rfl), (tb7 (List.mem_of_getElem? (i := 183) rfl) rfl), (tbp (n := 67) (List.mem_append_right _ (List.mem_append_right _ (List.mem_append_right _ (List.mem_append_right _ (List.mem_append_left _ (List.mem_of_getElem? (i := 12) rfl)))))) rfl), (tb1 (List.mem_of_getElem? (i := 17) rfl) rfl), cmX12_works, pdX12_works⟩
abbrev cwX12_starts : Cond := .code yX12_starts cX12_starts 4 none
theorem cmX12_starts : cwX12_starts ∈ BIG := (tb6 (List.mem_of_getElem? (i := 31) rfl) rfl)
theorem pdX12_starts : yX12_starts.cls ≠ "java/lang/invoke/MethodHandle" ∧ yX12_starts.cls ≠ "java/lang/invoke/VarHandle" ∧ (parseMethodDescriptor yX12_starts.desc).map (fun d => d.parameters.length) = some 1 := by decide +kernel
theorem mdX12_340 : MD RX12 340 yX12_starts cwX12_starts 1 := ⟨(tb6 (List.mem_of_getElem? (i := 28) rfl) rfl), (tb6 (List.mem_of_getElem? (i := 30) rfl) rfl), (tbp (n := 67) (List.mem_append_right _ (List.mem_append_right _ (List.mem_append_left _ (List.mem_of_getElem? (i := 9) rfl)))) rfl), (tb1 (List.mem_of_getElem? (i := 17) rfl) rfl), cmX12_starts, pdX12_starts⟩
abbrev cwX12_hasLaw : Cond := .code yX12_hasLaw cX12_hasLaw 2 (some .boolean)
theorem cmX12_hasLaw : cwX12_hasLaw ∈ BIG := (tb7 (List.mem_of_getElem? (i := 176) rfl) rfl)
theorem pdX12_hasLaw : yX12_hasLaw.cls ≠ "java/lang/invoke/MethodHandle" ∧ yX12_hasLaw.cls ≠ "java/lang/invoke/VarHandle" ∧ (parseMethodDescriptor yX12_hasLaw.desc).map (fun d => d.parameters.length) = some 1 := by decide +kernel
theorem mdX12_343 : MD RX12 343 yX12_hasLaw cwX12_hasLaw 1 := ⟨(tb7 (List.mem_of_getElem? (i := 173) rfl) rfl), (tb7 (List.mem_of_getElem? (i := 175) rfl) rfl), (tbp (n := 67) (List.mem_append_right _ (List.mem_append_right _ (List.mem_append_right _ (List.mem_append_right _ (List.mem_append_left _ (List.mem_of_getElem? (i := 10) rfl)))))) rfl), (tb1 (List.mem_of_getElem? (i := 17) rfl) rfl), cmX12_hasLaw, pdX12_hasLaw⟩
abbrev cwX12_goes : Cond := .code yX12_goes cX12_goes 3 (some .boolean)
theorem cmX12_goes : cwX12_goes ∈ BIG := (tb7 (List.mem_of_getElem? (i := 180) rfl) rfl)
theorem pdX12_goes : yX12_goes.cls ≠ "java/lang/invoke/MethodHandle" ∧ yX12_goes.cls ≠ "java/lang/invoke/VarHandle" ∧ (parseMethodDescriptor yX12_goes.desc).map (fun d => d.parameters.length) = some 1 := by decide +kernel
theorem mdX12_346 : MD RX12 346 yX12_goes cwX12_goes 1 := ⟨(tb7 (List.mem_of_getElem? (i := 177) rfl) rfl), (tb7 (List.mem_of_getElem? (i := 179) rfl) rfl), (tbp (n := 67) (List.mem_append_right _ (List.mem_append_right _ (List.mem_append_right _ (List.mem_append_right _ (List.mem_append_left _ (List.mem_of_getElem? (i := 11) rfl)))))) rfl), (tb1 (List.mem_of_getElem? (i := 17) rfl) rfl), cmX12_goes, pdX12_goes⟩
abbrev cwX12_calls : Cond := .code yX12_calls cX12_calls 6 none
theorem cmX12_calls : cwX12_calls ∈ BIG := (tb7 (List.mem_of_getElem? (i := 172) rfl) rfl)
theorem pdX12_calls : yX12_calls.cls ≠ "java/lang/invoke/MethodHandle" ∧ yX12_calls.cls ≠ "java/lang/invoke/VarHandle" ∧ (parseMethodDescriptor yX12_calls.desc).map (fun d => d.parameters.length) = some 4 := by decide +kernel
theorem mdX12_356 : MD RX12 356 yX12_calls cwX12_calls 4 := ⟨(tb7 (List.mem_of_getElem? (i := 169) rfl) rfl), (tb7 (List.mem_of_getElem? (i := 171) rfl) rfl), (tbp (n := 67) (List.mem_append_right _ (List.mem_append_right _ (List.mem_append_right _ (List.mem_append_right _ (List.mem_append_left _ (List.mem_of_getElem? (i := 9) rfl)))))) rfl), (tb1 (List.mem_of_getElem? (i := 17) rfl) rfl), cmX12_calls, pdX12_calls⟩
abbrev cwX12_mixed : Cond := .code yX12_mixed cX12_mixed 4 (some .int)
theorem cmX12_mixed : cwX12_mixed ∈ BIG := (tb7 (List.mem_of_getElem? (i := 216) rfl) rfl)
theorem pdX12_mixed : yX12_mixed.cls ≠ "java/lang/invoke/MethodHandle" ∧ yX12_mixed.cls ≠ "java/lang/invoke/VarHandle" ∧ (parseMethodDescriptor yX12_mixed.desc).map (fun d => d.parameters.length) = some 4 := by decide +kernel
theorem msX12_360 : MS RX12 360 yX12_mixed cwX12_mixed 4 := ⟨(tb7 (List.mem_of_getElem? (i := 214) rfl) rfl), (tb7 (List.mem_of_getElem? (i := 215) rfl) rfl), (tb1 (List.mem_of_getElem? (i := 17) rfl) rfl), cmX12_mixed, pdX12_mixed⟩
abbrev cwX12_mixes : Cond := .code yX12_mixes cX12_mixes 6 (some .boolean)
theorem cmX12_mixes : cwX12_mixes ∈ BIG := (tb7 (List.mem_of_getElem? (i := 213) rfl) rfl)
theorem pdX12_mixes : yX12_mixes.cls ≠ "java/lang/invoke/MethodHandle" ∧ yX12_mixes.cls ≠ "java/lang/invoke/VarHandle" ∧ (parseMethodDescriptor yX12_mixes.desc).map (fun d => d.parameters.length) = some 4 := by decide +kernel
theorem mdX12_366 : MD RX12 366 yX12_mixes cwX12_mixes 4 := ⟨(tb7 (List.mem_of_getElem? (i := 210) rfl) rfl), (tb7 (List.mem_of_getElem? (i := 212) rfl) rfl), (tbp (n := 67) (List.mem_append_right _ (List.mem_append_right _ (List.mem_append_right _ (List.mem_append_right _ (List.mem_append_left _ (List.mem_of_getElem? (i := 15) rfl)))))) rfl), (tb1 (List.mem_of_getElem? (i := 17) rfl) rfl), cmX12_mixes, pdX12_mixes⟩
abbrev cwX12_within : Cond := .code yX12_within cX12_within 5 (some .int)
theorem cmX12_within : cwX12_within ∈ BIG := (tb8 (List.mem_of_getElem? (i := 18) rfl) rfl)
theorem pdX12_within : yX12_within.cls ≠ "java/lang/invoke/MethodHandle" ∧ yX12_within.cls ≠ "java/lang/invoke/VarHandle" ∧ (parseMethodDescriptor yX12_within.desc).map (fun d => d.parameters.length) = some 4 := by decide +kernel
theorem mdX12_372 : MD RX12 372 yX12_within cwX12_within 4 := ⟨(tb8 (List.mem_of_getElem? (i := 15) rfl) rfl), (tb8 (List.mem_of_getElem? (i := 17) rfl) rfl), (tbp (n := 67) (List.mem_append_right _ (List.mem_append_right _ (List.mem_append_right _ (List.mem_append_right _ (List.mem_append_right _ (List.mem_append_left _ (List.mem_of_getElem? (i := 5) rfl))))))) rfl), (tb1 (List.mem_of_getElem? (i := 17) rfl) rfl), cmX12_within, pdX12_within⟩
abbrev cwX12_isAtEase : Cond := .code yX12_isAtEase cX12_isAtEase 5 (some .boolean)
theorem cmX12_isAtEase : cwX12_isAtEase ∈ BIG := (tb7 (List.mem_of_getElem? (i := 168) rfl) rfl)
theorem pdX12_isAtEase : yX12_isAtEase.cls ≠ "java/lang/invoke/MethodHandle" ∧ yX12_isAtEase.cls ≠ "java/lang/invoke/VarHandle" ∧ (parseMethodDescriptor yX12_isAtEase.desc).map (fun d => d.parameters.length) = some 4 := by decide +kernel
theorem mdX12_382 : MD RX12 382 yX12_isAtEase cwX12_isAtEase 4 := ⟨(tb7 (List.mem_of_getElem? (i := 165) rfl) rfl), (tb7 (List.mem_of_getElem? (i := 167) rfl) rfl), (tbp (n := 67) (List.mem_append_right _ (List.mem_append_right _ (List.mem_append_right _ (List.mem_append_right _ (List.mem_append_left _ (List.mem_of_getElem? (i := 8) rfl)))))) rfl), (tb1 (List.mem_of_getElem? (i := 17) rfl) rfl), cmX12_isAtEase, pdX12_isAtEase⟩
abbrev cwX12_doesFlinch : Cond := .code yX12_doesFlinch cX12_doesFlinch 4 (some .boolean)
theorem cmX12_doesFlinch : cwX12_doesFlinch ∈ BIG := (tb8 (List.mem_of_getElem? (i := 32) rfl) rfl)
theorem pdX12_doesFlinch : yX12_doesFlinch.cls ≠ "java/lang/invoke/MethodHandle" ∧ yX12_doesFlinch.cls ≠ "java/lang/invoke/VarHandle" ∧ (parseMethodDescriptor yX12_doesFlinch.desc).map (fun d => d.parameters.length) = some 2 := by decide +kernel
theorem mdX12_385 : MD RX12 385 yX12_doesFlinch cwX12_doesFlinch 2 := ⟨(tb8 (List.mem_of_getElem? (i := 29) rfl) rfl), (tb8 (List.mem_of_getElem? (i := 31) rfl) rfl), (tbp (n := 67) (List.mem_append_right _ (List.mem_append_right _ (List.mem_append_right _ (List.mem_append_right _ (List.mem_append_right _ (List.mem_append_left _ (List.mem_of_getElem? (i := 7) rfl))))))) rfl), (tb1 (List.mem_of_getElem? (i := 17) rfl) rfl), cmX12_doesFlinch, pdX12_doesFlinch⟩
abbrev cwX12_leaves : Cond := .code yX12_leaves cX12_leaves 3 none
theorem cmX12_leaves : cwX12_leaves ∈ BIG := (tb7 (List.mem_of_getElem? (i := 236) rfl) rfl)
theorem pdX12_leaves : yX12_leaves.cls ≠ "java/lang/invoke/MethodHandle" ∧ yX12_leaves.cls ≠ "java/lang/invoke/VarHandle" ∧ (parseMethodDescriptor yX12_leaves.desc).map (fun d => d.parameters.length) = some 2 := by decide +kernel
theorem mdX12_389 : MD RX12 389 yX12_leaves cwX12_leaves 2 := ⟨(tb7 (List.mem_of_getElem? (i := 233) rfl) rfl), (tb7 (List.mem_of_getElem? (i := 235) rfl) rfl), (tbp (n := 67) (List.mem_append_right _ (List.mem_append_right _ (List.mem_append_right _ (List.mem_append_right _ (List.mem_append_right _ (List.mem_append_left _ (List.mem_of_getElem? (i := 1) rfl))))))) rfl), (tb1 (List.mem_of_getElem? (i := 17) rfl) rfl), cmX12_leaves, pdX12_leaves⟩
abbrev cwX12_flows : Cond := .code yX12_flows cX12_flows 5 none
theorem cmX12_flows : cwX12_flows ∈ BIG := (tb8 (List.mem_of_getElem? (i := 8) rfl) rfl)
theorem pdX12_flows : yX12_flows.cls ≠ "java/lang/invoke/MethodHandle" ∧ yX12_flows.cls ≠ "java/lang/invoke/VarHandle" ∧ (parseMethodDescriptor yX12_flows.desc).map (fun d => d.parameters.length) = some 2 := by decide +kernel
theorem mdX12_392 : MD RX12 392 yX12_flows cwX12_flows 2 := ⟨(tb8 (List.mem_of_getElem? (i := 5) rfl) rfl), (tb8 (List.mem_of_getElem? (i := 7) rfl) rfl), (tbp (n := 67) (List.mem_append_right _ (List.mem_append_right _ (List.mem_append_right _ (List.mem_append_right _ (List.mem_append_right _ (List.mem_append_left _ (List.mem_of_getElem? (i := 3) rfl))))))) rfl), (tb1 (List.mem_of_getElem? (i := 17) rfl) rfl), cmX12_flows, pdX12_flows⟩
abbrev cwX12_loses : Cond := .code yX12_loses cX12_loses 4 none
theorem cmX12_loses : cwX12_loses ∈ BIG := (tb8 (List.mem_of_getElem? (i := 13) rfl) rfl)
theorem pdX12_loses : yX12_loses.cls ≠ "java/lang/invoke/MethodHandle" ∧ yX12_loses.cls ≠ "java/lang/invoke/VarHandle" ∧ (parseMethodDescriptor yX12_loses.desc).map (fun d => d.parameters.length) = some 2 := by decide +kernel
theorem mdX12_395 : MD RX12 395 yX12_loses cwX12_loses 2 := ⟨(tb8 (List.mem_of_getElem? (i := 10) rfl) rfl), (tb8 (List.mem_of_getElem? (i := 12) rfl) rfl), (tbp (n := 67) (List.mem_append_right _ (List.mem_append_right _ (List.mem_append_right _ (List.mem_append_right _ (List.mem_append_right _ (List.mem_append_left _ (List.mem_of_getElem? (i := 4) rfl))))))) rfl), (tb1 (List.mem_of_getElem? (i := 17) rfl) rfl), cmX12_loses, pdX12_loses⟩
abbrev cwX12_whoIn : Cond := .code yX12_whoIn cX12_whoIn 4 (some .int)
theorem cmX12_whoIn : cwX12_whoIn ∈ BIG := (tb7 (List.mem_of_getElem? (i := 149) rfl) rfl)
theorem pdX12_whoIn : yX12_whoIn.cls ≠ "java/lang/invoke/MethodHandle" ∧ yX12_whoIn.cls ≠ "java/lang/invoke/VarHandle" ∧ (parseMethodDescriptor yX12_whoIn.desc).map (fun d => d.parameters.length) = some 2 := by decide +kernel
theorem mdX12_398 : MD RX12 398 yX12_whoIn cwX12_whoIn 2 := ⟨(tb7 (List.mem_of_getElem? (i := 146) rfl) rfl), (tb7 (List.mem_of_getElem? (i := 148) rfl) rfl), (tbp (n := 67) (List.mem_append_right _ (List.mem_append_right _ (List.mem_append_right _ (List.mem_append_right _ (List.mem_append_left _ (List.mem_of_getElem? (i := 6) rfl)))))) rfl), (tb1 (List.mem_of_getElem? (i := 17) rfl) rfl), cmX12_whoIn, pdX12_whoIn⟩
abbrev cwX12_sits : Cond := .code yX12_sits cX12_sits 4 none
theorem cmX12_sits : cwX12_sits ∈ BIG := (tb7 (List.mem_of_getElem? (i := 228) rfl) rfl)
theorem pdX12_sits : yX12_sits.cls ≠ "java/lang/invoke/MethodHandle" ∧ yX12_sits.cls ≠ "java/lang/invoke/VarHandle" ∧ (parseMethodDescriptor yX12_sits.desc).map (fun d => d.parameters.length) = some 3 := by decide +kernel
theorem mdX12_401 : MD RX12 401 yX12_sits cwX12_sits 3 := ⟨(tb7 (List.mem_of_getElem? (i := 225) rfl) rfl), (tb7 (List.mem_of_getElem? (i := 227) rfl) rfl), (tbp (n := 67) (List.mem_append_right _ (List.mem_append_right _ (List.mem_append_right _ (List.mem_append_right _ (List.mem_append_right _ (List.mem_append_left _ (List.mem_of_getElem? (i := 0) rfl))))))) rfl), (tb1 (List.mem_of_getElem? (i := 17) rfl) rfl), cmX12_sits, pdX12_sits⟩
abbrev cwX12_bears : Cond := .code yX12_bears cX12_bears 6 none
theorem cmX12_bears : cwX12_bears ∈ BIG := (tb8 (List.mem_of_getElem? (i := 28) rfl) rfl)
theorem pdX12_bears : yX12_bears.cls ≠ "java/lang/invoke/MethodHandle" ∧ yX12_bears.cls ≠ "java/lang/invoke/VarHandle" ∧ (parseMethodDescriptor yX12_bears.desc).map (fun d => d.parameters.length) = some 3 := by decide +kernel
theorem mdX12_405 : MD RX12 405 yX12_bears cwX12_bears 3 := ⟨(tb8 (List.mem_of_getElem? (i := 25) rfl) rfl), (tb8 (List.mem_of_getElem? (i := 27) rfl) rfl), (tbp (n := 67) (List.mem_append_right _ (List.mem_append_right _ (List.mem_append_right _ (List.mem_append_right _ (List.mem_append_right _ (List.mem_append_left _ (List.mem_of_getElem? (i := 6) rfl))))))) rfl), (tb1 (List.mem_of_getElem? (i := 17) rfl) rfl), cmX12_bears, pdX12_bears⟩
abbrev cwX12_passes : Cond := .code yX12_passes cX12_passes 4 none
theorem cmX12_passes : cwX12_passes ∈ BIG := (tb8 (List.mem_of_getElem? (i := 4) rfl) rfl)
theorem pdX12_passes : yX12_passes.cls ≠ "java/lang/invoke/MethodHandle" ∧ yX12_passes.cls ≠ "java/lang/invoke/VarHandle" ∧ (parseMethodDescriptor yX12_passes.desc).map (fun d => d.parameters.length) = some 2 := by decide +kernel
theorem mdX12_409 : MD RX12 409 yX12_passes cwX12_passes 2 := ⟨(tb8 (List.mem_of_getElem? (i := 1) rfl) rfl), (tb8 (List.mem_of_getElem? (i := 3) rfl) rfl), (tbp (n := 67) (List.mem_append_right _ (List.mem_append_right _ (List.mem_append_right _ (List.mem_append_right _ (List.mem_append_right _ (List.mem_append_left _ (List.mem_of_getElem? (i := 2) rfl))))))) rfl), (tb1 (List.mem_of_getElem? (i := 17) rfl) rfl), cmX12_passes, pdX12_passes⟩
abbrev cwX12_isTub : Cond := .code yX12_isTub cX12_isTub 2 (some .boolean)
theorem cmX12_isTub : cwX12_isTub ∈ BIG := (tb7 (List.mem_of_getElem? (i := 145) rfl) rfl)
theorem pdX12_isTub : yX12_isTub.cls ≠ "java/lang/invoke/MethodHandle" ∧ yX12_isTub.cls ≠ "java/lang/invoke/VarHandle" ∧ (parseMethodDescriptor yX12_isTub.desc).map (fun d => d.parameters.length) = some 1 := by decide +kernel
theorem mdX12_413 : MD RX12 413 yX12_isTub cwX12_isTub 1 := ⟨(tb7 (List.mem_of_getElem? (i := 142) rfl) rfl), (tb7 (List.mem_of_getElem? (i := 144) rfl) rfl), (tbp (n := 67) (List.mem_append_right _ (List.mem_append_right _ (List.mem_append_right _ (List.mem_append_right _ (List.mem_append_left _ (List.mem_of_getElem? (i := 5) rfl)))))) rfl), (tb1 (List.mem_of_getElem? (i := 17) rfl) rfl), cmX12_isTub, pdX12_isTub⟩
abbrev cwX12_orNone : Cond := .code yX12_orNone cX12_orNone 1 (some .int)
theorem cmX12_orNone : cwX12_orNone ∈ BIG := (tb7 (List.mem_of_getElem? (i := 152) rfl) rfl)
theorem pdX12_orNone : yX12_orNone.cls ≠ "java/lang/invoke/MethodHandle" ∧ yX12_orNone.cls ≠ "java/lang/invoke/VarHandle" ∧ (parseMethodDescriptor yX12_orNone.desc).map (fun d => d.parameters.length) = some 1 := by decide +kernel
theorem msX12_416 : MS RX12 416 yX12_orNone cwX12_orNone 1 := ⟨(tb7 (List.mem_of_getElem? (i := 150) rfl) rfl), (tb7 (List.mem_of_getElem? (i := 151) rfl) rfl), (tb1 (List.mem_of_getElem? (i := 17) rfl) rfl), cmX12_orNone, pdX12_orNone⟩
abbrev cwX12_isKnight : Cond := .code yX12_isKnight cX12_isKnight 2 (some .boolean)
theorem cmX12_isKnight : cwX12_isKnight ∈ BIG := (tb7 (List.mem_of_getElem? (i := 160) rfl) rfl)
theorem pdX12_isKnight : yX12_isKnight.cls ≠ "java/lang/invoke/MethodHandle" ∧ yX12_isKnight.cls ≠ "java/lang/invoke/VarHandle" ∧ (parseMethodDescriptor yX12_isKnight.desc).map (fun d => d.parameters.length) = some 1 := by decide +kernel
theorem mdX12_419 : MD RX12 419 yX12_isKnight cwX12_isKnight 1 := ⟨(tb7 (List.mem_of_getElem? (i := 157) rfl) rfl), (tb7 (List.mem_of_getElem? (i := 159) rfl) rfl), (tbp (n := 67) (List.mem_append_right _ (List.mem_append_right _ (List.mem_append_right _ (List.mem_append_right _ (List.mem_append_left _ (List.mem_of_getElem? (i := 7) rfl)))))) rfl), (tb1 (List.mem_of_getElem? (i := 17) rfl) rfl), cmX12_isKnight, pdX12_isKnight⟩
abbrev cwX12_copies : Cond := .code yX12_copies cX12_copies 6 none
theorem cmX12_copies : cwX12_copies ∈ BIG := (tb7 (List.mem_of_getElem? (i := 209) rfl) rfl)
theorem pdX12_copies : yX12_copies.cls ≠ "java/lang/invoke/MethodHandle" ∧ yX12_copies.cls ≠ "java/lang/invoke/VarHandle" ∧ (parseMethodDescriptor yX12_copies.desc).map (fun d => d.parameters.length) = some 2 := by decide +kernel
theorem mdX12_426 : MD RX12 426 yX12_copies cwX12_copies 2 := ⟨(tb7 (List.mem_of_getElem? (i := 206) rfl) rfl), (tb7 (List.mem_of_getElem? (i := 208) rfl) rfl), (tbp (n := 67) (List.mem_append_right _ (List.mem_append_right _ (List.mem_append_right _ (List.mem_append_right _ (List.mem_append_left _ (List.mem_of_getElem? (i := 14) rfl)))))) rfl), (tb1 (List.mem_of_getElem? (i := 17) rfl) rfl), cmX12_copies, pdX12_copies⟩
abbrev cwX12_keepNow : Cond := .code yX12_keepNow cX12_keepNow 2 none
theorem cmX12_keepNow : cwX12_keepNow ∈ BIG := (tb7 (List.mem_of_getElem? (i := 205) rfl) rfl)
theorem pdX12_keepNow : yX12_keepNow.cls ≠ "java/lang/invoke/MethodHandle" ∧ yX12_keepNow.cls ≠ "java/lang/invoke/VarHandle" ∧ (parseMethodDescriptor yX12_keepNow.desc).map (fun d => d.parameters.length) = some 0 := by decide +kernel
theorem mdX12_429 : MD RX12 429 yX12_keepNow cwX12_keepNow 0 := ⟨(tb7 (List.mem_of_getElem? (i := 202) rfl) rfl), (tb7 (List.mem_of_getElem? (i := 204) rfl) rfl), (tbp (n := 67) (List.mem_append_right _ (List.mem_append_right _ (List.mem_append_right _ (List.mem_append_right _ (List.mem_append_left _ (List.mem_of_getElem? (i := 13) rfl)))))) rfl), (tb1 (List.mem_of_getElem? (i := 17) rfl) rfl), cmX12_keepNow, pdX12_keepNow⟩
abbrev cwX12_goesOn : Cond := .code yX12_goesOn cX12_goesOn 3 none
theorem cmX12_goesOn : cwX12_goesOn ∈ BIG := (tb8 (List.mem_of_getElem? (i := 42) rfl) rfl)
theorem pdX12_goesOn : yX12_goesOn.cls ≠ "java/lang/invoke/MethodHandle" ∧ yX12_goesOn.cls ≠ "java/lang/invoke/VarHandle" ∧ (parseMethodDescriptor yX12_goesOn.desc).map (fun d => d.parameters.length) = some 1 := by decide +kernel
theorem mdX12_432 : MD RX12 432 yX12_goesOn cwX12_goesOn 1 := ⟨(tb8 (List.mem_of_getElem? (i := 39) rfl) rfl), (tb8 (List.mem_of_getElem? (i := 41) rfl) rfl), (tbp (n := 67) (List.mem_append_right _ (List.mem_append_right _ (List.mem_append_right _ (List.mem_append_right _ (List.mem_append_right _ (List.mem_append_left _ (List.mem_of_getElem? (i := 8) rfl))))))) rfl), (tb1 (List.mem_of_getElem? (i := 17) rfl) rfl), cmX12_goesOn, pdX12_goesOn⟩
abbrev cwX12_sumOf : Cond := .code yX12_sumOf cX12_sumOf 5 (some .int)
theorem cmX12_sumOf : cwX12_sumOf ∈ BIG := (tb8 (List.mem_of_getElem? (i := 46) rfl) rfl)
theorem pdX12_sumOf : yX12_sumOf.cls ≠ "java/lang/invoke/MethodHandle" ∧ yX12_sumOf.cls ≠ "java/lang/invoke/VarHandle" ∧ (parseMethodDescriptor yX12_sumOf.desc).map (fun d => d.parameters.length) = some 2 := by decide +kernel
theorem mdX12_435 : MD RX12 435 yX12_sumOf cwX12_sumOf 2 := ⟨(tb8 (List.mem_of_getElem? (i := 43) rfl) rfl), (tb8 (List.mem_of_getElem? (i := 45) rfl) rfl), (tbp (n := 67) (List.mem_append_right _ (List.mem_append_right _ (List.mem_append_right _ (List.mem_append_right _ (List.mem_append_right _ (List.mem_append_left _ (List.mem_of_getElem? (i := 9) rfl))))))) rfl), (tb1 (List.mem_of_getElem? (i := 17) rfl) rfl), cmX12_sumOf, pdX12_sumOf⟩
abbrev cwX12_areDegrees : Cond := .code yX12_areDegrees cX12_areDegrees 1 (some .boolean)
theorem cmX12_areDegrees : cwX12_areDegrees ∈ BIG := (tb8 (List.mem_of_getElem? (i := 53) rfl) rfl)
theorem pdX12_areDegrees : yX12_areDegrees.cls ≠ "java/lang/invoke/MethodHandle" ∧ yX12_areDegrees.cls ≠ "java/lang/invoke/VarHandle" ∧ (parseMethodDescriptor yX12_areDegrees.desc).map (fun d => d.parameters.length) = some 1 := by decide +kernel
theorem msX12_439 : MS RX12 439 yX12_areDegrees cwX12_areDegrees 1 := ⟨(tb8 (List.mem_of_getElem? (i := 51) rfl) rfl), (tb8 (List.mem_of_getElem? (i := 52) rfl) rfl), (tb1 (List.mem_of_getElem? (i := 17) rfl) rfl), cmX12_areDegrees, pdX12_areDegrees⟩
abbrev cwX12_isAhead : Cond := .code yX12_isAhead cX12_isAhead 3 (some .boolean)
theorem cmX12_isAhead : cwX12_isAhead ∈ BIG := (tb8 (List.mem_of_getElem? (i := 65) rfl) rfl)
theorem pdX12_isAhead : yX12_isAhead.cls ≠ "java/lang/invoke/MethodHandle" ∧ yX12_isAhead.cls ≠ "java/lang/invoke/VarHandle" ∧ (parseMethodDescriptor yX12_isAhead.desc).map (fun d => d.parameters.length) = some 2 := by decide +kernel
theorem mdX12_442 : MD RX12 442 yX12_isAhead cwX12_isAhead 2 := ⟨(tb8 (List.mem_of_getElem? (i := 62) rfl) rfl), (tb8 (List.mem_of_getElem? (i := 64) rfl) rfl), (tbp (n := 67) (List.mem_append_right _ (List.mem_append_right _ (List.mem_append_right _ (List.mem_append_right _ (List.mem_append_right _ (List.mem_append_left _ (List.mem_of_getElem? (i := 10) rfl))))))) rfl), (tb1 (List.mem_of_getElem? (i := 17) rfl) rfl), cmX12_isAhead, pdX12_isAhead⟩
abbrev cwX12_addsTo : Cond := .code yX12_addsTo cX12_addsTo 4 (some .int)
theorem cmX12_addsTo : cwX12_addsTo ∈ BIG := (tb8 (List.mem_of_getElem? (i := 73) rfl) rfl)
theorem pdX12_addsTo : yX12_addsTo.cls ≠ "java/lang/invoke/MethodHandle" ∧ yX12_addsTo.cls ≠ "java/lang/invoke/VarHandle" ∧ (parseMethodDescriptor yX12_addsTo.desc).map (fun d => d.parameters.length) = some 2 := by decide +kernel
theorem mdX12_446 : MD RX12 446 yX12_addsTo cwX12_addsTo 2 := ⟨(tb8 (List.mem_of_getElem? (i := 70) rfl) rfl), (tb8 (List.mem_of_getElem? (i := 72) rfl) rfl), (tbp (n := 67) (List.mem_append_right _ (List.mem_append_right _ (List.mem_append_right _ (List.mem_append_right _ (List.mem_append_right _ (List.mem_append_left _ (List.mem_of_getElem? (i := 11) rfl))))))) rfl), (tb1 (List.mem_of_getElem? (i := 17) rfl) rfl), cmX12_addsTo, pdX12_addsTo⟩
abbrev cwX12_common : Cond := .code yX12_common cX12_common 10 (some .long)
theorem cmX12_common : cwX12_common ∈ BIG := (tb8 (List.mem_of_getElem? (i := 84) rfl) rfl)
theorem pdX12_common : yX12_common.cls ≠ "java/lang/invoke/MethodHandle" ∧ yX12_common.cls ≠ "java/lang/invoke/VarHandle" ∧ (parseMethodDescriptor yX12_common.desc).map (fun d => d.parameters.length) = some 2 := by decide +kernel
theorem msX12_449 : MS RX12 449 yX12_common cwX12_common 2 := ⟨(tb8 (List.mem_of_getElem? (i := 82) rfl) rfl), (tb8 (List.mem_of_getElem? (i := 83) rfl) rfl), (tb1 (List.mem_of_getElem? (i := 17) rfl) rfl), cmX12_common, pdX12_common⟩
abbrev cwX12_matches : Cond := .code yX12_matches cX12_matches 6 none
theorem cmX12_matches : cwX12_matches ∈ BIG := (tb8 (List.mem_of_getElem? (i := 92) rfl) rfl)
theorem pdX12_matches : yX12_matches.cls ≠ "java/lang/invoke/MethodHandle" ∧ yX12_matches.cls ≠ "java/lang/invoke/VarHandle" ∧ (parseMethodDescriptor yX12_matches.desc).map (fun d => d.parameters.length) = some 4 := by decide +kernel
theorem mdX12_458 : MD RX12 458 yX12_matches cwX12_matches 4 := ⟨(tb8 (List.mem_of_getElem? (i := 89) rfl) rfl), (tb8 (List.mem_of_getElem? (i := 91) rfl) rfl), (tbp (n := 67) (List.mem_append_right _ (List.mem_append_right _ (List.mem_append_right _ (List.mem_append_right _ (List.mem_append_right _ (List.mem_append_left _ (List.mem_of_getElem? (i := 12) rfl))))))) rfl), (tb1 (List.mem_of_getElem? (i := 17) rfl) rfl), cmX12_matches, pdX12_matches⟩
abbrev cwX12_roomOf : Cond := .code yX12_roomOf cX12_roomOf 4 (some .int)
theorem cmX12_roomOf : cwX12_roomOf ∈ BIG := (tb8 (List.mem_of_getElem? (i := 100) rfl) rfl)
theorem pdX12_roomOf : yX12_roomOf.cls ≠ "java/lang/invoke/MethodHandle" ∧ yX12_roomOf.cls ≠ "java/lang/invoke/VarHandle" ∧ (parseMethodDescriptor yX12_roomOf.desc).map (fun d => d.parameters.length) = some 2 := by decide +kernel
theorem mdX12_461 : MD RX12 461 yX12_roomOf cwX12_roomOf 2 := ⟨(tb8 (List.mem_of_getElem? (i := 97) rfl) rfl), (tb8 (List.mem_of_getElem? (i := 99) rfl) rfl), (tbp (n := 67) (List.mem_append_right _ (List.mem_append_right _ (List.mem_append_right _ (List.mem_append_right _ (List.mem_append_right _ (List.mem_append_left _ (List.mem_of_getElem? (i := 13) rfl))))))) rfl), (tb1 (List.mem_of_getElem? (i := 17) rfl) rfl), cmX12_roomOf, pdX12_roomOf⟩
abbrev cwX12_hasOf : Cond := .code yX12_hasOf cX12_hasOf 5 (some .int)
theorem cmX12_hasOf : cwX12_hasOf ∈ BIG := (tb8 (List.mem_of_getElem? (i := 124) rfl) rfl)
theorem pdX12_hasOf : yX12_hasOf.cls ≠ "java/lang/invoke/MethodHandle" ∧ yX12_hasOf.cls ≠ "java/lang/invoke/VarHandle" ∧ (parseMethodDescriptor yX12_hasOf.desc).map (fun d => d.parameters.length) = some 3 := by decide +kernel
theorem mdX12_464 : MD RX12 464 yX12_hasOf cwX12_hasOf 3 := ⟨(tb8 (List.mem_of_getElem? (i := 121) rfl) rfl), (tb8 (List.mem_of_getElem? (i := 123) rfl) rfl), (tbp (n := 67) (List.mem_append_right _ (List.mem_append_right _ (List.mem_append_right _ (List.mem_append_right _ (List.mem_append_right _ (List.mem_append_right _ (List.mem_of_getElem? (i := 1) rfl))))))) rfl), (tb1 (List.mem_of_getElem? (i := 17) rfl) rfl), cmX12_hasOf, pdX12_hasOf⟩
abbrev cwX12_isRest : Cond := .code yX12_isRest cX12_isRest 6 (some .boolean)
theorem cmX12_isRest : cwX12_isRest ∈ BIG := (tb8 (List.mem_of_getElem? (i := 120) rfl) rfl)
theorem pdX12_isRest : yX12_isRest.cls ≠ "java/lang/invoke/MethodHandle" ∧ yX12_isRest.cls ≠ "java/lang/invoke/VarHandle" ∧ (parseMethodDescriptor yX12_isRest.desc).map (fun d => d.parameters.length) = some 3 := by decide +kernel
theorem mdX12_468 : MD RX12 468 yX12_isRest cwX12_isRest 3 := ⟨(tb8 (List.mem_of_getElem? (i := 117) rfl) rfl), (tb8 (List.mem_of_getElem? (i := 119) rfl) rfl), (tbp (n := 67) (List.mem_append_right _ (List.mem_append_right _ (List.mem_append_right _ (List.mem_append_right _ (List.mem_append_right _ (List.mem_append_right _ (List.mem_of_getElem? (i := 0) rfl))))))) rfl), (tb1 (List.mem_of_getElem? (i := 17) rfl) rfl), cmX12_isRest, pdX12_isRest⟩
abbrev cwX12_areTwo : Cond := .code yX12_areTwo cX12_areTwo 3 (some .boolean)
theorem cmX12_areTwo : cwX12_areTwo ∈ BIG := (tb8 (List.mem_of_getElem? (i := 112) rfl) rfl)
theorem pdX12_areTwo : yX12_areTwo.cls ≠ "java/lang/invoke/MethodHandle" ∧ yX12_areTwo.cls ≠ "java/lang/invoke/VarHandle" ∧ (parseMethodDescriptor yX12_areTwo.desc).map (fun d => d.parameters.length) = some 2 := by decide +kernel
theorem mdX12_472 : MD RX12 472 yX12_areTwo cwX12_areTwo 2 := ⟨(tb8 (List.mem_of_getElem? (i := 109) rfl) rfl), (tb8 (List.mem_of_getElem? (i := 111) rfl) rfl), (tbp (n := 67) (List.mem_append_right _ (List.mem_append_right _ (List.mem_append_right _ (List.mem_append_right _ (List.mem_append_right _ (List.mem_append_left _ (List.mem_of_getElem? (i := 14) rfl))))))) rfl), (tb1 (List.mem_of_getElem? (i := 17) rfl) rfl), cmX12_areTwo, pdX12_areTwo⟩
abbrev cwX12_restOf : Cond := .code yX12_restOf cX12_restOf 6 (some .int)
theorem cmX12_restOf : cwX12_restOf ∈ BIG := (tb8 (List.mem_of_getElem? (i := 116) rfl) rfl)
theorem pdX12_restOf : yX12_restOf.cls ≠ "java/lang/invoke/MethodHandle" ∧ yX12_restOf.cls ≠ "java/lang/invoke/VarHandle" ∧ (parseMethodDescriptor yX12_restOf.desc).map (fun d => d.parameters.length) = some 3 := by decide +kernel
theorem mdX12_475 : MD RX12 475 yX12_restOf cwX12_restOf 3 := ⟨(tb8 (List.mem_of_getElem? (i := 113) rfl) rfl), (tb8 (List.mem_of_getElem? (i := 115) rfl) rfl), (tbp (n := 67) (List.mem_append_right _ (List.mem_append_right _ (List.mem_append_right _ (List.mem_append_right _ (List.mem_append_right _ (List.mem_append_left _ (List.mem_of_getElem? (i := 15) rfl))))))) rfl), (tb1 (List.mem_of_getElem? (i := 17) rfl) rfl), cmX12_restOf, pdX12_restOf⟩
abbrev cwX12_knownMany : Cond := .code yX12_knownMany cX12_knownMany 1 (some .int)
theorem cmX12_knownMany : cwX12_knownMany ∈ BIG := (tb8 (List.mem_of_getElem? (i := 158) rfl) rfl)
theorem pdX12_knownMany : yX12_knownMany.cls ≠ "java/lang/invoke/MethodHandle" ∧ yX12_knownMany.cls ≠ "java/lang/invoke/VarHandle" ∧ (parseMethodDescriptor yX12_knownMany.desc).map (fun d => d.parameters.length) = some 0 := by decide +kernel
theorem mdX12_482 : MD RX12 482 yX12_knownMany cwX12_knownMany 0 := ⟨(tb8 (List.mem_of_getElem? (i := 155) rfl) rfl), (tb8 (List.mem_of_getElem? (i := 157) rfl) rfl), (tbp (n := 67) (List.mem_append_right _ (List.mem_append_right _ (List.mem_append_right _ (List.mem_append_right _ (List.mem_append_right _ (List.mem_append_right _ (List.mem_of_getElem? (i := 3) rfl))))))) rfl), (tb1 (List.mem_of_getElem? (i := 17) rfl) rfl), cmX12_knownMany, pdX12_knownMany⟩
abbrev cwX12_startsWith : Cond := .code yX12_startsWith cX12_startsWith 3 none
theorem cmX12_startsWith : cwX12_startsWith ∈ BIG := (tb8 (List.mem_of_getElem? (i := 166) rfl) rfl)
theorem pdX12_startsWith : yX12_startsWith.cls ≠ "java/lang/invoke/MethodHandle" ∧ yX12_startsWith.cls ≠ "java/lang/invoke/VarHandle" ∧ (parseMethodDescriptor yX12_startsWith.desc).map (fun d => d.parameters.length) = some 2 := by decide +kernel
theorem mdX12_485 : MD RX12 485 yX12_startsWith cwX12_startsWith 2 := ⟨(tb8 (List.mem_of_getElem? (i := 163) rfl) rfl), (tb8 (List.mem_of_getElem? (i := 165) rfl) rfl), (tbp (n := 67) (List.mem_append_right _ (List.mem_append_right _ (List.mem_append_right _ (List.mem_append_right _ (List.mem_append_right _ (List.mem_append_right _ (List.mem_of_getElem? (i := 5) rfl))))))) rfl), (tb1 (List.mem_of_getElem? (i := 17) rfl) rfl), cmX12_startsWith, pdX12_startsWith⟩
abbrev cwX12_isSo : Cond := .code yX12_isSo cX12_isSo 3 (some .boolean)
theorem cmX12_isSo : cwX12_isSo ∈ BIG := (tb8 (List.mem_of_getElem? (i := 170) rfl) rfl)
theorem pdX12_isSo : yX12_isSo.cls ≠ "java/lang/invoke/MethodHandle" ∧ yX12_isSo.cls ≠ "java/lang/invoke/VarHandle" ∧ (parseMethodDescriptor yX12_isSo.desc).map (fun d => d.parameters.length) = some 1 := by decide +kernel
theorem mdX12_488 : MD RX12 488 yX12_isSo cwX12_isSo 1 := ⟨(tb8 (List.mem_of_getElem? (i := 167) rfl) rfl), (tb8 (List.mem_of_getElem? (i := 169) rfl) rfl), (tbp (n := 67) (List.mem_append_right _ (List.mem_append_right _ (List.mem_append_right _ (List.mem_append_right _ (List.mem_append_right _ (List.mem_append_right _ (List.mem_of_getElem? (i := 6) rfl))))))) rfl), (tb1 (List.mem_of_getElem? (i := 17) rfl) rfl), cmX12_isSo, pdX12_isSo⟩
abbrev cwX12_fitsBorne : Cond := .code yX12_fitsBorne cX12_fitsBorne 5 (some .boolean)
theorem cmX12_fitsBorne : cwX12_fitsBorne ∈ BIG := (tb8 (List.mem_of_getElem? (i := 162) rfl) rfl)
theorem pdX12_fitsBorne : yX12_fitsBorne.cls ≠ "java/lang/invoke/MethodHandle" ∧ yX12_fitsBorne.cls ≠ "java/lang/invoke/VarHandle" ∧ (parseMethodDescriptor yX12_fitsBorne.desc).map (fun d => d.parameters.length) = some 3 := by decide +kernel
theorem mdX12_491 : MD RX12 491 yX12_fitsBorne cwX12_fitsBorne 3 := ⟨(tb8 (List.mem_of_getElem? (i := 159) rfl) rfl), (tb8 (List.mem_of_getElem? (i := 161) rfl) rfl), (tbp (n := 67) (List.mem_append_right _ (List.mem_append_right _ (List.mem_append_right _ (List.mem_append_right _ (List.mem_append_right _ (List.mem_append_right _ (List.mem_of_getElem? (i := 4) rfl))))))) rfl), (tb1 (List.mem_of_getElem? (i := 17) rfl) rfl), cmX12_fitsBorne, pdX12_fitsBorne⟩
abbrev cwX12_borneBy : Cond := .code yX12_borneBy cX12_borneBy 5 (some .int)
theorem cmX12_borneBy : cwX12_borneBy ∈ BIG := (tb8 (List.mem_of_getElem? (i := 154) rfl) rfl)
theorem pdX12_borneBy : yX12_borneBy.cls ≠ "java/lang/invoke/MethodHandle" ∧ yX12_borneBy.cls ≠ "java/lang/invoke/VarHandle" ∧ (parseMethodDescriptor yX12_borneBy.desc).map (fun d => d.parameters.length) = some 1 := by decide +kernel
theorem mdX12_494 : MD RX12 494 yX12_borneBy cwX12_borneBy 1 := ⟨(tb8 (List.mem_of_getElem? (i := 151) rfl) rfl), (tb8 (List.mem_of_getElem? (i := 153) rfl) rfl), (tbp (n := 67) (List.mem_append_right _ (List.mem_append_right _ (List.mem_append_right _ (List.mem_append_right _ (List.mem_append_right _ (List.mem_append_right _ (List.mem_of_getElem? (i := 2) rfl))))))) rfl), (tb1 (List.mem_of_getElem? (i := 17) rfl) rfl), cmX12_borneBy, pdX12_borneBy⟩
abbrev cwX12_bitsOf : Cond := .code yX12_bitsOf cX12_bitsOf 3 (some .int)
theorem cmX12_bitsOf : cwX12_bitsOf ∈ BIG := (tb8 (List.mem_of_getElem? (i := 177) rfl) rfl)
theorem pdX12_bitsOf : yX12_bitsOf.cls ≠ "java/lang/invoke/MethodHandle" ∧ yX12_bitsOf.cls ≠ "java/lang/invoke/VarHandle" ∧ (parseMethodDescriptor yX12_bitsOf.desc).map (fun d => d.parameters.length) = some 1 := by decide +kernel
theorem msX12_497 : MS RX12 497 yX12_bitsOf cwX12_bitsOf 1 := ⟨(tb8 (List.mem_of_getElem? (i := 175) rfl) rfl), (tb8 (List.mem_of_getElem? (i := 176) rfl) rfl), (tb1 (List.mem_of_getElem? (i := 17) rfl) rfl), cmX12_bitsOf, pdX12_bitsOf⟩
abbrev cwX12_inTubs : Cond := .code yX12_inTubs cX12_inTubs 3 (some .int)
theorem cmX12_inTubs : cwX12_inTubs ∈ BIG := (tb8 (List.mem_of_getElem? (i := 205) rfl) rfl)
theorem pdX12_inTubs : yX12_inTubs.cls ≠ "java/lang/invoke/MethodHandle" ∧ yX12_inTubs.cls ≠ "java/lang/invoke/VarHandle" ∧ (parseMethodDescriptor yX12_inTubs.desc).map (fun d => d.parameters.length) = some 0 := by decide +kernel
theorem mdX12_500 : MD RX12 500 yX12_inTubs cwX12_inTubs 0 := ⟨(tb8 (List.mem_of_getElem? (i := 202) rfl) rfl), (tb8 (List.mem_of_getElem? (i := 204) rfl) rfl), (tbp (n := 67) (List.mem_append_right _ (List.mem_append_right _ (List.mem_append_right _ (List.mem_append_right _ (List.mem_append_right _ (List.mem_append_right _ (List.mem_of_getElem? (i := 7) rfl))))))) rfl), (tb1 (List.mem_of_getElem? (i := 17) rfl) rfl), cmX12_inTubs, pdX12_inTubs⟩
theorem mdX2_26 : MD RX2 26 yX6_hasKnight cwX6_hasKnight 1 := ⟨(tb5 (List.mem_of_getElem? (i := 106) rfl) rfl), (tb3 (List.mem_of_getElem? (i := 13) rfl) rfl), (tb3 (List.mem_of_getElem? (i := 14) rfl) rfl), (tb1 (List.mem_of_getElem? (i := 8) rfl) rfl), cmX6_hasKnight, pdX6_hasKnight⟩
theorem mdX2_32 : MD RX2 32 yX0_begin cwX0_begin 1 := ⟨(tb5 (List.mem_of_getElem? (i := 107) rfl) rfl), (tb3 (List.mem_of_getElem? (i := 1) rfl) rfl), (tb3 (List.mem_of_getElem? (i := 2) rfl) rfl), (tb1 (List.mem_of_getElem? (i := 11) rfl) rfl), cmX0_begin, pdX0_begin⟩
theorem mdX2_40 : MD RX2 40 yX5_pass cwX5_pass 2 := ⟨(tb5 (List.mem_of_getElem? (i := 108) rfl) rfl), (tb4 (List.mem_of_getElem? (i := 130) rfl) rfl), (tb4 (List.mem_of_getElem? (i := 131) rfl) rfl), (tb1 (List.mem_of_getElem? (i := 12) rfl) rfl), cmX5_pass, pdX5_pass⟩
abbrev cwX1_agreeWith : Cond := .code yX1_agreeWith cX1_agreeWith 4 (some .boolean)
theorem cmX1_agreeWith : cwX1_agreeWith ∈ BIG := (tb5 (List.mem_of_getElem? (i := 112) rfl) rfl)
theorem pdX1_agreeWith : yX1_agreeWith.cls ≠ "java/lang/invoke/MethodHandle" ∧ yX1_agreeWith.cls ≠ "java/lang/invoke/VarHandle" ∧ (parseMethodDescriptor yX1_agreeWith.desc).map (fun d => d.parameters.length) = some 1 := by decide +kernel
theorem mdX2_46 : MD RX2 46 yX1_agreeWith cwX1_agreeWith 1 := ⟨(tb5 (List.mem_of_getElem? (i := 109) rfl) rfl), (tb5 (List.mem_of_getElem? (i := 110) rfl) rfl), (tb5 (List.mem_of_getElem? (i := 111) rfl) rfl), (tb1 (List.mem_of_getElem? (i := 14) rfl) rfl), cmX1_agreeWith, pdX1_agreeWith⟩
abbrev cwJ6_bitCount_0f7a4 : Cond := .code yJ6_bitCount_0f7a4 cJ6_bitCount_0f7a4 1 (some .int)
theorem cmJ6_bitCount_0f7a4 : cwJ6_bitCount_0f7a4 ∈ BIG := (tb5 (List.mem_of_getElem? (i := 123) rfl) rfl)
theorem pdJ6_bitCount_0f7a4 : yJ6_bitCount_0f7a4.cls ≠ "java/lang/invoke/MethodHandle" ∧ yJ6_bitCount_0f7a4.cls ≠ "java/lang/invoke/VarHandle" ∧ (parseMethodDescriptor yJ6_bitCount_0f7a4.desc).map (fun d => d.parameters.length) = some 1 := by decide +kernel
theorem msX2_58 : MS RX2 58 yJ6_bitCount_0f7a4 cwJ6_bitCount_0f7a4 1 := ⟨(tb5 (List.mem_of_getElem? (i := 121) rfl) rfl), (tb5 (List.mem_of_getElem? (i := 122) rfl) rfl), (tb1 (List.mem_of_getElem? (i := 25) rfl) rfl), cmJ6_bitCount_0f7a4, pdJ6_bitCount_0f7a4⟩
abbrev cwX3_isTold : Cond := .code yX3_isTold cX3_isTold 2 (some .boolean)
theorem cmX3_isTold : cwX3_isTold ∈ BIG := (tb3 (List.mem_of_getElem? (i := 206) rfl) rfl)
theorem pdX3_isTold : yX3_isTold.cls ≠ "java/lang/invoke/MethodHandle" ∧ yX3_isTold.cls ≠ "java/lang/invoke/VarHandle" ∧ (parseMethodDescriptor yX3_isTold.desc).map (fun d => d.parameters.length) = some 1 := by decide +kernel
theorem mdX3_38 : MD RX3 38 yX3_isTold cwX3_isTold 1 := ⟨(tb4 (List.mem_of_getElem? (i := 51) rfl) rfl), (tb3 (List.mem_of_getElem? (i := 204) rfl) rfl), (tb3 (List.mem_of_getElem? (i := 205) rfl) rfl), (tb1 (List.mem_of_getElem? (i := 10) rfl) rfl), cmX3_isTold, pdX3_isTold⟩
abbrev cwX3_joined : Cond := .code yX3_joined cX3_joined 7 (some .long)
theorem cmX3_joined : cwX3_joined ∈ BIG := (tb4 (List.mem_of_getElem? (i := 55) rfl) rfl)
theorem pdX3_joined : yX3_joined.cls ≠ "java/lang/invoke/MethodHandle" ∧ yX3_joined.cls ≠ "java/lang/invoke/VarHandle" ∧ (parseMethodDescriptor yX3_joined.desc).map (fun d => d.parameters.length) = some 3 := by decide +kernel
theorem msX3_46 : MS RX3 46 yX3_joined cwX3_joined 3 := ⟨(tb4 (List.mem_of_getElem? (i := 53) rfl) rfl), (tb4 (List.mem_of_getElem? (i := 54) rfl) rfl), (tb1 (List.mem_of_getElem? (i := 10) rfl) rfl), cmX3_joined, pdX3_joined⟩
theorem mdX4_43 : MD RX4 43 yX6_easeIn cwX6_easeIn 4 := ⟨(tb5 (List.mem_of_getElem? (i := 9) rfl) rfl), (tb4 (List.mem_of_getElem? (i := 35) rfl) rfl), (tb4 (List.mem_of_getElem? (i := 36) rfl) rfl), (tb1 (List.mem_of_getElem? (i := 8) rfl) rfl), cmX6_easeIn, pdX6_easeIn⟩
abbrev cwX4_bestOf : Cond := .code yX4_bestOf cX4_bestOf 6 (some .int)
theorem cmX4_bestOf : cwX4_bestOf ∈ BIG := (tb5 (List.mem_of_getElem? (i := 13) rfl) rfl)
theorem pdX4_bestOf : yX4_bestOf.cls ≠ "java/lang/invoke/MethodHandle" ∧ yX4_bestOf.cls ≠ "java/lang/invoke/VarHandle" ∧ (parseMethodDescriptor yX4_bestOf.desc).map (fun d => d.parameters.length) = some 3 := by decide +kernel
theorem mdX4_47 : MD RX4 47 yX4_bestOf cwX4_bestOf 3 := ⟨(tb5 (List.mem_of_getElem? (i := 10) rfl) rfl), (tb5 (List.mem_of_getElem? (i := 12) rfl) rfl), (tbp (n := 5) (List.mem_append_right _ (List.mem_append_right _ (List.mem_append_left _ (List.mem_of_getElem? (i := 0) rfl)))) rfl), (tb1 (List.mem_of_getElem? (i := 16) rfl) rfl), cmX4_bestOf, pdX4_bestOf⟩
abbrev cwX4_choose : Cond := .code yX4_choose cX4_choose 6 none
theorem cmX4_choose : cwX4_choose ∈ BIG := (tb5 (List.mem_of_getElem? (i := 22) rfl) rfl)
theorem pdX4_choose : yX4_choose.cls ≠ "java/lang/invoke/MethodHandle" ∧ yX4_choose.cls ≠ "java/lang/invoke/VarHandle" ∧ (parseMethodDescriptor yX4_choose.desc).map (fun d => d.parameters.length) = some 2 := by decide +kernel
theorem mdX4_51 : MD RX4 51 yX4_choose cwX4_choose 2 := ⟨(tb5 (List.mem_of_getElem? (i := 19) rfl) rfl), (tb5 (List.mem_of_getElem? (i := 21) rfl) rfl), (tbp (n := 5) (List.mem_append_right _ (List.mem_append_right _ (List.mem_append_left _ (List.mem_of_getElem? (i := 2) rfl)))) rfl), (tb1 (List.mem_of_getElem? (i := 16) rfl) rfl), cmX4_choose, pdX4_choose⟩
abbrev cwX4_gainWith : Cond := .code yX4_gainWith cX4_gainWith 5 (some .int)
theorem cmX4_gainWith : cwX4_gainWith ∈ BIG := (tb5 (List.mem_of_getElem? (i := 17) rfl) rfl)
theorem pdX4_gainWith : yX4_gainWith.cls ≠ "java/lang/invoke/MethodHandle" ∧ yX4_gainWith.cls ≠ "java/lang/invoke/VarHandle" ∧ (parseMethodDescriptor yX4_gainWith.desc).map (fun d => d.parameters.length) = some 4 := by decide +kernel
theorem mdX4_55 : MD RX4 55 yX4_gainWith cwX4_gainWith 4 := ⟨(tb5 (List.mem_of_getElem? (i := 14) rfl) rfl), (tb5 (List.mem_of_getElem? (i := 16) rfl) rfl), (tbp (n := 5) (List.mem_append_right _ (List.mem_append_right _ (List.mem_append_left _ (List.mem_of_getElem? (i := 1) rfl)))) rfl), (tb1 (List.mem_of_getElem? (i := 16) rfl) rfl), cmX4_gainWith, pdX4_gainWith⟩
theorem mdX5_25 : MD RX5 25 yX5_drawn cwX5_drawn 0 := ⟨(tb4 (List.mem_of_getElem? (i := 195) rfl) rfl), (tb4 (List.mem_of_getElem? (i := 122) rfl) rfl), (tb4 (List.mem_of_getElem? (i := 123) rfl) rfl), (tb1 (List.mem_of_getElem? (i := 12) rfl) rfl), cmX5_drawn, pdX5_drawn⟩
theorem mdX5_33 : MD RX5 33 yX5_pass cwX5_pass 2 := ⟨(tb4 (List.mem_of_getElem? (i := 129) rfl) rfl), (tb4 (List.mem_of_getElem? (i := 130) rfl) rfl), (tb4 (List.mem_of_getElem? (i := 131) rfl) rfl), (tb1 (List.mem_of_getElem? (i := 12) rfl) rfl), cmX5_pass, pdX5_pass⟩
abbrev cwX5_bringCans : Cond := .code yX5_bringCans cX5_bringCans 5 none
theorem cmX5_bringCans : cwX5_bringCans ∈ BIG := (tb4 (List.mem_of_getElem? (i := 135) rfl) rfl)
theorem pdX5_bringCans : yX5_bringCans.cls ≠ "java/lang/invoke/MethodHandle" ∧ yX5_bringCans.cls ≠ "java/lang/invoke/VarHandle" ∧ (parseMethodDescriptor yX5_bringCans.desc).map (fun d => d.parameters.length) = some 2 := by decide +kernel
theorem msX5_41 : MS RX5 41 yX5_bringCans cwX5_bringCans 2 := ⟨(tb4 (List.mem_of_getElem? (i := 133) rfl) rfl), (tb4 (List.mem_of_getElem? (i := 134) rfl) rfl), (tb1 (List.mem_of_getElem? (i := 12) rfl) rfl), cmX5_bringCans, pdX5_bringCans⟩
abbrev cwX5_runPipes : Cond := .code yX5_runPipes cX5_runPipes 6 none
theorem cmX5_runPipes : cwX5_runPipes ∈ BIG := (tb4 (List.mem_of_getElem? (i := 141) rfl) rfl)
theorem pdX5_runPipes : yX5_runPipes.cls ≠ "java/lang/invoke/MethodHandle" ∧ yX5_runPipes.cls ≠ "java/lang/invoke/VarHandle" ∧ (parseMethodDescriptor yX5_runPipes.desc).map (fun d => d.parameters.length) = some 2 := by decide +kernel
theorem msX5_48 : MS RX5 48 yX5_runPipes cwX5_runPipes 2 := ⟨(tb4 (List.mem_of_getElem? (i := 139) rfl) rfl), (tb4 (List.mem_of_getElem? (i := 140) rfl) rfl), (tb1 (List.mem_of_getElem? (i := 12) rfl) rfl), cmX5_runPipes, pdX5_runPipes⟩
abbrev cwX5_coolTubs : Cond := .code yX5_coolTubs cX5_coolTubs 6 none
theorem cmX5_coolTubs : cwX5_coolTubs ∈ BIG := (tb4 (List.mem_of_getElem? (i := 145) rfl) rfl)
theorem pdX5_coolTubs : yX5_coolTubs.cls ≠ "java/lang/invoke/MethodHandle" ∧ yX5_coolTubs.cls ≠ "java/lang/invoke/VarHandle" ∧ (parseMethodDescriptor yX5_coolTubs.desc).map (fun d => d.parameters.length) = some 2 := by decide +kernel
theorem msX5_51 : MS RX5 51 yX5_coolTubs cwX5_coolTubs 2 := ⟨(tb4 (List.mem_of_getElem? (i := 143) rfl) rfl), (tb4 (List.mem_of_getElem? (i := 144) rfl) rfl), (tb1 (List.mem_of_getElem? (i := 12) rfl) rfl), cmX5_coolTubs, pdX5_coolTubs⟩
abbrev cwX5_seatKnights : Cond := .code yX5_seatKnights cX5_seatKnights 5 none
theorem cmX5_seatKnights : cwX5_seatKnights ∈ BIG := (tb4 (List.mem_of_getElem? (i := 157) rfl) rfl)
theorem pdX5_seatKnights : yX5_seatKnights.cls ≠ "java/lang/invoke/MethodHandle" ∧ yX5_seatKnights.cls ≠ "java/lang/invoke/VarHandle" ∧ (parseMethodDescriptor yX5_seatKnights.desc).map (fun d => d.parameters.length) = some 2 := by decide +kernel
theorem mdX5_57 : MD RX5 57 yX5_seatKnights cwX5_seatKnights 2 := ⟨(tb4 (List.mem_of_getElem? (i := 154) rfl) rfl), (tb4 (List.mem_of_getElem? (i := 156) rfl) rfl), (tbp (n := 4) (List.mem_append_right _ (List.mem_append_left _ (List.mem_of_getElem? (i := 10) rfl))) rfl), (tb1 (List.mem_of_getElem? (i := 12) rfl) rfl), cmX5_seatKnights, pdX5_seatKnights⟩
abbrev cwX5_stand : Cond := .code yX5_stand cX5_stand 8 none
theorem cmX5_stand : cwX5_stand ∈ BIG := (tb4 (List.mem_of_getElem? (i := 162) rfl) rfl)
theorem pdX5_stand : yX5_stand.cls ≠ "java/lang/invoke/MethodHandle" ∧ yX5_stand.cls ≠ "java/lang/invoke/VarHandle" ∧ (parseMethodDescriptor yX5_stand.desc).map (fun d => d.parameters.length) = some 3 := by decide +kernel
theorem mdX5_74 : MD RX5 74 yX5_stand cwX5_stand 3 := ⟨(tb4 (List.mem_of_getElem? (i := 159) rfl) rfl), (tb4 (List.mem_of_getElem? (i := 161) rfl) rfl), (tbp (n := 4) (List.mem_append_right _ (List.mem_append_left _ (List.mem_of_getElem? (i := 11) rfl))) rfl), (tb1 (List.mem_of_getElem? (i := 12) rfl) rfl), cmX5_stand, pdX5_stand⟩
theorem mdX5_81 : MD RX5 81 yX9_cell cwX9_cell 2 := ⟨(tb4 (List.mem_of_getElem? (i := 136) rfl) rfl), (tb3 (List.mem_of_getElem? (i := 9) rfl) rfl), (tb3 (List.mem_of_getElem? (i := 10) rfl) rfl), (tb1 (List.mem_of_getElem? (i := 9) rfl) rfl), cmX9_cell, pdX9_cell⟩
theorem mdX5_85 : MD RX5 85 yX0_hasRoom cwX0_hasRoom 2 := ⟨(tb4 (List.mem_of_getElem? (i := 137) rfl) rfl), (tb4 (List.mem_of_getElem? (i := 72) rfl) rfl), (tb4 (List.mem_of_getElem? (i := 73) rfl) rfl), (tb1 (List.mem_of_getElem? (i := 11) rfl) rfl), cmX0_hasRoom, pdX0_hasRoom⟩
theorem mdX5_89 : MD RX5 89 yX0_pourIn cwX0_pourIn 3 := ⟨(tb4 (List.mem_of_getElem? (i := 138) rfl) rfl), (tb4 (List.mem_of_getElem? (i := 86) rfl) rfl), (tb4 (List.mem_of_getElem? (i := 87) rfl) rfl), (tb1 (List.mem_of_getElem? (i := 11) rfl) rfl), cmX0_pourIn, pdX0_pourIn⟩
theorem mdX5_107 : MD RX5 107 yX6_worthOf cwX6_worthOf 5 := ⟨(tb4 (List.mem_of_getElem? (i := 146) rfl) rfl), (tb4 (List.mem_of_getElem? (i := 41) rfl) rfl), (tb4 (List.mem_of_getElem? (i := 42) rfl) rfl), (tb1 (List.mem_of_getElem? (i := 8) rfl) rfl), cmX6_worthOf, pdX6_worthOf⟩
abbrev cwX5_within : Cond := .code yX5_within cX5_within 4 (some .int)
theorem cmX5_within : cwX5_within ∈ BIG := (tb4 (List.mem_of_getElem? (i := 153) rfl) rfl)
theorem pdX5_within : yX5_within.cls ≠ "java/lang/invoke/MethodHandle" ∧ yX5_within.cls ≠ "java/lang/invoke/VarHandle" ∧ (parseMethodDescriptor yX5_within.desc).map (fun d => d.parameters.length) = some 3 := by decide +kernel
theorem msX5_116 : MS RX5 116 yX5_within cwX5_within 3 := ⟨(tb4 (List.mem_of_getElem? (i := 151) rfl) rfl), (tb4 (List.mem_of_getElem? (i := 152) rfl) rfl), (tb1 (List.mem_of_getElem? (i := 12) rfl) rfl), cmX5_within, pdX5_within⟩
theorem mdX5_120 : MD RX5 120 yX0_enter cwX0_enter 2 := ⟨(tb4 (List.mem_of_getElem? (i := 158) rfl) rfl), (tb4 (List.mem_of_getElem? (i := 102) rfl) rfl), (tb4 (List.mem_of_getElem? (i := 103) rfl) rfl), (tb1 (List.mem_of_getElem? (i := 11) rfl) rfl), cmX0_enter, pdX0_enter⟩
theorem mdX5_126 : MD RX5 126 yX6_hasTub cwX6_hasTub 1 := ⟨(tb4 (List.mem_of_getElem? (i := 163) rfl) rfl), (tb3 (List.mem_of_getElem? (i := 5) rfl) rfl), (tb3 (List.mem_of_getElem? (i := 6) rfl) rfl), (tb1 (List.mem_of_getElem? (i := 8) rfl) rfl), cmX6_hasTub, pdX6_hasTub⟩
theorem mdX5_133 : MD RX5 133 yX6_easeIn cwX6_easeIn 4 := ⟨(tb4 (List.mem_of_getElem? (i := 164) rfl) rfl), (tb4 (List.mem_of_getElem? (i := 35) rfl) rfl), (tb4 (List.mem_of_getElem? (i := 36) rfl) rfl), (tb1 (List.mem_of_getElem? (i := 8) rfl) rfl), cmX6_easeIn, pdX6_easeIn⟩
abbrev cwX5_givesWay : Cond := .code yX5_givesWay cX5_givesWay 3 (some .boolean)
theorem cmX5_givesWay : cwX5_givesWay ∈ BIG := (tb4 (List.mem_of_getElem? (i := 168) rfl) rfl)
theorem pdX5_givesWay : yX5_givesWay.cls ≠ "java/lang/invoke/MethodHandle" ∧ yX5_givesWay.cls ≠ "java/lang/invoke/VarHandle" ∧ (parseMethodDescriptor yX5_givesWay.desc).map (fun d => d.parameters.length) = some 2 := by decide +kernel
theorem mdX5_140 : MD RX5 140 yX5_givesWay cwX5_givesWay 2 := ⟨(tb4 (List.mem_of_getElem? (i := 165) rfl) rfl), (tb4 (List.mem_of_getElem? (i := 167) rfl) rfl), (tbp (n := 4) (List.mem_append_right _ (List.mem_append_left _ (List.mem_of_getElem? (i := 12) rfl))) rfl), (tb1 (List.mem_of_getElem? (i := 12) rfl) rfl), cmX5_givesWay, pdX5_givesWay⟩
theorem mdX5_144 : MD RX5 144 yX0_leave cwX0_leave 1 := ⟨(tb4 (List.mem_of_getElem? (i := 177) rfl) rfl), (tb4 (List.mem_of_getElem? (i := 109) rfl) rfl), (tb4 (List.mem_of_getElem? (i := 110) rfl) rfl), (tb1 (List.mem_of_getElem? (i := 11) rfl) rfl), cmX0_leave, pdX0_leave⟩
abbrev cwX0_draw : Cond := .code yX0_draw cX0_draw 1 (some .int)
theorem cmX0_draw : cwX0_draw ∈ BIG := (tb4 (List.mem_of_getElem? (i := 172) rfl) rfl)
theorem pdX0_draw : yX0_draw.cls ≠ "java/lang/invoke/MethodHandle" ∧ yX0_draw.cls ≠ "java/lang/invoke/VarHandle" ∧ (parseMethodDescriptor yX0_draw.desc).map (fun d => d.parameters.length) = some 0 := by decide +kernel
theorem mdX5_157 : MD RX5 157 yX0_draw cwX0_draw 0 := ⟨(tb4 (List.mem_of_getElem? (i := 169) rfl) rfl), (tb4 (List.mem_of_getElem? (i := 170) rfl) rfl), (tb4 (List.mem_of_getElem? (i := 171) rfl) rfl), (tb1 (List.mem_of_getElem? (i := 11) rfl) rfl), cmX0_draw, pdX0_draw⟩
abbrev cwX3_forget : Cond := .code yX3_forget cX3_forget 2 none
theorem cmX3_forget : cwX3_forget ∈ BIG := (tb3 (List.mem_of_getElem? (i := 82) rfl) rfl)
theorem pdX3_forget : yX3_forget.cls ≠ "java/lang/invoke/MethodHandle" ∧ yX3_forget.cls ≠ "java/lang/invoke/VarHandle" ∧ (parseMethodDescriptor yX3_forget.desc).map (fun d => d.parameters.length) = some 0 := by decide +kernel
theorem mdX6_46 : MD RX6 46 yX3_forget cwX3_forget 0 := ⟨(tb3 (List.mem_of_getElem? (i := 79) rfl) rfl), (tb3 (List.mem_of_getElem? (i := 80) rfl) rfl), (tb3 (List.mem_of_getElem? (i := 81) rfl) rfl), (tb1 (List.mem_of_getElem? (i := 10) rfl) rfl), cmX3_forget, pdX3_forget⟩
theorem mdX6_62 : MD RX6 62 yX9_cell cwX9_cell 2 := ⟨(tb4 (List.mem_of_getElem? (i := 28) rfl) rfl), (tb3 (List.mem_of_getElem? (i := 9) rfl) rfl), (tb3 (List.mem_of_getElem? (i := 10) rfl) rfl), (tb1 (List.mem_of_getElem? (i := 9) rfl) rfl), cmX9_cell, pdX9_cell⟩
theorem mdX6_66 : MD RX6 66 yX6_hasKnight cwX6_hasKnight 1 := ⟨(tb4 (List.mem_of_getElem? (i := 38) rfl) rfl), (tb3 (List.mem_of_getElem? (i := 13) rfl) rfl), (tb3 (List.mem_of_getElem? (i := 14) rfl) rfl), (tb1 (List.mem_of_getElem? (i := 8) rfl) rfl), cmX6_hasKnight, pdX6_hasKnight⟩
theorem mdX6_70 : MD RX6 70 yX6_hasTub cwX6_hasTub 1 := ⟨(tb4 (List.mem_of_getElem? (i := 39) rfl) rfl), (tb3 (List.mem_of_getElem? (i := 5) rfl) rfl), (tb3 (List.mem_of_getElem? (i := 6) rfl) rfl), (tb1 (List.mem_of_getElem? (i := 8) rfl) rfl), cmX6_hasTub, pdX6_hasTub⟩
theorem mdX6_73 : MD RX6 73 yX6_worthOf cwX6_worthOf 5 := ⟨(tb4 (List.mem_of_getElem? (i := 40) rfl) rfl), (tb4 (List.mem_of_getElem? (i := 41) rfl) rfl), (tb4 (List.mem_of_getElem? (i := 42) rfl) rfl), (tb1 (List.mem_of_getElem? (i := 8) rfl) rfl), cmX6_worthOf, pdX6_worthOf⟩
theorem mdX6_88 : MD RX6 88 yX3_isTold cwX3_isTold 1 := ⟨(tb4 (List.mem_of_getElem? (i := 44) rfl) rfl), (tb3 (List.mem_of_getElem? (i := 204) rfl) rfl), (tb3 (List.mem_of_getElem? (i := 205) rfl) rfl), (tb1 (List.mem_of_getElem? (i := 10) rfl) rfl), cmX3_isTold, pdX3_isTold⟩
theorem mdX6_95 : MD RX6 95 yX6_rankOf cwX6_rankOf 1 := ⟨(tb4 (List.mem_of_getElem? (i := 46) rfl) rfl), (tb4 (List.mem_of_getElem? (i := 25) rfl) rfl), (tb4 (List.mem_of_getElem? (i := 26) rfl) rfl), (tb1 (List.mem_of_getElem? (i := 8) rfl) rfl), cmX6_rankOf, pdX6_rankOf⟩
abbrev cwX3_worth : Cond := .code yX3_worth cX3_worth 7 (some .long)
theorem cmX3_worth : cwX3_worth ∈ BIG := (tb4 (List.mem_of_getElem? (i := 50) rfl) rfl)
theorem pdX3_worth : yX3_worth.cls ≠ "java/lang/invoke/MethodHandle" ∧ yX3_worth.cls ≠ "java/lang/invoke/VarHandle" ∧ (parseMethodDescriptor yX3_worth.desc).map (fun d => d.parameters.length) = some 1 := by decide +kernel
theorem mdX6_108 : MD RX6 108 yX3_worth cwX3_worth 1 := ⟨(tb4 (List.mem_of_getElem? (i := 47) rfl) rfl), (tb4 (List.mem_of_getElem? (i := 48) rfl) rfl), (tb4 (List.mem_of_getElem? (i := 49) rfl) rfl), (tb1 (List.mem_of_getElem? (i := 10) rfl) rfl), cmX3_worth, pdX3_worth⟩
theorem mdX7_39 : MD RX7 39 yX0_leave cwX0_leave 1 := ⟨(tb5 (List.mem_of_getElem? (i := 148) rfl) rfl), (tb4 (List.mem_of_getElem? (i := 109) rfl) rfl), (tb4 (List.mem_of_getElem? (i := 110) rfl) rfl), (tb1 (List.mem_of_getElem? (i := 11) rfl) rfl), cmX0_leave, pdX0_leave⟩
theorem mdX7_43 : MD RX7 43 yX0_enter cwX0_enter 2 := ⟨(tb5 (List.mem_of_getElem? (i := 149) rfl) rfl), (tb4 (List.mem_of_getElem? (i := 102) rfl) rfl), (tb4 (List.mem_of_getElem? (i := 103) rfl) rfl), (tb1 (List.mem_of_getElem? (i := 11) rfl) rfl), cmX0_enter, pdX0_enter⟩
abbrev cwX6_forget : Cond := .code yX6_forget cX6_forget 1 none
theorem cmX6_forget : cwX6_forget ∈ BIG := (tb3 (List.mem_of_getElem? (i := 78) rfl) rfl)
theorem pdX6_forget : yX6_forget.cls ≠ "java/lang/invoke/MethodHandle" ∧ yX6_forget.cls ≠ "java/lang/invoke/VarHandle" ∧ (parseMethodDescriptor yX6_forget.desc).map (fun d => d.parameters.length) = some 0 := by decide +kernel
theorem mdX8_37 : MD RX8 37 yX6_forget cwX6_forget 0 := ⟨(tb3 (List.mem_of_getElem? (i := 75) rfl) rfl), (tb3 (List.mem_of_getElem? (i := 76) rfl) rfl), (tb3 (List.mem_of_getElem? (i := 77) rfl) rfl), (tb1 (List.mem_of_getElem? (i := 8) rfl) rfl), cmX6_forget, pdX6_forget⟩
abbrev cwX10_start : Cond := .code yX10_start cX10_start 2 none
theorem cmX10_start : cwX10_start ∈ BIG := (tb3 (List.mem_of_getElem? (i := 86) rfl) rfl)
theorem pdX10_start : yX10_start.cls ≠ "java/lang/invoke/MethodHandle" ∧ yX10_start.cls ≠ "java/lang/invoke/VarHandle" ∧ (parseMethodDescriptor yX10_start.desc).map (fun d => d.parameters.length) = some 1 := by decide +kernel
theorem mdX8_42 : MD RX8 42 yX10_start cwX10_start 1 := ⟨(tb3 (List.mem_of_getElem? (i := 83) rfl) rfl), (tb3 (List.mem_of_getElem? (i := 84) rfl) rfl), (tb3 (List.mem_of_getElem? (i := 85) rfl) rfl), (tb1 (List.mem_of_getElem? (i := 3) rfl) rfl), cmX10_start, pdX10_start⟩
abbrev cwX8_readLine : Cond := .code yX8_readLine cX8_readLine 3 (some .boolean)
theorem cmX8_readLine : cwX8_readLine ∈ BIG := (tb3 (List.mem_of_getElem? (i := 126) rfl) rfl)
theorem pdX8_readLine : yX8_readLine.cls ≠ "java/lang/invoke/MethodHandle" ∧ yX8_readLine.cls ≠ "java/lang/invoke/VarHandle" ∧ (parseMethodDescriptor yX8_readLine.desc).map (fun d => d.parameters.length) = some 1 := by decide +kernel
theorem mdX8_49 : MD RX8 49 yX8_readLine cwX8_readLine 1 := ⟨(tb3 (List.mem_of_getElem? (i := 123) rfl) rfl), (tb3 (List.mem_of_getElem? (i := 125) rfl) rfl), (tbp (n := 9) (List.mem_append_left _ (List.mem_of_getElem? (i := 5) rfl)) rfl), (tb1 (List.mem_of_getElem? (i := 2) rfl) rfl), cmX8_readLine, pdX8_readLine⟩
abbrev cwX8_readKnight : Cond := .code yX8_readKnight cX8_readKnight 2 (some .boolean)
theorem cmX8_readKnight : cwX8_readKnight ∈ BIG := (tb3 (List.mem_of_getElem? (i := 130) rfl) rfl)
theorem pdX8_readKnight : yX8_readKnight.cls ≠ "java/lang/invoke/MethodHandle" ∧ yX8_readKnight.cls ≠ "java/lang/invoke/VarHandle" ∧ (parseMethodDescriptor yX8_readKnight.desc).map (fun d => d.parameters.length) = some 1 := by decide +kernel
theorem mdX8_63 : MD RX8 63 yX8_readKnight cwX8_readKnight 1 := ⟨(tb3 (List.mem_of_getElem? (i := 127) rfl) rfl), (tb3 (List.mem_of_getElem? (i := 129) rfl) rfl), (tbp (n := 9) (List.mem_append_left _ (List.mem_of_getElem? (i := 6) rfl)) rfl), (tb1 (List.mem_of_getElem? (i := 2) rfl) rfl), cmX8_readKnight, pdX8_readKnight⟩
abbrev cwX8_readTub : Cond := .code yX8_readTub cX8_readTub 2 (some .boolean)
theorem cmX8_readTub : cwX8_readTub ∈ BIG := (tb3 (List.mem_of_getElem? (i := 172) rfl) rfl)
theorem pdX8_readTub : yX8_readTub.cls ≠ "java/lang/invoke/MethodHandle" ∧ yX8_readTub.cls ≠ "java/lang/invoke/VarHandle" ∧ (parseMethodDescriptor yX8_readTub.desc).map (fun d => d.parameters.length) = some 1 := by decide +kernel
theorem mdX8_70 : MD RX8 70 yX8_readTub cwX8_readTub 1 := ⟨(tb3 (List.mem_of_getElem? (i := 169) rfl) rfl), (tb3 (List.mem_of_getElem? (i := 171) rfl) rfl), (tbp (n := 9) (List.mem_append_left _ (List.mem_of_getElem? (i := 12) rfl)) rfl), (tb1 (List.mem_of_getElem? (i := 2) rfl) rfl), cmX8_readTub, pdX8_readTub⟩
abbrev cwX8_readSitting : Cond := .code yX8_readSitting cX8_readSitting 3 (some .boolean)
theorem cmX8_readSitting : cwX8_readSitting ∈ BIG := (tb3 (List.mem_of_getElem? (i := 176) rfl) rfl)
theorem pdX8_readSitting : yX8_readSitting.cls ≠ "java/lang/invoke/MethodHandle" ∧ yX8_readSitting.cls ≠ "java/lang/invoke/VarHandle" ∧ (parseMethodDescriptor yX8_readSitting.desc).map (fun d => d.parameters.length) = some 2 := by decide +kernel
theorem mdX8_76 : MD RX8 76 yX8_readSitting cwX8_readSitting 2 := ⟨(tb3 (List.mem_of_getElem? (i := 173) rfl) rfl), (tb3 (List.mem_of_getElem? (i := 175) rfl) rfl), (tbp (n := 9) (List.mem_append_left _ (List.mem_of_getElem? (i := 13) rfl)) rfl), (tb1 (List.mem_of_getElem? (i := 2) rfl) rfl), cmX8_readSitting, pdX8_readSitting⟩
abbrev cwX8_readCan : Cond := .code yX8_readCan cX8_readCan 3 (some .boolean)
theorem cmX8_readCan : cwX8_readCan ∈ BIG := (tb3 (List.mem_of_getElem? (i := 184) rfl) rfl)
theorem pdX8_readCan : yX8_readCan.cls ≠ "java/lang/invoke/MethodHandle" ∧ yX8_readCan.cls ≠ "java/lang/invoke/VarHandle" ∧ (parseMethodDescriptor yX8_readCan.desc).map (fun d => d.parameters.length) = some 2 := by decide +kernel
theorem mdX8_83 : MD RX8 83 yX8_readCan cwX8_readCan 2 := ⟨(tb3 (List.mem_of_getElem? (i := 181) rfl) rfl), (tb3 (List.mem_of_getElem? (i := 183) rfl) rfl), (tbp (n := 9) (List.mem_append_left _ (List.mem_of_getElem? (i := 15) rfl)) rfl), (tb1 (List.mem_of_getElem? (i := 2) rfl) rfl), cmX8_readCan, pdX8_readCan⟩
abbrev cwX8_readPipe : Cond := .code yX8_readPipe cX8_readPipe 3 (some .boolean)
theorem cmX8_readPipe : cwX8_readPipe ∈ BIG := (tb3 (List.mem_of_getElem? (i := 188) rfl) rfl)
theorem pdX8_readPipe : yX8_readPipe.cls ≠ "java/lang/invoke/MethodHandle" ∧ yX8_readPipe.cls ≠ "java/lang/invoke/VarHandle" ∧ (parseMethodDescriptor yX8_readPipe.desc).map (fun d => d.parameters.length) = some 2 := by decide +kernel
theorem mdX8_89 : MD RX8 89 yX8_readPipe cwX8_readPipe 2 := ⟨(tb3 (List.mem_of_getElem? (i := 185) rfl) rfl), (tb3 (List.mem_of_getElem? (i := 187) rfl) rfl), (tbp (n := 9) (List.mem_append_right _ (List.mem_append_left _ (List.mem_of_getElem? (i := 0) rfl))) rfl), (tb1 (List.mem_of_getElem? (i := 2) rfl) rfl), cmX8_readPipe, pdX8_readPipe⟩
abbrev cwX8_readFlinch : Cond := .code yX8_readFlinch cX8_readFlinch 2 (some .boolean)
theorem cmX8_readFlinch : cwX8_readFlinch ∈ BIG := (tb3 (List.mem_of_getElem? (i := 193) rfl) rfl)
theorem pdX8_readFlinch : yX8_readFlinch.cls ≠ "java/lang/invoke/MethodHandle" ∧ yX8_readFlinch.cls ≠ "java/lang/invoke/VarHandle" ∧ (parseMethodDescriptor yX8_readFlinch.desc).map (fun d => d.parameters.length) = some 1 := by decide +kernel
theorem mdX8_92 : MD RX8 92 yX8_readFlinch cwX8_readFlinch 1 := ⟨(tb3 (List.mem_of_getElem? (i := 190) rfl) rfl), (tb3 (List.mem_of_getElem? (i := 192) rfl) rfl), (tbp (n := 9) (List.mem_append_right _ (List.mem_append_left _ (List.mem_of_getElem? (i := 1) rfl))) rfl), (tb1 (List.mem_of_getElem? (i := 2) rfl) rfl), cmX8_readFlinch, pdX8_readFlinch⟩
abbrev cwX8_readSeed : Cond := .code yX8_readSeed cX8_readSeed 2 (some .boolean)
theorem cmX8_readSeed : cwX8_readSeed ∈ BIG := (tb3 (List.mem_of_getElem? (i := 197) rfl) rfl)
theorem pdX8_readSeed : yX8_readSeed.cls ≠ "java/lang/invoke/MethodHandle" ∧ yX8_readSeed.cls ≠ "java/lang/invoke/VarHandle" ∧ (parseMethodDescriptor yX8_readSeed.desc).map (fun d => d.parameters.length) = some 1 := by decide +kernel
theorem mdX8_95 : MD RX8 95 yX8_readSeed cwX8_readSeed 1 := ⟨(tb3 (List.mem_of_getElem? (i := 194) rfl) rfl), (tb3 (List.mem_of_getElem? (i := 196) rfl) rfl), (tbp (n := 9) (List.mem_append_right _ (List.mem_append_left _ (List.mem_of_getElem? (i := 2) rfl))) rfl), (tb1 (List.mem_of_getElem? (i := 2) rfl) rfl), cmX8_readSeed, pdX8_readSeed⟩
abbrev cwX8_readLaw : Cond := .code yX8_readLaw cX8_readLaw 5 (some .boolean)
theorem cmX8_readLaw : cwX8_readLaw ∈ BIG := (tb3 (List.mem_of_getElem? (i := 202) rfl) rfl)
theorem pdX8_readLaw : yX8_readLaw.cls ≠ "java/lang/invoke/MethodHandle" ∧ yX8_readLaw.cls ≠ "java/lang/invoke/VarHandle" ∧ (parseMethodDescriptor yX8_readLaw.desc).map (fun d => d.parameters.length) = some 1 := by decide +kernel
theorem mdX8_102 : MD RX8 102 yX8_readLaw cwX8_readLaw 1 := ⟨(tb3 (List.mem_of_getElem? (i := 199) rfl) rfl), (tb3 (List.mem_of_getElem? (i := 201) rfl) rfl), (tbp (n := 9) (List.mem_append_right _ (List.mem_append_left _ (List.mem_of_getElem? (i := 3) rfl))) rfl), (tb1 (List.mem_of_getElem? (i := 2) rfl) rfl), cmX8_readLaw, pdX8_readLaw⟩
abbrev cwX8_fail : Cond := .code yX8_fail cX8_fail 2 (some .boolean)
theorem cmX8_fail : cwX8_fail ∈ BIG := (tb3 (List.mem_of_getElem? (i := 142) rfl) rfl)
theorem pdX8_fail : yX8_fail.cls ≠ "java/lang/invoke/MethodHandle" ∧ yX8_fail.cls ≠ "java/lang/invoke/VarHandle" ∧ (parseMethodDescriptor yX8_fail.desc).map (fun d => d.parameters.length) = some 1 := by decide +kernel
theorem mdX8_106 : MD RX8 106 yX8_fail cwX8_fail 1 := ⟨(tb3 (List.mem_of_getElem? (i := 139) rfl) rfl), (tb3 (List.mem_of_getElem? (i := 141) rfl) rfl), (tbp (n := 9) (List.mem_append_left _ (List.mem_of_getElem? (i := 8) rfl)) rfl), (tb1 (List.mem_of_getElem? (i := 2) rfl) rfl), cmX8_fail, pdX8_fail⟩
theorem mdX8_110 : MD RX8 110 yX10_advance cwX10_advance 0 := ⟨(tb3 (List.mem_of_getElem? (i := 143) rfl) rfl), (tb3 (List.mem_of_getElem? (i := 88) rfl) rfl), (tb3 (List.mem_of_getElem? (i := 89) rfl) rfl), (tb1 (List.mem_of_getElem? (i := 3) rfl) rfl), cmX10_advance, pdX10_advance⟩
abbrev cwX8_openRow : Cond := .code yX8_openRow cX8_openRow 2 (some .boolean)
theorem cmX8_openRow : cwX8_openRow ∈ BIG := (tb3 (List.mem_of_getElem? (i := 134) rfl) rfl)
theorem pdX8_openRow : yX8_openRow.cls ≠ "java/lang/invoke/MethodHandle" ∧ yX8_openRow.cls ≠ "java/lang/invoke/VarHandle" ∧ (parseMethodDescriptor yX8_openRow.desc).map (fun d => d.parameters.length) = some 1 := by decide +kernel
theorem mdX8_113 : MD RX8 113 yX8_openRow cwX8_openRow 1 := ⟨(tb3 (List.mem_of_getElem? (i := 131) rfl) rfl), (tb3 (List.mem_of_getElem? (i := 133) rfl) rfl), (tbp (n := 9) (List.mem_append_left _ (List.mem_of_getElem? (i := 7) rfl)) rfl), (tb1 (List.mem_of_getElem? (i := 2) rfl) rfl), cmX8_openRow, pdX8_openRow⟩
abbrev cwX8_readNewName : Cond := .code yX8_readNewName cX8_readNewName 2 (some .boolean)
theorem cmX8_readNewName : cwX8_readNewName ∈ BIG := (tb3 (List.mem_of_getElem? (i := 147) rfl) rfl)
theorem pdX8_readNewName : yX8_readNewName.cls ≠ "java/lang/invoke/MethodHandle" ∧ yX8_readNewName.cls ≠ "java/lang/invoke/VarHandle" ∧ (parseMethodDescriptor yX8_readNewName.desc).map (fun d => d.parameters.length) = some 1 := by decide +kernel
theorem mdX8_116 : MD RX8 116 yX8_readNewName cwX8_readNewName 1 := ⟨(tb3 (List.mem_of_getElem? (i := 144) rfl) rfl), (tb3 (List.mem_of_getElem? (i := 146) rfl) rfl), (tbp (n := 9) (List.mem_append_left _ (List.mem_of_getElem? (i := 9) rfl)) rfl), (tb1 (List.mem_of_getElem? (i := 2) rfl) rfl), cmX8_readNewName, pdX8_readNewName⟩
abbrev cwX8_readCell : Cond := .code yX8_readCell cX8_readCell 5 (some .boolean)
theorem cmX8_readCell : cwX8_readCell ∈ BIG := (tb3 (List.mem_of_getElem? (i := 160) rfl) rfl)
theorem pdX8_readCell : yX8_readCell.cls ≠ "java/lang/invoke/MethodHandle" ∧ yX8_readCell.cls ≠ "java/lang/invoke/VarHandle" ∧ (parseMethodDescriptor yX8_readCell.desc).map (fun d => d.parameters.length) = some 4 := by decide +kernel
theorem mdX8_119 : MD RX8 119 yX8_readCell cwX8_readCell 4 := ⟨(tb3 (List.mem_of_getElem? (i := 157) rfl) rfl), (tb3 (List.mem_of_getElem? (i := 159) rfl) rfl), (tbp (n := 9) (List.mem_append_left _ (List.mem_of_getElem? (i := 10) rfl)) rfl), (tb1 (List.mem_of_getElem? (i := 2) rfl) rfl), cmX8_readCell, pdX8_readCell⟩
abbrev cwX9_close : Cond := .code yX9_close cX9_close 1 (some .boolean)
theorem cmX9_close : cwX9_close ∈ BIG := (tb3 (List.mem_of_getElem? (i := 168) rfl) rfl)
theorem pdX9_close : yX9_close.cls ≠ "java/lang/invoke/MethodHandle" ∧ yX9_close.cls ≠ "java/lang/invoke/VarHandle" ∧ (parseMethodDescriptor yX9_close.desc).map (fun d => d.parameters.length) = some 0 := by decide +kernel
theorem mdX8_123 : MD RX8 123 yX9_close cwX9_close 0 := ⟨(tb3 (List.mem_of_getElem? (i := 165) rfl) rfl), (tb3 (List.mem_of_getElem? (i := 166) rfl) rfl), (tb3 (List.mem_of_getElem? (i := 167) rfl) rfl), (tb1 (List.mem_of_getElem? (i := 9) rfl) rfl), cmX9_close, pdX9_close⟩
abbrev cwX8_readToldName : Cond := .code yX8_readToldName cX8_readToldName 5 (some .boolean)
theorem cmX8_readToldName : cwX8_readToldName ∈ BIG := (tb3 (List.mem_of_getElem? (i := 180) rfl) rfl)
theorem pdX8_readToldName : yX8_readToldName.cls ≠ "java/lang/invoke/MethodHandle" ∧ yX8_readToldName.cls ≠ "java/lang/invoke/VarHandle" ∧ (parseMethodDescriptor yX8_readToldName.desc).map (fun d => d.parameters.length) = some 3 := by decide +kernel
theorem mdX8_129 : MD RX8 129 yX8_readToldName cwX8_readToldName 3 := ⟨(tb3 (List.mem_of_getElem? (i := 177) rfl) rfl), (tb3 (List.mem_of_getElem? (i := 179) rfl) rfl), (tbp (n := 9) (List.mem_append_left _ (List.mem_of_getElem? (i := 14) rfl)) rfl), (tb1 (List.mem_of_getElem? (i := 2) rfl) rfl), cmX8_readToldName, pdX8_readToldName⟩
theorem mdX8_136 : MD RX8 136 yX9_find cwX9_find 1 := ⟨(tb3 (List.mem_of_getElem? (i := 148) rfl) rfl), (tb3 (List.mem_of_getElem? (i := 149) rfl) rfl), (tb3 (List.mem_of_getElem? (i := 150) rfl) rfl), (tb1 (List.mem_of_getElem? (i := 9) rfl) rfl), cmX9_find, pdX9_find⟩
theorem mdX8_143 : MD RX8 143 yX9_cell cwX9_cell 2 := ⟨(tb3 (List.mem_of_getElem? (i := 189) rfl) rfl), (tb3 (List.mem_of_getElem? (i := 9) rfl) rfl), (tb3 (List.mem_of_getElem? (i := 10) rfl) rfl), (tb1 (List.mem_of_getElem? (i := 9) rfl) rfl), cmX9_cell, pdX9_cell⟩
abbrev cwX9_isFull : Cond := .code yX9_isFull cX9_isFull 1 (some .boolean)
theorem cmX9_isFull : cwX9_isFull ∈ BIG := (tb3 (List.mem_of_getElem? (i := 138) rfl) rfl)
theorem pdX9_isFull : yX9_isFull.cls ≠ "java/lang/invoke/MethodHandle" ∧ yX9_isFull.cls ≠ "java/lang/invoke/VarHandle" ∧ (parseMethodDescriptor yX9_isFull.desc).map (fun d => d.parameters.length) = some 0 := by decide +kernel
theorem mdX8_147 : MD RX8 147 yX9_isFull cwX9_isFull 0 := ⟨(tb3 (List.mem_of_getElem? (i := 135) rfl) rfl), (tb3 (List.mem_of_getElem? (i := 136) rfl) rfl), (tb3 (List.mem_of_getElem? (i := 137) rfl) rfl), (tb1 (List.mem_of_getElem? (i := 9) rfl) rfl), cmX9_isFull, pdX9_isFull⟩
abbrev cwX9_set : Cond := .code yX9_set cX9_set 4 none
theorem cmX9_set : cwX9_set ∈ BIG := (tb3 (List.mem_of_getElem? (i := 156) rfl) rfl)
theorem pdX9_set : yX9_set.cls ≠ "java/lang/invoke/MethodHandle" ∧ yX9_set.cls ≠ "java/lang/invoke/VarHandle" ∧ (parseMethodDescriptor yX9_set.desc).map (fun d => d.parameters.length) = some 2 := by decide +kernel
theorem mdX8_150 : MD RX8 150 yX9_set cwX9_set 2 := ⟨(tb3 (List.mem_of_getElem? (i := 153) rfl) rfl), (tb3 (List.mem_of_getElem? (i := 154) rfl) rfl), (tb3 (List.mem_of_getElem? (i := 155) rfl) rfl), (tb1 (List.mem_of_getElem? (i := 9) rfl) rfl), cmX9_set, pdX9_set⟩
abbrev cwX8_isNumber : Cond := .code yX8_isNumber cX8_isNumber 3 (some .boolean)
theorem cmX8_isNumber : cwX8_isNumber ∈ BIG := (tb3 (List.mem_of_getElem? (i := 164) rfl) rfl)
theorem pdX8_isNumber : yX8_isNumber.cls ≠ "java/lang/invoke/MethodHandle" ∧ yX8_isNumber.cls ≠ "java/lang/invoke/VarHandle" ∧ (parseMethodDescriptor yX8_isNumber.desc).map (fun d => d.parameters.length) = some 2 := by decide +kernel
theorem mdX8_154 : MD RX8 154 yX8_isNumber cwX8_isNumber 2 := ⟨(tb3 (List.mem_of_getElem? (i := 161) rfl) rfl), (tb3 (List.mem_of_getElem? (i := 163) rfl) rfl), (tbp (n := 9) (List.mem_append_left _ (List.mem_of_getElem? (i := 11) rfl)) rfl), (tb1 (List.mem_of_getElem? (i := 2) rfl) rfl), cmX8_isNumber, pdX8_isNumber⟩
theorem mdX8_172 : MD RX8 172 yX3_isTold cwX3_isTold 1 := ⟨(tb3 (List.mem_of_getElem? (i := 203) rfl) rfl), (tb3 (List.mem_of_getElem? (i := 204) rfl) rfl), (tb3 (List.mem_of_getElem? (i := 205) rfl) rfl), (tb1 (List.mem_of_getElem? (i := 10) rfl) rfl), cmX3_isTold, pdX3_isTold⟩
abbrev cwX8_unload : Cond := .code yX8_unload cX8_unload 5 none
theorem cmX8_unload : cwX8_unload ∈ BIG := (tb3 (List.mem_of_getElem? (i := 210) rfl) rfl)
theorem pdX8_unload : yX8_unload.cls ≠ "java/lang/invoke/MethodHandle" ∧ yX8_unload.cls ≠ "java/lang/invoke/VarHandle" ∧ (parseMethodDescriptor yX8_unload.desc).map (fun d => d.parameters.length) = some 2 := by decide +kernel
theorem mdX8_188 : MD RX8 188 yX8_unload cwX8_unload 2 := ⟨(tb3 (List.mem_of_getElem? (i := 207) rfl) rfl), (tb3 (List.mem_of_getElem? (i := 209) rfl) rfl), (tbp (n := 9) (List.mem_append_right _ (List.mem_append_left _ (List.mem_of_getElem? (i := 4) rfl))) rfl), (tb1 (List.mem_of_getElem? (i := 2) rfl) rfl), cmX8_unload, pdX8_unload⟩
abbrev cwX3_close : Cond := .code yX3_close cX3_close 3 none
theorem cmX3_close : cwX3_close ∈ BIG := (tb3 (List.mem_of_getElem? (i := 221) rfl) rfl)
theorem pdX3_close : yX3_close.cls ≠ "java/lang/invoke/MethodHandle" ∧ yX3_close.cls ≠ "java/lang/invoke/VarHandle" ∧ (parseMethodDescriptor yX3_close.desc).map (fun d => d.parameters.length) = some 2 := by decide +kernel
theorem mdX8_192 : MD RX8 192 yX3_close cwX3_close 2 := ⟨(tb3 (List.mem_of_getElem? (i := 218) rfl) rfl), (tb3 (List.mem_of_getElem? (i := 219) rfl) rfl), (tb3 (List.mem_of_getElem? (i := 220) rfl) rfl), (tb1 (List.mem_of_getElem? (i := 10) rfl) rfl), cmX3_close, pdX3_close⟩
abbrev cwX8_takeOperand : Cond := .code yX8_takeOperand cX8_takeOperand 3 (some .boolean)
theorem cmX8_takeOperand : cwX8_takeOperand ∈ BIG := (tb3 (List.mem_of_getElem? (i := 225) rfl) rfl)
theorem pdX8_takeOperand : yX8_takeOperand.cls ≠ "java/lang/invoke/MethodHandle" ∧ yX8_takeOperand.cls ≠ "java/lang/invoke/VarHandle" ∧ (parseMethodDescriptor yX8_takeOperand.desc).map (fun d => d.parameters.length) = some 1 := by decide +kernel
theorem mdX8_194 : MD RX8 194 yX8_takeOperand cwX8_takeOperand 1 := ⟨(tb3 (List.mem_of_getElem? (i := 222) rfl) rfl), (tb3 (List.mem_of_getElem? (i := 224) rfl) rfl), (tbp (n := 9) (List.mem_append_right _ (List.mem_append_left _ (List.mem_of_getElem? (i := 5) rfl))) rfl), (tb1 (List.mem_of_getElem? (i := 2) rfl) rfl), cmX8_takeOperand, pdX8_takeOperand⟩
abbrev cwX8_takeSign : Cond := .code yX8_takeSign cX8_takeSign 5 (some .boolean)
theorem cmX8_takeSign : cwX8_takeSign ∈ BIG := (tb4 (List.mem_of_getElem? (i := 1) rfl) rfl)
theorem pdX8_takeSign : yX8_takeSign.cls ≠ "java/lang/invoke/MethodHandle" ∧ yX8_takeSign.cls ≠ "java/lang/invoke/VarHandle" ∧ (parseMethodDescriptor yX8_takeSign.desc).map (fun d => d.parameters.length) = some 1 := by decide +kernel
theorem mdX8_197 : MD RX8 197 yX8_takeSign cwX8_takeSign 1 := ⟨(tb3 (List.mem_of_getElem? (i := 238) rfl) rfl), (tb4 (List.mem_of_getElem? (i := 0) rfl) rfl), (tbp (n := 9) (List.mem_append_right _ (List.mem_append_left _ (List.mem_of_getElem? (i := 9) rfl))) rfl), (tb1 (List.mem_of_getElem? (i := 2) rfl) rfl), cmX8_takeSign, pdX8_takeSign⟩
abbrev cwX8_takeOpening : Cond := .code yX8_takeOpening cX8_takeOpening 1 (some .boolean)
theorem cmX8_takeOpening : cwX8_takeOpening ∈ BIG := (tb3 (List.mem_of_getElem? (i := 229) rfl) rfl)
theorem pdX8_takeOpening : yX8_takeOpening.cls ≠ "java/lang/invoke/MethodHandle" ∧ yX8_takeOpening.cls ≠ "java/lang/invoke/VarHandle" ∧ (parseMethodDescriptor yX8_takeOpening.desc).map (fun d => d.parameters.length) = some 0 := by decide +kernel
theorem mdX8_200 : MD RX8 200 yX8_takeOpening cwX8_takeOpening 0 := ⟨(tb3 (List.mem_of_getElem? (i := 226) rfl) rfl), (tb3 (List.mem_of_getElem? (i := 228) rfl) rfl), (tbp (n := 9) (List.mem_append_right _ (List.mem_append_left _ (List.mem_of_getElem? (i := 6) rfl))) rfl), (tb1 (List.mem_of_getElem? (i := 2) rfl) rfl), cmX8_takeOpening, pdX8_takeOpening⟩
abbrev cwX8_countKnot : Cond := .code yX8_countKnot cX8_countKnot 2 (some .boolean)
theorem cmX8_countKnot : cwX8_countKnot ∈ BIG := (tb3 (List.mem_of_getElem? (i := 237) rfl) rfl)
theorem pdX8_countKnot : yX8_countKnot.cls ≠ "java/lang/invoke/MethodHandle" ∧ yX8_countKnot.cls ≠ "java/lang/invoke/VarHandle" ∧ (parseMethodDescriptor yX8_countKnot.desc).map (fun d => d.parameters.length) = some 1 := by decide +kernel
theorem mdX8_203 : MD RX8 203 yX8_countKnot cwX8_countKnot 1 := ⟨(tb3 (List.mem_of_getElem? (i := 234) rfl) rfl), (tb3 (List.mem_of_getElem? (i := 236) rfl) rfl), (tbp (n := 9) (List.mem_append_right _ (List.mem_append_left _ (List.mem_of_getElem? (i := 8) rfl))) rfl), (tb1 (List.mem_of_getElem? (i := 2) rfl) rfl), cmX8_countKnot, pdX8_countKnot⟩
abbrev cwX8_await : Cond := .code yX8_await cX8_await 2 (some .boolean)
theorem cmX8_await : cwX8_await ∈ BIG := (tb3 (List.mem_of_getElem? (i := 233) rfl) rfl)
theorem pdX8_await : yX8_await.cls ≠ "java/lang/invoke/MethodHandle" ∧ yX8_await.cls ≠ "java/lang/invoke/VarHandle" ∧ (parseMethodDescriptor yX8_await.desc).map (fun d => d.parameters.length) = some 1 := by decide +kernel
theorem mdX8_206 : MD RX8 206 yX8_await cwX8_await 1 := ⟨(tb3 (List.mem_of_getElem? (i := 230) rfl) rfl), (tb3 (List.mem_of_getElem? (i := 232) rfl) rfl), (tbp (n := 9) (List.mem_append_right _ (List.mem_append_left _ (List.mem_of_getElem? (i := 7) rfl))) rfl), (tb1 (List.mem_of_getElem? (i := 2) rfl) rfl), cmX8_await, pdX8_await⟩
abbrev cwX3_put : Cond := .code yX3_put cX3_put 3 none
theorem cmX3_put : cwX3_put ∈ BIG := (tb3 (List.mem_of_getElem? (i := 217) rfl) rfl)
theorem pdX3_put : yX3_put.cls ≠ "java/lang/invoke/MethodHandle" ∧ yX3_put.cls ≠ "java/lang/invoke/VarHandle" ∧ (parseMethodDescriptor yX3_put.desc).map (fun d => d.parameters.length) = some 2 := by decide +kernel
theorem mdX8_209 : MD RX8 209 yX3_put cwX3_put 2 := ⟨(tb3 (List.mem_of_getElem? (i := 214) rfl) rfl), (tb3 (List.mem_of_getElem? (i := 215) rfl) rfl), (tb3 (List.mem_of_getElem? (i := 216) rfl) rfl), (tb1 (List.mem_of_getElem? (i := 10) rfl) rfl), cmX3_put, pdX3_put⟩
abbrev cwX8_binding : Cond := .code yX8_binding cX8_binding 1 (some .int)
theorem cmX8_binding : cwX8_binding ∈ BIG := (tb3 (List.mem_of_getElem? (i := 213) rfl) rfl)
theorem pdX8_binding : yX8_binding.cls ≠ "java/lang/invoke/MethodHandle" ∧ yX8_binding.cls ≠ "java/lang/invoke/VarHandle" ∧ (parseMethodDescriptor yX8_binding.desc).map (fun d => d.parameters.length) = some 1 := by decide +kernel
theorem msX8_212 : MS RX8 212 yX8_binding cwX8_binding 1 := ⟨(tb3 (List.mem_of_getElem? (i := 211) rfl) rfl), (tb3 (List.mem_of_getElem? (i := 212) rfl) rfl), (tb1 (List.mem_of_getElem? (i := 2) rfl) rfl), cmX8_binding, pdX8_binding⟩
theorem mdX9_22 : MD RX9 22 yX9_cell cwX9_cell 2 := ⟨(tb3 (List.mem_of_getElem? (i := 152) rfl) rfl), (tb3 (List.mem_of_getElem? (i := 9) rfl) rfl), (tb3 (List.mem_of_getElem? (i := 10) rfl) rfl), (tb1 (List.mem_of_getElem? (i := 9) rfl) rfl), cmX9_cell, pdX9_cell⟩
theorem kcJ6_265 : Cond.constant RJ6 265 (1431655765) ∈ BIG := (tb5 (List.mem_of_getElem? (i := 124) rfl) rfl)
theorem kcJ6_266 : Cond.constant RJ6 266 (858993459) ∈ BIG := (tb5 (List.mem_of_getElem? (i := 125) rfl) rfl)
theorem kcJ6_267 : Cond.constant RJ6 267 (252645135) ∈ BIG := (tb5 (List.mem_of_getElem? (i := 126) rfl) rfl)
theorem kcX0_95 : Cond.constantLong RX0 95 (1103515245) ∈ BIG := (tb4 (List.mem_of_getElem? (i := 173) rfl) rfl)
theorem kcX0_97 : Cond.constantLong RX0 97 (12345) ∈ BIG := (tb4 (List.mem_of_getElem? (i := 174) rfl) rfl)
theorem kcX0_99 : Cond.constantLong RX0 99 (2147483647) ∈ BIG := (tb4 (List.mem_of_getElem? (i := 175) rfl) rfl)
theorem kcX0_101 : Cond.constantLong RX0 101 (65536) ∈ BIG := (tb4 (List.mem_of_getElem? (i := 176) rfl) rfl)
theorem kcX10_78 : Cond.constant RX10 78 (1000000) ∈ BIG := (tb3 (List.mem_of_getElem? (i := 116) rfl) rfl)
theorem kcX11_182 : Cond.constantLong RX11 182 (-9223372036854775808) ∈ BIG := (tb4 (List.mem_of_getElem? (i := 62) rfl) rfl)
theorem kcX11_257 : Cond.constantLong RX11 257 (-1) ∈ BIG := (tb4 (List.mem_of_getElem? (i := 239) rfl) rfl)
theorem kcX11_294 : Cond.constantLong RX11 294 (100) ∈ BIG := (tb5 (List.mem_of_getElem? (i := 63) rfl) rfl)
theorem kcX12_192 : Cond.constant RX12 192 (99999) ∈ BIG := (tb7 (List.mem_of_getElem? (i := 35) rfl) rfl)
theorem kcX12_333 : Cond.constantLong RX12 333 (1000000000000) ∈ BIG := (tb7 (List.mem_of_getElem? (i := 191) rfl) rfl)
theorem kcX12_335 : Cond.constantLong RX12 335 (-1000000000000) ∈ BIG := (tb7 (List.mem_of_getElem? (i := 192) rfl) rfl)
theorem kcX12_378 : Cond.constant RX12 378 (1103515245) ∈ BIG := (tb8 (List.mem_of_getElem? (i := 33) rfl) rfl)
theorem kcX12_381 : Cond.constant RX12 381 (2147483647) ∈ BIG := (tb8 (List.mem_of_getElem? (i := 34) rfl) rfl)
theorem kcX12_424 : Cond.constantLong RX12 424 (-9223372036854775808) ∈ BIG := (tb7 (List.mem_of_getElem? (i := 197) rfl) rfl)
theorem kcX12_478 : Cond.constantLong RX12 478 (-1) ∈ BIG := (tb8 (List.mem_of_getElem? (i := 133) rfl) rfl)
theorem kcX12_480 : Cond.constantLong RX12 480 (100) ∈ BIG := (tb8 (List.mem_of_getElem? (i := 134) rfl) rfl)
theorem kcX3_42 : Cond.constantLong RX3 42 (-9223372036854775808) ∈ BIG := (tb4 (List.mem_of_getElem? (i := 52) rfl) rfl)
theorem kcX3_50 : Cond.constantLong RX3 50 (1000000000000) ∈ BIG := (tb4 (List.mem_of_getElem? (i := 56) rfl) rfl)
theorem kcX3_52 : Cond.constantLong RX3 52 (-1000000000000) ∈ BIG := (tb4 (List.mem_of_getElem? (i := 57) rfl) rfl)
theorem kcX5_111 : Cond.constantLong RX5 111 (-9223372036854775808) ∈ BIG := (tb4 (List.mem_of_getElem? (i := 147) rfl) rfl)
theorem kcX6_77 : Cond.constantLong RX6 77 (-9223372036854775808) ∈ BIG := (tb4 (List.mem_of_getElem? (i := 45) rfl) rfl)
theorem kcX8_168 : Cond.constant RX8 168 (99999) ∈ BIG := (tb3 (List.mem_of_getElem? (i := 198) rfl) rfl)
