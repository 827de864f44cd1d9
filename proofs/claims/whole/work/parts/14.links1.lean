theorem ts1 {w : Cond} (i : Nat) (h : tables_1_1[i]? = some w) (g : goodWord w = true) : w ∈ tb := List.mem_filter.mpr ⟨List.mem_append.mpr (Or.inr (by
  have := List.mem_of_getElem? h
  unfold tables_1
  simp only [List.mem_append]
  simp [this])), g⟩
theorem ts2 {w : Cond} (i : Nat) (h : tables_1_2[i]? = some w) (g : goodWord w = true) : w ∈ tb := List.mem_filter.mpr ⟨List.mem_append.mpr (Or.inr (by
  have := List.mem_of_getElem? h
  unfold tables_1
  simp only [List.mem_append]
  simp [this])), g⟩
theorem ts3 {w : Cond} (i : Nat) (h : tables_1_3[i]? = some w) (g : goodWord w = true) : w ∈ tb := List.mem_filter.mpr ⟨List.mem_append.mpr (Or.inr (by
  have := List.mem_of_getElem? h
  unfold tables_1
  simp only [List.mem_append]
  simp [this])), g⟩
theorem ts4 {w : Cond} (i : Nat) (h : tables_1_4[i]? = some w) (g : goodWord w = true) : w ∈ tb := List.mem_filter.mpr ⟨List.mem_append.mpr (Or.inr (by
  have := List.mem_of_getElem? h
  unfold tables_1
  simp only [List.mem_append]
  simp [this])), g⟩
theorem ts5 {w : Cond} (i : Nat) (h : tables_1_5[i]? = some w) (g : goodWord w = true) : w ∈ tb := List.mem_filter.mpr ⟨List.mem_append.mpr (Or.inr (by
  have := List.mem_of_getElem? h
  unfold tables_1
  simp only [List.mem_append]
  simp [this])), g⟩
theorem ts6 {w : Cond} (i : Nat) (h : tables_1_6[i]? = some w) (g : goodWord w = true) : w ∈ tb := List.mem_filter.mpr ⟨List.mem_append.mpr (Or.inr (by
  have := List.mem_of_getElem? h
  unfold tables_1
  simp only [List.mem_append]
  simp [this])), g⟩
theorem ts7 {w : Cond} (i : Nat) (h : tables_1_7[i]? = some w) (g : goodWord w = true) : w ∈ tb := List.mem_filter.mpr ⟨List.mem_append.mpr (Or.inr (by
  have := List.mem_of_getElem? h
  unfold tables_1
  simp only [List.mem_append]
  simp [this])), g⟩
theorem ts8 {w : Cond} (i : Nat) (h : tables_1_8[i]? = some w) (g : goodWord w = true) : w ∈ tb := List.mem_filter.mpr ⟨List.mem_append.mpr (Or.inr (by
  have := List.mem_of_getElem? h
  unfold tables_1
  simp only [List.mem_append]
  simp [this])), g⟩
theorem ts0 {w : Cond} (i : Nat) (h : (k2_sels lw_privs)[i]? = some w) (g : goodWord w = true) : w ∈ tb := List.mem_filter.mpr ⟨List.mem_append.mpr (Or.inl (List.mem_of_getElem? h)), g⟩
set_option maxRecDepth 200000 in
theorem iX0_0 : u_lay RX0 TX0 0 ∈ tb := ts2 184 rfl rfl
set_option maxRecDepth 200000 in
theorem iX0_1 : u_lay RX0 TX0 1 ∈ tb := ts2 186 rfl rfl
set_option maxRecDepth 200000 in
theorem iX0_2 : u_lay RX0 TX0 2 ∈ tb := ts2 188 rfl rfl
set_option maxRecDepth 200000 in
theorem iX0_3 : u_lay RX0 TX0 3 ∈ tb := ts2 190 rfl rfl
set_option maxRecDepth 200000 in
theorem iX0_4 : u_lay RX0 TX0 4 ∈ tb := ts2 192 rfl rfl
set_option maxRecDepth 200000 in
theorem iX0_5 : u_lay RX0 TX0 5 ∈ tb := ts2 194 rfl rfl
set_option maxRecDepth 200000 in
theorem iX0_6 : u_lay RX0 TX0 6 ∈ tb := ts2 196 rfl rfl
theorem iX0 : ∀ w ∈ u_ws RX0 TX0 7, w ∈ tb := by
  intro w hw
  have hw : w ∈ [u_lay RX0 TX0 0, u_lay RX0 TX0 1, u_lay RX0 TX0 2, u_lay RX0 TX0 3, u_lay RX0 TX0 4, u_lay RX0 TX0 5, u_lay RX0 TX0 6] := hw
  simp only [List.mem_cons, List.not_mem_nil, or_false] at hw
  rcases hw with rfl | rfl | rfl | rfl | rfl | rfl | rfl
  · exact iX0_0
  · exact iX0_1
  · exact iX0_2
  · exact iX0_3
  · exact iX0_4
  · exact iX0_5
  · exact iX0_6
set_option maxRecDepth 200000 in
theorem iX1_0 : u_lay RX1 TX1 0 ∈ tb := ts1 132 rfl rfl
set_option maxRecDepth 200000 in
theorem iX1_1 : u_lay RX1 TX1 1 ∈ tb := ts1 134 rfl rfl
set_option maxRecDepth 200000 in
theorem iX1_2 : u_lay RX1 TX1 2 ∈ tb := ts1 136 rfl rfl
set_option maxRecDepth 200000 in
theorem iX1_3 : u_lay RX1 TX1 3 ∈ tb := ts1 138 rfl rfl
theorem iX1 : ∀ w ∈ u_ws RX1 TX1 4, w ∈ tb := by
  intro w hw
  have hw : w ∈ [u_lay RX1 TX1 0, u_lay RX1 TX1 1, u_lay RX1 TX1 2, u_lay RX1 TX1 3] := hw
  simp only [List.mem_cons, List.not_mem_nil, or_false] at hw
  rcases hw with rfl | rfl | rfl | rfl
  · exact iX1_0
  · exact iX1_1
  · exact iX1_2
  · exact iX1_3
set_option maxRecDepth 200000 in
theorem iX2_0 : u_lay RX2 TX2 0 ∈ tb := ts2 120 rfl rfl
set_option maxRecDepth 200000 in
theorem iX2_1 : u_lay RX2 TX2 1 ∈ tb := ts2 122 rfl rfl
set_option maxRecDepth 200000 in
theorem iX2_2 : u_lay RX2 TX2 2 ∈ tb := ts2 124 rfl rfl
theorem iX2 : ∀ w ∈ u_ws RX2 TX2 3, w ∈ tb := by
  intro w hw
  have hw : w ∈ [u_lay RX2 TX2 0, u_lay RX2 TX2 1, u_lay RX2 TX2 2] := hw
  simp only [List.mem_cons, List.not_mem_nil, or_false] at hw
  rcases hw with rfl | rfl | rfl
  · exact iX2_0
  · exact iX2_1
  · exact iX2_2
set_option maxRecDepth 200000 in
theorem iX3_0 : u_lay RX3 TX3 0 ∈ tb := ts1 217 rfl rfl
set_option maxRecDepth 200000 in
theorem iX3_1 : u_lay RX3 TX3 1 ∈ tb := ts1 219 rfl rfl
set_option maxRecDepth 200000 in
theorem iX3_2 : u_lay RX3 TX3 2 ∈ tb := ts1 221 rfl rfl
set_option maxRecDepth 200000 in
theorem iX3_3 : u_lay RX3 TX3 3 ∈ tb := ts1 223 rfl rfl
set_option maxRecDepth 200000 in
theorem iX3_4 : u_lay RX3 TX3 4 ∈ tb := ts1 225 rfl rfl
set_option maxRecDepth 200000 in
theorem iX3_5 : u_lay RX3 TX3 5 ∈ tb := ts1 227 rfl rfl
set_option maxRecDepth 200000 in
theorem iX3_6 : u_lay RX3 TX3 6 ∈ tb := ts1 229 rfl rfl
set_option maxRecDepth 200000 in
theorem iX3_7 : u_lay RX3 TX3 7 ∈ tb := ts1 231 rfl rfl
set_option maxRecDepth 200000 in
theorem iX3_8 : u_lay RX3 TX3 8 ∈ tb := ts1 233 rfl rfl
set_option maxRecDepth 200000 in
theorem iX3_9 : u_lay RX3 TX3 9 ∈ tb := ts1 235 rfl rfl
set_option maxRecDepth 200000 in
theorem iX3_10 : u_lay RX3 TX3 10 ∈ tb := ts1 237 rfl rfl
set_option maxRecDepth 200000 in
theorem iX3_11 : u_lay RX3 TX3 11 ∈ tb := ts1 239 rfl rfl
set_option maxRecDepth 200000 in
theorem iX3_12 : u_lay RX3 TX3 12 ∈ tb := ts2 1 rfl rfl
set_option maxRecDepth 200000 in
theorem iX3_13 : u_lay RX3 TX3 13 ∈ tb := ts2 3 rfl rfl
set_option maxRecDepth 200000 in
theorem iX3_14 : u_lay RX3 TX3 14 ∈ tb := ts2 5 rfl rfl
set_option maxRecDepth 200000 in
theorem iX3_15 : u_lay RX3 TX3 15 ∈ tb := ts2 7 rfl rfl
theorem iX3 : ∀ w ∈ u_ws RX3 TX3 16, w ∈ tb := by
  intro w hw
  have hw : w ∈ [u_lay RX3 TX3 0, u_lay RX3 TX3 1, u_lay RX3 TX3 2, u_lay RX3 TX3 3, u_lay RX3 TX3 4, u_lay RX3 TX3 5, u_lay RX3 TX3 6, u_lay RX3 TX3 7, u_lay RX3 TX3 8, u_lay RX3 TX3 9, u_lay RX3 TX3 10, u_lay RX3 TX3 11, u_lay RX3 TX3 12, u_lay RX3 TX3 13, u_lay RX3 TX3 14, u_lay RX3 TX3 15] := hw
  simp only [List.mem_cons, List.not_mem_nil, or_false] at hw
  rcases hw with rfl | rfl | rfl | rfl | rfl | rfl | rfl | rfl | rfl | rfl | rfl | rfl | rfl | rfl | rfl | rfl
  · exact iX3_0
  · exact iX3_1
  · exact iX3_2
  · exact iX3_3
  · exact iX3_4
  · exact iX3_5
  · exact iX3_6
  · exact iX3_7
  · exact iX3_8
  · exact iX3_9
  · exact iX3_10
  · exact iX3_11
  · exact iX3_12
  · exact iX3_13
  · exact iX3_14
  · exact iX3_15
set_option maxRecDepth 200000 in
theorem iX4_0 : u_lay RX4 TX4 0 ∈ tb := ts2 22 rfl rfl
set_option maxRecDepth 200000 in
theorem iX4_1 : u_lay RX4 TX4 1 ∈ tb := ts2 24 rfl rfl
set_option maxRecDepth 200000 in
theorem iX4_2 : u_lay RX4 TX4 2 ∈ tb := ts2 26 rfl rfl
set_option maxRecDepth 200000 in
theorem iX4_3 : u_lay RX4 TX4 3 ∈ tb := ts2 28 rfl rfl
set_option maxRecDepth 200000 in
theorem iX4_4 : u_lay RX4 TX4 4 ∈ tb := ts2 30 rfl rfl
set_option maxRecDepth 200000 in
theorem iX4_5 : u_lay RX4 TX4 5 ∈ tb := ts2 32 rfl rfl
set_option maxRecDepth 200000 in
theorem iX4_6 : u_lay RX4 TX4 6 ∈ tb := ts2 34 rfl rfl
set_option maxRecDepth 200000 in
theorem iX4_7 : u_lay RX4 TX4 7 ∈ tb := ts2 36 rfl rfl
set_option maxRecDepth 200000 in
theorem iX4_8 : u_lay RX4 TX4 8 ∈ tb := ts2 38 rfl rfl
set_option maxRecDepth 200000 in
theorem iX4_9 : u_lay RX4 TX4 9 ∈ tb := ts2 40 rfl rfl
theorem iX4 : ∀ w ∈ u_ws RX4 TX4 10, w ∈ tb := by
  intro w hw
  have hw : w ∈ [u_lay RX4 TX4 0, u_lay RX4 TX4 1, u_lay RX4 TX4 2, u_lay RX4 TX4 3, u_lay RX4 TX4 4, u_lay RX4 TX4 5, u_lay RX4 TX4 6, u_lay RX4 TX4 7, u_lay RX4 TX4 8, u_lay RX4 TX4 9] := hw
  simp only [List.mem_cons, List.not_mem_nil, or_false] at hw
  rcases hw with rfl | rfl | rfl | rfl | rfl | rfl | rfl | rfl | rfl | rfl
  · exact iX4_0
  · exact iX4_1
  · exact iX4_2
  · exact iX4_3
  · exact iX4_4
  · exact iX4_5
  · exact iX4_6
  · exact iX4_7
  · exact iX4_8
  · exact iX4_9
set_option maxRecDepth 200000 in
theorem iX5_0 : u_lay RX5 TX5 0 ∈ tb := ts2 94 rfl rfl
set_option maxRecDepth 200000 in
theorem iX5_1 : u_lay RX5 TX5 1 ∈ tb := ts2 96 rfl rfl
set_option maxRecDepth 200000 in
theorem iX5_2 : u_lay RX5 TX5 2 ∈ tb := ts2 98 rfl rfl
set_option maxRecDepth 200000 in
theorem iX5_3 : u_lay RX5 TX5 3 ∈ tb := ts2 100 rfl rfl
set_option maxRecDepth 200000 in
theorem iX5_4 : u_lay RX5 TX5 4 ∈ tb := ts2 102 rfl rfl
set_option maxRecDepth 200000 in
theorem iX5_5 : u_lay RX5 TX5 5 ∈ tb := ts2 104 rfl rfl
theorem iX5 : ∀ w ∈ u_ws RX5 TX5 6, w ∈ tb := by
  intro w hw
  have hw : w ∈ [u_lay RX5 TX5 0, u_lay RX5 TX5 1, u_lay RX5 TX5 2, u_lay RX5 TX5 3, u_lay RX5 TX5 4, u_lay RX5 TX5 5] := hw
  simp only [List.mem_cons, List.not_mem_nil, or_false] at hw
  rcases hw with rfl | rfl | rfl | rfl | rfl | rfl
  · exact iX5_0
  · exact iX5_1
  · exact iX5_2
  · exact iX5_3
  · exact iX5_4
  · exact iX5_5
set_option maxRecDepth 200000 in
theorem iX6_0 : u_lay RX6 TX6 0 ∈ tb := ts1 101 rfl rfl
set_option maxRecDepth 200000 in
theorem iX6_1 : u_lay RX6 TX6 1 ∈ tb := ts1 103 rfl rfl
set_option maxRecDepth 200000 in
theorem iX6_2 : u_lay RX6 TX6 2 ∈ tb := ts1 105 rfl rfl
set_option maxRecDepth 200000 in
theorem iX6_3 : u_lay RX6 TX6 3 ∈ tb := ts1 107 rfl rfl
set_option maxRecDepth 200000 in
theorem iX6_4 : u_lay RX6 TX6 4 ∈ tb := ts1 109 rfl rfl
theorem iX6 : ∀ w ∈ u_ws RX6 TX6 5, w ∈ tb := by
  intro w hw
  have hw : w ∈ [u_lay RX6 TX6 0, u_lay RX6 TX6 1, u_lay RX6 TX6 2, u_lay RX6 TX6 3, u_lay RX6 TX6 4] := hw
  simp only [List.mem_cons, List.not_mem_nil, or_false] at hw
  rcases hw with rfl | rfl | rfl | rfl | rfl
  · exact iX6_0
  · exact iX6_1
  · exact iX6_2
  · exact iX6_3
  · exact iX6_4
set_option maxRecDepth 200000 in
theorem iX7_0 : u_lay RX7 TX7 0 ∈ tb := ts2 59 rfl rfl
set_option maxRecDepth 200000 in
theorem iX7_1 : u_lay RX7 TX7 1 ∈ tb := ts2 61 rfl rfl
set_option maxRecDepth 200000 in
theorem iX7_2 : u_lay RX7 TX7 2 ∈ tb := ts2 63 rfl rfl
set_option maxRecDepth 200000 in
theorem iX7_3 : u_lay RX7 TX7 3 ∈ tb := ts2 65 rfl rfl
set_option maxRecDepth 200000 in
theorem iX7_4 : u_lay RX7 TX7 4 ∈ tb := ts2 67 rfl rfl
set_option maxRecDepth 200000 in
theorem iX7_5 : u_lay RX7 TX7 5 ∈ tb := ts2 69 rfl rfl
theorem iX7 : ∀ w ∈ u_ws RX7 TX7 6, w ∈ tb := by
  intro w hw
  have hw : w ∈ [u_lay RX7 TX7 0, u_lay RX7 TX7 1, u_lay RX7 TX7 2, u_lay RX7 TX7 3, u_lay RX7 TX7 4, u_lay RX7 TX7 5] := hw
  simp only [List.mem_cons, List.not_mem_nil, or_false] at hw
  rcases hw with rfl | rfl | rfl | rfl | rfl | rfl
  · exact iX7_0
  · exact iX7_1
  · exact iX7_2
  · exact iX7_3
  · exact iX7_4
  · exact iX7_5
set_option maxRecDepth 200000 in
theorem iX8_0 : u_lay RX8 TX8 0 ∈ tb := ts2 148 rfl rfl
set_option maxRecDepth 200000 in
theorem iX8_1 : u_lay RX8 TX8 1 ∈ tb := ts2 150 rfl rfl
set_option maxRecDepth 200000 in
theorem iX8_2 : u_lay RX8 TX8 2 ∈ tb := ts2 152 rfl rfl
set_option maxRecDepth 200000 in
theorem iX8_3 : u_lay RX8 TX8 3 ∈ tb := ts2 154 rfl rfl
set_option maxRecDepth 200000 in
theorem iX8_4 : u_lay RX8 TX8 4 ∈ tb := ts2 156 rfl rfl
set_option maxRecDepth 200000 in
theorem iX8_5 : u_lay RX8 TX8 5 ∈ tb := ts2 158 rfl rfl
set_option maxRecDepth 200000 in
theorem iX8_6 : u_lay RX8 TX8 6 ∈ tb := ts2 160 rfl rfl
set_option maxRecDepth 200000 in
theorem iX8_7 : u_lay RX8 TX8 7 ∈ tb := ts2 162 rfl rfl
set_option maxRecDepth 200000 in
theorem iX8_8 : u_lay RX8 TX8 8 ∈ tb := ts2 164 rfl rfl
set_option maxRecDepth 200000 in
theorem iX8_9 : u_lay RX8 TX8 9 ∈ tb := ts2 166 rfl rfl
theorem iX8 : ∀ w ∈ u_ws RX8 TX8 10, w ∈ tb := by
  intro w hw
  have hw : w ∈ [u_lay RX8 TX8 0, u_lay RX8 TX8 1, u_lay RX8 TX8 2, u_lay RX8 TX8 3, u_lay RX8 TX8 4, u_lay RX8 TX8 5, u_lay RX8 TX8 6, u_lay RX8 TX8 7, u_lay RX8 TX8 8, u_lay RX8 TX8 9] := hw
  simp only [List.mem_cons, List.not_mem_nil, or_false] at hw
  rcases hw with rfl | rfl | rfl | rfl | rfl | rfl | rfl | rfl | rfl | rfl
  · exact iX8_0
  · exact iX8_1
  · exact iX8_2
  · exact iX8_3
  · exact iX8_4
  · exact iX8_5
  · exact iX8_6
  · exact iX8_7
  · exact iX8_8
  · exact iX8_9
set_option maxRecDepth 200000 in
theorem iX9_0 : u_lay RX9 TX9 0 ∈ tb := ts2 233 rfl rfl
set_option maxRecDepth 200000 in
theorem iX9_1 : u_lay RX9 TX9 1 ∈ tb := ts2 235 rfl rfl
set_option maxRecDepth 200000 in
theorem iX9_2 : u_lay RX9 TX9 2 ∈ tb := ts2 237 rfl rfl
set_option maxRecDepth 200000 in
theorem iX9_3 : u_lay RX9 TX9 3 ∈ tb := ts2 239 rfl rfl
set_option maxRecDepth 200000 in
theorem iX9_4 : u_lay RX9 TX9 4 ∈ tb := ts3 1 rfl rfl
set_option maxRecDepth 200000 in
theorem iX9_5 : u_lay RX9 TX9 5 ∈ tb := ts3 3 rfl rfl
set_option maxRecDepth 200000 in
theorem iX9_6 : u_lay RX9 TX9 6 ∈ tb := ts3 5 rfl rfl
set_option maxRecDepth 200000 in
theorem iX9_7 : u_lay RX9 TX9 7 ∈ tb := ts3 7 rfl rfl
set_option maxRecDepth 200000 in
theorem iX9_8 : u_lay RX9 TX9 8 ∈ tb := ts3 9 rfl rfl
set_option maxRecDepth 200000 in
theorem iX9_9 : u_lay RX9 TX9 9 ∈ tb := ts3 11 rfl rfl
set_option maxRecDepth 200000 in
theorem iX9_10 : u_lay RX9 TX9 10 ∈ tb := ts3 13 rfl rfl
set_option maxRecDepth 200000 in
theorem iX9_11 : u_lay RX9 TX9 11 ∈ tb := ts3 15 rfl rfl
set_option maxRecDepth 200000 in
theorem iX9_12 : u_lay RX9 TX9 12 ∈ tb := ts3 17 rfl rfl
set_option maxRecDepth 200000 in
theorem iX9_13 : u_lay RX9 TX9 13 ∈ tb := ts3 19 rfl rfl
theorem iX9 : ∀ w ∈ u_ws RX9 TX9 14, w ∈ tb := by
  intro w hw
  have hw : w ∈ [u_lay RX9 TX9 0, u_lay RX9 TX9 1, u_lay RX9 TX9 2, u_lay RX9 TX9 3, u_lay RX9 TX9 4, u_lay RX9 TX9 5, u_lay RX9 TX9 6, u_lay RX9 TX9 7, u_lay RX9 TX9 8, u_lay RX9 TX9 9, u_lay RX9 TX9 10, u_lay RX9 TX9 11, u_lay RX9 TX9 12, u_lay RX9 TX9 13] := hw
  simp only [List.mem_cons, List.not_mem_nil, or_false] at hw
  rcases hw with rfl | rfl | rfl | rfl | rfl | rfl | rfl | rfl | rfl | rfl | rfl | rfl | rfl | rfl
  · exact iX9_0
  · exact iX9_1
  · exact iX9_2
  · exact iX9_3
  · exact iX9_4
  · exact iX9_5
  · exact iX9_6
  · exact iX9_7
  · exact iX9_8
  · exact iX9_9
  · exact iX9_10
  · exact iX9_11
  · exact iX9_12
  · exact iX9_13
set_option maxRecDepth 200000 in
theorem iX10_0 : u_lay RX10 TX10 0 ∈ tb := ts6 40 rfl rfl
set_option maxRecDepth 200000 in
theorem iX10_1 : u_lay RX10 TX10 1 ∈ tb := ts6 42 rfl rfl
set_option maxRecDepth 200000 in
theorem iX10_2 : u_lay RX10 TX10 2 ∈ tb := ts6 44 rfl rfl
set_option maxRecDepth 200000 in
theorem iX10_3 : u_lay RX10 TX10 3 ∈ tb := ts6 46 rfl rfl
set_option maxRecDepth 200000 in
theorem iX10_4 : u_lay RX10 TX10 4 ∈ tb := ts6 48 rfl rfl
set_option maxRecDepth 200000 in
theorem iX10_5 : u_lay RX10 TX10 5 ∈ tb := ts6 50 rfl rfl
set_option maxRecDepth 200000 in
theorem iX10_6 : u_lay RX10 TX10 6 ∈ tb := ts6 52 rfl rfl
set_option maxRecDepth 200000 in
theorem iX10_7 : u_lay RX10 TX10 7 ∈ tb := ts6 54 rfl rfl
set_option maxRecDepth 200000 in
theorem iX10_8 : u_lay RX10 TX10 8 ∈ tb := ts6 56 rfl rfl
set_option maxRecDepth 200000 in
theorem iX10_9 : u_lay RX10 TX10 9 ∈ tb := ts6 58 rfl rfl
set_option maxRecDepth 200000 in
theorem iX10_10 : u_lay RX10 TX10 10 ∈ tb := ts6 60 rfl rfl
set_option maxRecDepth 200000 in
theorem iX10_11 : u_lay RX10 TX10 11 ∈ tb := ts6 62 rfl rfl
set_option maxRecDepth 200000 in
theorem iX10_12 : u_lay RX10 TX10 12 ∈ tb := ts6 64 rfl rfl
set_option maxRecDepth 200000 in
theorem iX10_13 : u_lay RX10 TX10 13 ∈ tb := ts6 66 rfl rfl
set_option maxRecDepth 200000 in
theorem iX10_14 : u_lay RX10 TX10 14 ∈ tb := ts6 68 rfl rfl
set_option maxRecDepth 200000 in
theorem iX10_15 : u_lay RX10 TX10 15 ∈ tb := ts6 70 rfl rfl
set_option maxRecDepth 200000 in
theorem iX10_16 : u_lay RX10 TX10 16 ∈ tb := ts6 72 rfl rfl
set_option maxRecDepth 200000 in
theorem iX10_17 : u_lay RX10 TX10 17 ∈ tb := ts6 74 rfl rfl
set_option maxRecDepth 200000 in
theorem iX10_18 : u_lay RX10 TX10 18 ∈ tb := ts6 76 rfl rfl
set_option maxRecDepth 200000 in
theorem iX10_19 : u_lay RX10 TX10 19 ∈ tb := ts6 78 rfl rfl
set_option maxRecDepth 200000 in
theorem iX10_20 : u_lay RX10 TX10 20 ∈ tb := ts6 80 rfl rfl
set_option maxRecDepth 200000 in
theorem iX10_21 : u_lay RX10 TX10 21 ∈ tb := ts6 82 rfl rfl
set_option maxRecDepth 200000 in
theorem iX10_22 : u_lay RX10 TX10 22 ∈ tb := ts6 84 rfl rfl
set_option maxRecDepth 200000 in
theorem iX10_23 : u_lay RX10 TX10 23 ∈ tb := ts6 86 rfl rfl
set_option maxRecDepth 200000 in
theorem iX10_24 : u_lay RX10 TX10 24 ∈ tb := ts6 88 rfl rfl
set_option maxRecDepth 200000 in
theorem iX10_25 : u_lay RX10 TX10 25 ∈ tb := ts6 90 rfl rfl
set_option maxRecDepth 200000 in
theorem iX10_26 : u_lay RX10 TX10 26 ∈ tb := ts6 92 rfl rfl
set_option maxRecDepth 200000 in
theorem iX10_27 : u_lay RX10 TX10 27 ∈ tb := ts6 94 rfl rfl
set_option maxRecDepth 200000 in
theorem iX10_28 : u_lay RX10 TX10 28 ∈ tb := ts6 96 rfl rfl
set_option maxRecDepth 200000 in
theorem iX10_29 : u_lay RX10 TX10 29 ∈ tb := ts6 98 rfl rfl
set_option maxRecDepth 200000 in
theorem iX10_30 : u_lay RX10 TX10 30 ∈ tb := ts6 100 rfl rfl
set_option maxRecDepth 200000 in
theorem iX10_31 : u_lay RX10 TX10 31 ∈ tb := ts6 102 rfl rfl
set_option maxRecDepth 200000 in
theorem iX10_32 : u_lay RX10 TX10 32 ∈ tb := ts6 104 rfl rfl
set_option maxRecDepth 200000 in
theorem iX10_33 : u_lay RX10 TX10 33 ∈ tb := ts6 106 rfl rfl
set_option maxRecDepth 200000 in
theorem iX10_34 : u_lay RX10 TX10 34 ∈ tb := ts6 108 rfl rfl
set_option maxRecDepth 200000 in
theorem iX10_35 : u_lay RX10 TX10 35 ∈ tb := ts6 110 rfl rfl
set_option maxRecDepth 200000 in
theorem iX10_36 : u_lay RX10 TX10 36 ∈ tb := ts6 112 rfl rfl
set_option maxRecDepth 200000 in
theorem iX10_37 : u_lay RX10 TX10 37 ∈ tb := ts6 114 rfl rfl
set_option maxRecDepth 200000 in
theorem iX10_38 : u_lay RX10 TX10 38 ∈ tb := ts6 116 rfl rfl
set_option maxRecDepth 200000 in
theorem iX10_39 : u_lay RX10 TX10 39 ∈ tb := ts6 118 rfl rfl
set_option maxRecDepth 200000 in
theorem iX10_40 : u_lay RX10 TX10 40 ∈ tb := ts6 120 rfl rfl
set_option maxRecDepth 200000 in
theorem iX10_41 : u_lay RX10 TX10 41 ∈ tb := ts6 122 rfl rfl
set_option maxRecDepth 200000 in
theorem iX10_42 : u_lay RX10 TX10 42 ∈ tb := ts6 124 rfl rfl
set_option maxRecDepth 200000 in
theorem iX10_43 : u_lay RX10 TX10 43 ∈ tb := ts6 126 rfl rfl
set_option maxRecDepth 200000 in
theorem iX10_44 : u_lay RX10 TX10 44 ∈ tb := ts6 128 rfl rfl
set_option maxRecDepth 200000 in
theorem iX10_45 : u_lay RX10 TX10 45 ∈ tb := ts6 130 rfl rfl
set_option maxRecDepth 200000 in
theorem iX10_46 : u_lay RX10 TX10 46 ∈ tb := ts6 132 rfl rfl
set_option maxRecDepth 200000 in
theorem iX10_47 : u_lay RX10 TX10 47 ∈ tb := ts6 134 rfl rfl
set_option maxRecDepth 200000 in
theorem iX10_48 : u_lay RX10 TX10 48 ∈ tb := ts6 136 rfl rfl
set_option maxRecDepth 200000 in
theorem iX10_49 : u_lay RX10 TX10 49 ∈ tb := ts6 138 rfl rfl
set_option maxRecDepth 200000 in
theorem iX10_50 : u_lay RX10 TX10 50 ∈ tb := ts6 140 rfl rfl
set_option maxRecDepth 200000 in
theorem iX10_51 : u_lay RX10 TX10 51 ∈ tb := ts6 142 rfl rfl
set_option maxRecDepth 200000 in
theorem iX10_52 : u_lay RX10 TX10 52 ∈ tb := ts6 144 rfl rfl
set_option maxRecDepth 200000 in
theorem iX10_53 : u_lay RX10 TX10 53 ∈ tb := ts6 146 rfl rfl
set_option maxRecDepth 200000 in
theorem iX10_54 : u_lay RX10 TX10 54 ∈ tb := ts6 148 rfl rfl
set_option maxRecDepth 200000 in
theorem iX10_55 : u_lay RX10 TX10 55 ∈ tb := ts6 150 rfl rfl
set_option maxRecDepth 200000 in
theorem iX10_56 : u_lay RX10 TX10 56 ∈ tb := ts6 152 rfl rfl
set_option maxRecDepth 200000 in
theorem iX10_57 : u_lay RX10 TX10 57 ∈ tb := ts6 154 rfl rfl
set_option maxRecDepth 200000 in
theorem iX10_58 : u_lay RX10 TX10 58 ∈ tb := ts6 156 rfl rfl
set_option maxRecDepth 200000 in
theorem iX10_59 : u_lay RX10 TX10 59 ∈ tb := ts6 158 rfl rfl
set_option maxRecDepth 200000 in
theorem iX10_60 : u_lay RX10 TX10 60 ∈ tb := ts6 160 rfl rfl
set_option maxRecDepth 200000 in
theorem iX10_61 : u_lay RX10 TX10 61 ∈ tb := ts6 162 rfl rfl
set_option maxRecDepth 200000 in
theorem iX10_62 : u_lay RX10 TX10 62 ∈ tb := ts6 164 rfl rfl
set_option maxRecDepth 200000 in
theorem iX10_63 : u_lay RX10 TX10 63 ∈ tb := ts6 166 rfl rfl
set_option maxRecDepth 200000 in
theorem iX10_64 : u_lay RX10 TX10 64 ∈ tb := ts6 168 rfl rfl
set_option maxRecDepth 200000 in
theorem iX10_65 : u_lay RX10 TX10 65 ∈ tb := ts6 170 rfl rfl
set_option maxRecDepth 200000 in
theorem iX10_66 : u_lay RX10 TX10 66 ∈ tb := ts6 172 rfl rfl
set_option maxRecDepth 200000 in
theorem iX10_67 : u_lay RX10 TX10 67 ∈ tb := ts6 174 rfl rfl
set_option maxRecDepth 200000 in
theorem iX10_68 : u_lay RX10 TX10 68 ∈ tb := ts6 176 rfl rfl
set_option maxRecDepth 200000 in
theorem iX10_69 : u_lay RX10 TX10 69 ∈ tb := ts6 178 rfl rfl
set_option maxRecDepth 200000 in
theorem iX10_70 : u_lay RX10 TX10 70 ∈ tb := ts6 180 rfl rfl
set_option maxRecDepth 200000 in
theorem iX10_71 : u_lay RX10 TX10 71 ∈ tb := ts6 182 rfl rfl
theorem iX10 : ∀ w ∈ u_ws RX10 TX10 72, w ∈ tb := by
  intro w hw
  have hw : w ∈ [u_lay RX10 TX10 0, u_lay RX10 TX10 1, u_lay RX10 TX10 2, u_lay RX10 TX10 3, u_lay RX10 TX10 4, u_lay RX10 TX10 5, u_lay RX10 TX10 6, u_lay RX10 TX10 7, u_lay RX10 TX10 8, u_lay RX10 TX10 9, u_lay RX10 TX10 10, u_lay RX10 TX10 11, u_lay RX10 TX10 12, u_lay RX10 TX10 13, u_lay RX10 TX10 14, u_lay RX10 TX10 15, u_lay RX10 TX10 16, u_lay RX10 TX10 17, u_lay RX10 TX10 18, u_lay RX10 TX10 19, u_lay RX10 TX10 20, u_lay RX10 TX10 21, u_lay RX10 TX10 22, u_lay RX10 TX10 23, u_lay RX10 TX10 24, u_lay RX10 TX10 25, u_lay RX10 TX10 26, u_lay RX10 TX10 27, u_lay RX10 TX10 28, u_lay RX10 TX10 29, u_lay RX10 TX10 30, u_lay RX10 TX10 31, u_lay RX10 TX10 32, u_lay RX10 TX10 33, u_lay RX10 TX10 34, u_lay RX10 TX10 35, u_lay RX10 TX10 36, u_lay RX10 TX10 37, u_lay RX10 TX10 38, u_lay RX10 TX10 39, u_lay RX10 TX10 40, u_lay RX10 TX10 41, u_lay RX10 TX10 42, u_lay RX10 TX10 43, u_lay RX10 TX10 44, u_lay RX10 TX10 45, u_lay RX10 TX10 46, u_lay RX10 TX10 47, u_lay RX10 TX10 48, u_lay RX10 TX10 49, u_lay RX10 TX10 50, u_lay RX10 TX10 51, u_lay RX10 TX10 52, u_lay RX10 TX10 53, u_lay RX10 TX10 54, u_lay RX10 TX10 55, u_lay RX10 TX10 56, u_lay RX10 TX10 57, u_lay RX10 TX10 58, u_lay RX10 TX10 59, u_lay RX10 TX10 60, u_lay RX10 TX10 61, u_lay RX10 TX10 62, u_lay RX10 TX10 63, u_lay RX10 TX10 64, u_lay RX10 TX10 65, u_lay RX10 TX10 66, u_lay RX10 TX10 67, u_lay RX10 TX10 68, u_lay RX10 TX10 69, u_lay RX10 TX10 70, u_lay RX10 TX10 71] := hw
  simp only [List.mem_cons, List.not_mem_nil, or_false] at hw
  rcases hw with rfl | rfl | rfl | rfl | rfl | rfl | rfl | rfl | rfl | rfl | rfl | rfl | rfl | rfl | rfl | rfl | rfl | rfl | rfl | rfl | rfl | rfl | rfl | rfl | rfl | rfl | rfl | rfl | rfl | rfl | rfl | rfl | rfl | rfl | rfl | rfl | rfl | rfl | rfl | rfl | rfl | rfl | rfl | rfl | rfl | rfl | rfl | rfl | rfl | rfl | rfl | rfl | rfl | rfl | rfl | rfl | rfl | rfl | rfl | rfl | rfl | rfl | rfl | rfl | rfl | rfl | rfl | rfl | rfl | rfl | rfl | rfl
  · exact iX10_0
  · exact iX10_1
  · exact iX10_2
  · exact iX10_3
  · exact iX10_4
  · exact iX10_5
  · exact iX10_6
  · exact iX10_7
  · exact iX10_8
  · exact iX10_9
  · exact iX10_10
  · exact iX10_11
  · exact iX10_12
  · exact iX10_13
  · exact iX10_14
  · exact iX10_15
  · exact iX10_16
  · exact iX10_17
  · exact iX10_18
  · exact iX10_19
  · exact iX10_20
  · exact iX10_21
  · exact iX10_22
  · exact iX10_23
  · exact iX10_24
  · exact iX10_25
  · exact iX10_26
  · exact iX10_27
  · exact iX10_28
  · exact iX10_29
  · exact iX10_30
  · exact iX10_31
  · exact iX10_32
  · exact iX10_33
  · exact iX10_34
  · exact iX10_35
  · exact iX10_36
  · exact iX10_37
  · exact iX10_38
  · exact iX10_39
  · exact iX10_40
  · exact iX10_41
  · exact iX10_42
  · exact iX10_43
  · exact iX10_44
  · exact iX10_45
  · exact iX10_46
  · exact iX10_47
  · exact iX10_48
  · exact iX10_49
  · exact iX10_50
  · exact iX10_51
  · exact iX10_52
  · exact iX10_53
  · exact iX10_54
  · exact iX10_55
  · exact iX10_56
  · exact iX10_57
  · exact iX10_58
  · exact iX10_59
  · exact iX10_60
  · exact iX10_61
  · exact iX10_62
  · exact iX10_63
  · exact iX10_64
  · exact iX10_65
  · exact iX10_66
  · exact iX10_67
  · exact iX10_68
  · exact iX10_69
  · exact iX10_70
  · exact iX10_71
set_option maxRecDepth 200000 in
theorem flX9_9 : FL RX9 9 9 0 := ⟨RX9, TX9, 14, rfl, iX9, by decide, rfl, by decide, ts2 219 rfl rfl, rfl⟩
set_option maxRecDepth 200000 in
theorem flX9_13 : FL RX9 13 9 1 := ⟨RX9, TX9, 14, rfl, iX9, by decide, rfl, by decide, ts2 220 rfl rfl, rfl⟩
set_option maxRecDepth 200000 in
theorem flX9_17 : FL RX9 17 9 2 := ⟨RX9, TX9, 14, rfl, iX9, by decide, rfl, by decide, ts2 221 rfl rfl, rfl⟩
set_option maxRecDepth 200000 in
theorem flX9_23 : FL RX9 23 9 3 := ⟨RX9, TX9, 14, rfl, iX9, by decide, rfl, by decide, ts2 222 rfl rfl, rfl⟩
set_option maxRecDepth 200000 in
theorem flX9_30 : FL RX9 30 9 4 := ⟨RX9, TX9, 14, rfl, iX9, by decide, rfl, by decide, ts2 223 rfl rfl, rfl⟩
set_option maxRecDepth 200000 in
theorem flX9_39 : FL RX9 39 9 5 := ⟨RX9, TX9, 14, rfl, iX9, by decide, rfl, by decide, ts2 224 rfl rfl, rfl⟩
set_option maxRecDepth 200000 in
theorem flX9_46 : FL RX9 46 9 6 := ⟨RX9, TX9, 14, rfl, iX9, by decide, rfl, by decide, ts2 225 rfl rfl, rfl⟩
set_option maxRecDepth 200000 in
theorem flX9_50 : FL RX9 50 9 7 := ⟨RX9, TX9, 14, rfl, iX9, by decide, rfl, by decide, ts2 226 rfl rfl, rfl⟩
set_option maxRecDepth 200000 in
theorem flX9_56 : FL RX9 56 9 8 := ⟨RX9, TX9, 14, rfl, iX9, by decide, rfl, by decide, ts2 227 rfl rfl, rfl⟩
set_option maxRecDepth 200000 in
theorem flX9_60 : FL RX9 60 9 9 := ⟨RX9, TX9, 14, rfl, iX9, by decide, rfl, by decide, ts2 228 rfl rfl, rfl⟩
set_option maxRecDepth 200000 in
theorem flX9_64 : FL RX9 64 9 10 := ⟨RX9, TX9, 14, rfl, iX9, by decide, rfl, by decide, ts2 229 rfl rfl, rfl⟩
set_option maxRecDepth 200000 in
theorem flX9_71 : FL RX9 71 9 11 := ⟨RX9, TX9, 14, rfl, iX9, by decide, rfl, by decide, ts2 230 rfl rfl, rfl⟩
set_option maxRecDepth 200000 in
theorem flX9_78 : FL RX9 78 9 12 := ⟨RX9, TX9, 14, rfl, iX9, by decide, rfl, by decide, ts2 231 rfl rfl, rfl⟩
set_option maxRecDepth 200000 in
theorem flX9_82 : FL RX9 82 9 13 := ⟨RX9, TX9, 14, rfl, iX9, by decide, rfl, by decide, ts2 232 rfl rfl, rfl⟩
set_option maxRecDepth 200000 in
theorem flX9_97 : FL RX9 97 4 7 := ⟨RX4, TX4, 10, rfl, iX4, by decide, rfl, by decide, ts2 19 rfl rfl, rfl⟩
set_option maxRecDepth 200000 in
theorem flX9_98 : FL RX9 98 4 1 := ⟨RX4, TX4, 10, rfl, iX4, by decide, rfl, by decide, ts2 12 rfl rfl, rfl⟩
set_option maxRecDepth 200000 in
theorem flX9_128 : FL RX9 128 3 8 := ⟨RX3, TX3, 16, rfl, iX3, by decide, rfl, by decide, ts1 192 rfl rfl, rfl⟩
set_option maxRecDepth 200000 in
theorem flX9_135 : FL RX9 135 5 4 := ⟨RX5, TX5, 6, rfl, iX5, by decide, rfl, by decide, ts2 89 rfl rfl, rfl⟩
set_option maxRecDepth 200000 in
theorem flX9_138 : FL RX9 138 5 5 := ⟨RX5, TX5, 6, rfl, iX5, by decide, rfl, by decide, ts2 92 rfl rfl, rfl⟩
set_option maxRecDepth 200000 in
theorem flX9_151 : FL RX9 151 3 11 := ⟨RX3, TX3, 16, rfl, iX3, by decide, rfl, by decide, ts1 203 rfl rfl, rfl⟩
set_option maxRecDepth 200000 in
theorem flX9_160 : FL RX9 160 5 2 := ⟨RX5, TX5, 6, rfl, iX5, by decide, rfl, by decide, ts2 86 rfl rfl, rfl⟩
set_option maxRecDepth 200000 in
theorem flX9_163 : FL RX9 163 3 7 := ⟨RX3, TX3, 16, rfl, iX3, by decide, rfl, by decide, ts1 188 rfl rfl, rfl⟩
set_option maxRecDepth 200000 in
theorem flX9_166 : FL RX9 166 3 0 := ⟨RX3, TX3, 16, rfl, iX3, by decide, rfl, by decide, ts1 163 rfl rfl, rfl⟩
set_option maxRecDepth 200000 in
theorem flX9_169 : FL RX9 169 3 1 := ⟨RX3, TX3, 16, rfl, iX3, by decide, rfl, by decide, ts1 167 rfl rfl, rfl⟩
set_option maxRecDepth 200000 in
theorem flX9_172 : FL RX9 172 3 2 := ⟨RX3, TX3, 16, rfl, iX3, by decide, rfl, by decide, ts1 170 rfl rfl, rfl⟩
set_option maxRecDepth 200000 in
theorem flX9_175 : FL RX9 175 3 3 := ⟨RX3, TX3, 16, rfl, iX3, by decide, rfl, by decide, ts1 173 rfl rfl, rfl⟩
set_option maxRecDepth 200000 in
theorem flX9_178 : FL RX9 178 5 0 := ⟨RX5, TX5, 6, rfl, iX5, by decide, rfl, by decide, ts2 79 rfl rfl, rfl⟩
set_option maxRecDepth 200000 in
theorem flX9_181 : FL RX9 181 5 1 := ⟨RX5, TX5, 6, rfl, iX5, by decide, rfl, by decide, ts2 83 rfl rfl, rfl⟩
set_option maxRecDepth 200000 in
theorem flX9_192 : FL RX9 192 2 2 := ⟨RX2, TX2, 3, rfl, iX2, by decide, rfl, by decide, ts2 119 rfl rfl, rfl⟩
set_option maxRecDepth 200000 in
theorem flX9_195 : FL RX9 195 8 3 := ⟨RX8, TX8, 10, rfl, iX8, by decide, rfl, by decide, ts2 139 rfl rfl, rfl⟩
set_option maxRecDepth 200000 in
theorem flX9_228 : FL RX9 228 3 6 := ⟨RX3, TX3, 16, rfl, iX3, by decide, rfl, by decide, ts1 185 rfl rfl, rfl⟩
set_option maxRecDepth 200000 in
theorem flX9_245 : FL RX9 245 7 4 := ⟨RX7, TX7, 6, rfl, iX7, by decide, rfl, by decide, ts2 57 rfl rfl, rfl⟩
set_option maxRecDepth 200000 in
theorem flX9_316 : FL RX9 316 8 8 := ⟨RX8, TX8, 10, rfl, iX8, by decide, rfl, by decide, ts2 146 rfl rfl, rfl⟩
set_option maxRecDepth 200000 in
theorem flX9_319 : FL RX9 319 8 7 := ⟨RX8, TX8, 10, rfl, iX8, by decide, rfl, by decide, ts2 144 rfl rfl, rfl⟩
set_option maxRecDepth 200000 in
theorem flX9_329 : FL RX9 329 7 3 := ⟨RX7, TX7, 6, rfl, iX7, by decide, rfl, by decide, ts2 55 rfl rfl, rfl⟩
set_option maxRecDepth 200000 in
theorem flX0_9 : FL RX0 9 0 0 := ⟨RX0, TX0, 7, rfl, iX0, by decide, rfl, by decide, ts2 177 rfl rfl, rfl⟩
set_option maxRecDepth 200000 in
theorem flX0_13 : FL RX0 13 0 1 := ⟨RX0, TX0, 7, rfl, iX0, by decide, rfl, by decide, ts2 178 rfl rfl, rfl⟩
set_option maxRecDepth 200000 in
theorem flX0_16 : FL RX0 16 0 2 := ⟨RX0, TX0, 7, rfl, iX0, by decide, rfl, by decide, ts2 179 rfl rfl, rfl⟩
set_option maxRecDepth 200000 in
theorem flX0_21 : FL RX0 21 0 3 := ⟨RX0, TX0, 7, rfl, iX0, by decide, rfl, by decide, ts2 180 rfl rfl, rfl⟩
set_option maxRecDepth 200000 in
theorem flX0_24 : FL RX0 24 0 4 := ⟨RX0, TX0, 7, rfl, iX0, by decide, rfl, by decide, ts2 181 rfl rfl, rfl⟩
set_option maxRecDepth 200000 in
theorem flX0_28 : FL RX0 28 0 5 := ⟨RX0, TX0, 7, rfl, iX0, by decide, rfl, by decide, ts2 182 rfl rfl, rfl⟩
set_option maxRecDepth 200000 in
theorem flX0_31 : FL RX0 31 0 6 := ⟨RX0, TX0, 7, rfl, iX0, by decide, rfl, by decide, ts2 183 rfl rfl, rfl⟩
set_option maxRecDepth 200000 in
theorem flX1_7 : FL RX1 7 1 0 := ⟨RX1, TX1, 4, rfl, iX1, by decide, rfl, by decide, ts1 127 rfl rfl, rfl⟩
set_option maxRecDepth 200000 in
theorem flX1_13 : FL RX1 13 1 1 := ⟨RX1, TX1, 4, rfl, iX1, by decide, rfl, by decide, ts1 128 rfl rfl, rfl⟩
set_option maxRecDepth 200000 in
theorem flX1_16 : FL RX1 16 1 2 := ⟨RX1, TX1, 4, rfl, iX1, by decide, rfl, by decide, ts1 129 rfl rfl, rfl⟩
set_option maxRecDepth 200000 in
theorem flX1_19 : FL RX1 19 1 3 := ⟨RX1, TX1, 4, rfl, iX1, by decide, rfl, by decide, ts1 131 rfl rfl, rfl⟩
set_option maxRecDepth 200000 in
theorem flX2_11 : FL RX2 11 2 0 := ⟨RX2, TX2, 3, rfl, iX2, by decide, rfl, by decide, ts2 116 rfl rfl, rfl⟩
set_option maxRecDepth 200000 in
theorem flX2_15 : FL RX2 15 2 1 := ⟨RX2, TX2, 3, rfl, iX2, by decide, rfl, by decide, ts2 117 rfl rfl, rfl⟩
set_option maxRecDepth 200000 in
theorem flX2_19 : FL RX2 19 2 2 := ⟨RX2, TX2, 3, rfl, iX2, by decide, rfl, by decide, ts2 118 rfl rfl, rfl⟩
set_option maxRecDepth 200000 in
theorem flX3_9 : FL RX3 9 3 0 := ⟨RX3, TX3, 16, rfl, iX3, by decide, rfl, by decide, ts1 160 rfl rfl, rfl⟩
set_option maxRecDepth 200000 in
theorem flX3_15 : FL RX3 15 3 1 := ⟨RX3, TX3, 16, rfl, iX3, by decide, rfl, by decide, ts1 164 rfl rfl, rfl⟩
set_option maxRecDepth 200000 in
theorem flX3_18 : FL RX3 18 3 2 := ⟨RX3, TX3, 16, rfl, iX3, by decide, rfl, by decide, ts1 168 rfl rfl, rfl⟩
set_option maxRecDepth 200000 in
theorem flX3_21 : FL RX3 21 3 3 := ⟨RX3, TX3, 16, rfl, iX3, by decide, rfl, by decide, ts1 171 rfl rfl, rfl⟩
set_option maxRecDepth 200000 in
theorem flX3_24 : FL RX3 24 3 4 := ⟨RX3, TX3, 16, rfl, iX3, by decide, rfl, by decide, ts1 176 rfl rfl, rfl⟩
set_option maxRecDepth 200000 in
theorem flX3_27 : FL RX3 27 3 5 := ⟨RX3, TX3, 16, rfl, iX3, by decide, rfl, by decide, ts1 179 rfl rfl, rfl⟩
set_option maxRecDepth 200000 in
theorem flX3_30 : FL RX3 30 3 6 := ⟨RX3, TX3, 16, rfl, iX3, by decide, rfl, by decide, ts1 182 rfl rfl, rfl⟩
set_option maxRecDepth 200000 in
theorem flX3_33 : FL RX3 33 3 7 := ⟨RX3, TX3, 16, rfl, iX3, by decide, rfl, by decide, ts1 186 rfl rfl, rfl⟩
set_option maxRecDepth 200000 in
theorem flX3_37 : FL RX3 37 3 8 := ⟨RX3, TX3, 16, rfl, iX3, by decide, rfl, by decide, ts1 191 rfl rfl, rfl⟩
set_option maxRecDepth 200000 in
theorem flX3_40 : FL RX3 40 3 9 := ⟨RX3, TX3, 16, rfl, iX3, by decide, rfl, by decide, ts1 194 rfl rfl, rfl⟩
set_option maxRecDepth 200000 in
theorem flX3_43 : FL RX3 43 3 10 := ⟨RX3, TX3, 16, rfl, iX3, by decide, rfl, by decide, ts1 197 rfl rfl, rfl⟩
set_option maxRecDepth 200000 in
theorem flX3_46 : FL RX3 46 3 11 := ⟨RX3, TX3, 16, rfl, iX3, by decide, rfl, by decide, ts1 200 rfl rfl, rfl⟩
set_option maxRecDepth 200000 in
theorem flX3_49 : FL RX3 49 3 12 := ⟨RX3, TX3, 16, rfl, iX3, by decide, rfl, by decide, ts1 205 rfl rfl, rfl⟩
set_option maxRecDepth 200000 in
theorem flX3_55 : FL RX3 55 3 13 := ⟨RX3, TX3, 16, rfl, iX3, by decide, rfl, by decide, ts1 208 rfl rfl, rfl⟩
set_option maxRecDepth 200000 in
theorem flX3_59 : FL RX3 59 3 14 := ⟨RX3, TX3, 16, rfl, iX3, by decide, rfl, by decide, ts1 211 rfl rfl, rfl⟩
set_option maxRecDepth 200000 in
theorem flX3_62 : FL RX3 62 3 15 := ⟨RX3, TX3, 16, rfl, iX3, by decide, rfl, by decide, ts1 214 rfl rfl, rfl⟩
set_option maxRecDepth 200000 in
theorem flX4_12 : FL RX4 12 4 0 := ⟨RX4, TX4, 10, rfl, iX4, by decide, rfl, by decide, ts2 10 rfl rfl, rfl⟩
set_option maxRecDepth 200000 in
theorem flX4_21 : FL RX4 21 4 1 := ⟨RX4, TX4, 10, rfl, iX4, by decide, rfl, by decide, ts2 11 rfl rfl, rfl⟩
set_option maxRecDepth 200000 in
theorem flX4_25 : FL RX4 25 4 2 := ⟨RX4, TX4, 10, rfl, iX4, by decide, rfl, by decide, ts2 13 rfl rfl, rfl⟩
set_option maxRecDepth 200000 in
theorem flX4_29 : FL RX4 29 4 3 := ⟨RX4, TX4, 10, rfl, iX4, by decide, rfl, by decide, ts2 14 rfl rfl, rfl⟩
set_option maxRecDepth 200000 in
theorem flX4_32 : FL RX4 32 4 4 := ⟨RX4, TX4, 10, rfl, iX4, by decide, rfl, by decide, ts2 15 rfl rfl, rfl⟩
set_option maxRecDepth 200000 in
theorem flX4_36 : FL RX4 36 4 5 := ⟨RX4, TX4, 10, rfl, iX4, by decide, rfl, by decide, ts2 16 rfl rfl, rfl⟩
set_option maxRecDepth 200000 in
theorem flX4_39 : FL RX4 39 4 6 := ⟨RX4, TX4, 10, rfl, iX4, by decide, rfl, by decide, ts2 17 rfl rfl, rfl⟩
set_option maxRecDepth 200000 in
theorem flX4_42 : FL RX4 42 4 7 := ⟨RX4, TX4, 10, rfl, iX4, by decide, rfl, by decide, ts2 18 rfl rfl, rfl⟩
set_option maxRecDepth 200000 in
theorem flX4_45 : FL RX4 45 4 8 := ⟨RX4, TX4, 10, rfl, iX4, by decide, rfl, by decide, ts2 20 rfl rfl, rfl⟩
set_option maxRecDepth 200000 in
theorem flX4_48 : FL RX4 48 4 9 := ⟨RX4, TX4, 10, rfl, iX4, by decide, rfl, by decide, ts2 21 rfl rfl, rfl⟩
set_option maxRecDepth 200000 in
theorem flX4_61 : FL RX4 61 3 7 := ⟨RX3, TX3, 16, rfl, iX3, by decide, rfl, by decide, ts1 187 rfl rfl, rfl⟩
set_option maxRecDepth 200000 in
theorem flX4_65 : FL RX4 65 3 2 := ⟨RX3, TX3, 16, rfl, iX3, by decide, rfl, by decide, ts1 169 rfl rfl, rfl⟩
set_option maxRecDepth 200000 in
theorem flX4_75 : FL RX4 75 6 1 := ⟨RX6, TX6, 5, rfl, iX6, by decide, rfl, by decide, ts1 95 rfl rfl, rfl⟩
set_option maxRecDepth 200000 in
theorem flX4_78 : FL RX4 78 6 2 := ⟨RX6, TX6, 5, rfl, iX6, by decide, rfl, by decide, ts1 97 rfl rfl, rfl⟩
set_option maxRecDepth 200000 in
theorem flX4_81 : FL RX4 81 6 3 := ⟨RX6, TX6, 5, rfl, iX6, by decide, rfl, by decide, ts1 99 rfl rfl, rfl⟩
set_option maxRecDepth 200000 in
theorem flX4_97 : FL RX4 97 3 13 := ⟨RX3, TX3, 16, rfl, iX3, by decide, rfl, by decide, ts1 210 rfl rfl, rfl⟩
set_option maxRecDepth 200000 in
theorem flX4_105 : FL RX4 105 3 14 := ⟨RX3, TX3, 16, rfl, iX3, by decide, rfl, by decide, ts1 212 rfl rfl, rfl⟩
set_option maxRecDepth 200000 in
theorem flX4_108 : FL RX4 108 3 15 := ⟨RX3, TX3, 16, rfl, iX3, by decide, rfl, by decide, ts1 215 rfl rfl, rfl⟩
set_option maxRecDepth 200000 in
theorem flX4_119 : FL RX4 119 3 4 := ⟨RX3, TX3, 16, rfl, iX3, by decide, rfl, by decide, ts1 178 rfl rfl, rfl⟩
set_option maxRecDepth 200000 in
theorem flX4_122 : FL RX4 122 3 5 := ⟨RX3, TX3, 16, rfl, iX3, by decide, rfl, by decide, ts1 180 rfl rfl, rfl⟩
set_option maxRecDepth 200000 in
theorem flX4_125 : FL RX4 125 3 6 := ⟨RX3, TX3, 16, rfl, iX3, by decide, rfl, by decide, ts1 183 rfl rfl, rfl⟩
set_option maxRecDepth 200000 in
theorem flX4_136 : FL RX4 136 3 1 := ⟨RX3, TX3, 16, rfl, iX3, by decide, rfl, by decide, ts1 166 rfl rfl, rfl⟩
set_option maxRecDepth 200000 in
theorem flX4_147 : FL RX4 147 3 0 := ⟨RX3, TX3, 16, rfl, iX3, by decide, rfl, by decide, ts1 162 rfl rfl, rfl⟩
set_option maxRecDepth 200000 in
theorem flX4_154 : FL RX4 154 3 8 := ⟨RX3, TX3, 16, rfl, iX3, by decide, rfl, by decide, ts1 193 rfl rfl, rfl⟩
set_option maxRecDepth 200000 in
theorem flX4_160 : FL RX4 160 3 9 := ⟨RX3, TX3, 16, rfl, iX3, by decide, rfl, by decide, ts1 195 rfl rfl, rfl⟩
set_option maxRecDepth 200000 in
theorem flX4_163 : FL RX4 163 3 10 := ⟨RX3, TX3, 16, rfl, iX3, by decide, rfl, by decide, ts1 198 rfl rfl, rfl⟩
set_option maxRecDepth 200000 in
theorem flX4_166 : FL RX4 166 3 3 := ⟨RX3, TX3, 16, rfl, iX3, by decide, rfl, by decide, ts1 174 rfl rfl, rfl⟩
set_option maxRecDepth 200000 in
theorem flX4_169 : FL RX4 169 3 11 := ⟨RX3, TX3, 16, rfl, iX3, by decide, rfl, by decide, ts1 204 rfl rfl, rfl⟩
set_option maxRecDepth 200000 in
theorem flX4_172 : FL RX4 172 3 12 := ⟨RX3, TX3, 16, rfl, iX3, by decide, rfl, by decide, ts1 207 rfl rfl, rfl⟩
set_option maxRecDepth 200000 in
theorem flX5_9 : FL RX5 9 5 0 := ⟨RX5, TX5, 6, rfl, iX5, by decide, rfl, by decide, ts2 78 rfl rfl, rfl⟩
set_option maxRecDepth 200000 in
theorem flX5_15 : FL RX5 15 5 1 := ⟨RX5, TX5, 6, rfl, iX5, by decide, rfl, by decide, ts2 81 rfl rfl, rfl⟩
set_option maxRecDepth 200000 in
theorem flX5_18 : FL RX5 18 5 2 := ⟨RX5, TX5, 6, rfl, iX5, by decide, rfl, by decide, ts2 84 rfl rfl, rfl⟩
set_option maxRecDepth 200000 in
theorem flX5_22 : FL RX5 22 5 3 := ⟨RX5, TX5, 6, rfl, iX5, by decide, rfl, by decide, ts2 87 rfl rfl, rfl⟩
set_option maxRecDepth 200000 in
theorem flX5_25 : FL RX5 25 5 4 := ⟨RX5, TX5, 6, rfl, iX5, by decide, rfl, by decide, ts2 88 rfl rfl, rfl⟩
set_option maxRecDepth 200000 in
theorem flX5_28 : FL RX5 28 5 5 := ⟨RX5, TX5, 6, rfl, iX5, by decide, rfl, by decide, ts2 91 rfl rfl, rfl⟩
set_option maxRecDepth 200000 in
theorem flX5_31 : FL RX5 31 3 4 := ⟨RX3, TX3, 16, rfl, iX3, by decide, rfl, by decide, ts1 177 rfl rfl, rfl⟩
set_option maxRecDepth 200000 in
theorem flX5_40 : FL RX5 40 3 3 := ⟨RX3, TX3, 16, rfl, iX3, by decide, rfl, by decide, ts1 172 rfl rfl, rfl⟩
set_option maxRecDepth 200000 in
theorem flX5_42 : FL RX5 42 3 11 := ⟨RX3, TX3, 16, rfl, iX3, by decide, rfl, by decide, ts1 201 rfl rfl, rfl⟩
set_option maxRecDepth 200000 in
theorem flX5_49 : FL RX5 49 3 12 := ⟨RX3, TX3, 16, rfl, iX3, by decide, rfl, by decide, ts1 206 rfl rfl, rfl⟩
set_option maxRecDepth 200000 in
theorem flX5_73 : FL RX5 73 3 7 := ⟨RX3, TX3, 16, rfl, iX3, by decide, rfl, by decide, ts1 189 rfl rfl, rfl⟩
set_option maxRecDepth 200000 in
theorem flX6_9 : FL RX6 9 6 0 := ⟨RX6, TX6, 5, rfl, iX6, by decide, rfl, by decide, ts1 93 rfl rfl, rfl⟩
set_option maxRecDepth 200000 in
theorem flX6_13 : FL RX6 13 6 1 := ⟨RX6, TX6, 5, rfl, iX6, by decide, rfl, by decide, ts1 94 rfl rfl, rfl⟩
set_option maxRecDepth 200000 in
theorem flX6_17 : FL RX6 17 6 2 := ⟨RX6, TX6, 5, rfl, iX6, by decide, rfl, by decide, ts1 96 rfl rfl, rfl⟩
set_option maxRecDepth 200000 in
theorem flX6_20 : FL RX6 20 6 3 := ⟨RX6, TX6, 5, rfl, iX6, by decide, rfl, by decide, ts1 98 rfl rfl, rfl⟩
set_option maxRecDepth 200000 in
theorem flX6_23 : FL RX6 23 6 4 := ⟨RX6, TX6, 5, rfl, iX6, by decide, rfl, by decide, ts1 100 rfl rfl, rfl⟩
set_option maxRecDepth 200000 in
theorem flX7_11 : FL RX7 11 7 1 := ⟨RX7, TX7, 6, rfl, iX7, by decide, rfl, by decide, ts2 52 rfl rfl, rfl⟩
set_option maxRecDepth 200000 in
theorem flX7_15 : FL RX7 15 7 2 := ⟨RX7, TX7, 6, rfl, iX7, by decide, rfl, by decide, ts2 53 rfl rfl, rfl⟩
set_option maxRecDepth 200000 in
theorem flX7_18 : FL RX7 18 7 3 := ⟨RX7, TX7, 6, rfl, iX7, by decide, rfl, by decide, ts2 54 rfl rfl, rfl⟩
set_option maxRecDepth 200000 in
theorem flX7_21 : FL RX7 21 7 4 := ⟨RX7, TX7, 6, rfl, iX7, by decide, rfl, by decide, ts2 56 rfl rfl, rfl⟩
set_option maxRecDepth 200000 in
theorem flX7_25 : FL RX7 25 7 5 := ⟨RX7, TX7, 6, rfl, iX7, by decide, rfl, by decide, ts2 58 rfl rfl, rfl⟩
set_option maxRecDepth 200000 in
theorem flX7_29 : FL RX7 29 7 0 := ⟨RX7, TX7, 6, rfl, iX7, by decide, rfl, by decide, ts2 51 rfl rfl, rfl⟩
set_option maxRecDepth 200000 in
theorem flX7_45 : FL RX7 45 3 13 := ⟨RX3, TX3, 16, rfl, iX3, by decide, rfl, by decide, ts1 209 rfl rfl, rfl⟩
set_option maxRecDepth 200000 in
theorem flX7_49 : FL RX7 49 1 2 := ⟨RX1, TX1, 4, rfl, iX1, by decide, rfl, by decide, ts1 130 rfl rfl, rfl⟩
set_option maxRecDepth 200000 in
theorem flX7_54 : FL RX7 54 3 11 := ⟨RX3, TX3, 16, rfl, iX3, by decide, rfl, by decide, ts1 202 rfl rfl, rfl⟩
set_option maxRecDepth 200000 in
theorem flX7_76 : FL RX7 76 5 1 := ⟨RX5, TX5, 6, rfl, iX5, by decide, rfl, by decide, ts2 82 rfl rfl, rfl⟩
set_option maxRecDepth 200000 in
theorem flX7_83 : FL RX7 83 3 1 := ⟨RX3, TX3, 16, rfl, iX3, by decide, rfl, by decide, ts1 165 rfl rfl, rfl⟩
set_option maxRecDepth 200000 in
theorem flX7_86 : FL RX7 86 3 0 := ⟨RX3, TX3, 16, rfl, iX3, by decide, rfl, by decide, ts1 161 rfl rfl, rfl⟩
set_option maxRecDepth 200000 in
theorem flX7_89 : FL RX7 89 5 2 := ⟨RX5, TX5, 6, rfl, iX5, by decide, rfl, by decide, ts2 85 rfl rfl, rfl⟩
set_option maxRecDepth 200000 in
theorem flX7_131 : FL RX7 131 3 6 := ⟨RX3, TX3, 16, rfl, iX3, by decide, rfl, by decide, ts1 184 rfl rfl, rfl⟩
set_option maxRecDepth 200000 in
theorem flX7_134 : FL RX7 134 3 3 := ⟨RX3, TX3, 16, rfl, iX3, by decide, rfl, by decide, ts1 175 rfl rfl, rfl⟩
set_option maxRecDepth 200000 in
theorem flX7_140 : FL RX7 140 5 0 := ⟨RX5, TX5, 6, rfl, iX5, by decide, rfl, by decide, ts2 80 rfl rfl, rfl⟩
set_option maxRecDepth 200000 in
theorem flX7_147 : FL RX7 147 3 5 := ⟨RX3, TX3, 16, rfl, iX3, by decide, rfl, by decide, ts1 181 rfl rfl, rfl⟩
set_option maxRecDepth 200000 in
theorem flX7_158 : FL RX7 158 3 7 := ⟨RX3, TX3, 16, rfl, iX3, by decide, rfl, by decide, ts1 190 rfl rfl, rfl⟩
set_option maxRecDepth 200000 in
theorem flX7_161 : FL RX7 161 5 4 := ⟨RX5, TX5, 6, rfl, iX5, by decide, rfl, by decide, ts2 90 rfl rfl, rfl⟩
set_option maxRecDepth 200000 in
theorem flX7_164 : FL RX7 164 5 5 := ⟨RX5, TX5, 6, rfl, iX5, by decide, rfl, by decide, ts2 93 rfl rfl, rfl⟩
set_option maxRecDepth 200000 in
theorem flX7_167 : FL RX7 167 3 14 := ⟨RX3, TX3, 16, rfl, iX3, by decide, rfl, by decide, ts1 213 rfl rfl, rfl⟩
set_option maxRecDepth 200000 in
theorem flX7_173 : FL RX7 173 3 9 := ⟨RX3, TX3, 16, rfl, iX3, by decide, rfl, by decide, ts1 196 rfl rfl, rfl⟩
set_option maxRecDepth 200000 in
theorem flX7_176 : FL RX7 176 3 10 := ⟨RX3, TX3, 16, rfl, iX3, by decide, rfl, by decide, ts1 199 rfl rfl, rfl⟩
set_option maxRecDepth 200000 in
theorem flX7_182 : FL RX7 182 3 15 := ⟨RX3, TX3, 16, rfl, iX3, by decide, rfl, by decide, ts1 216 rfl rfl, rfl⟩
set_option maxRecDepth 200000 in
theorem flX8_11 : FL RX8 11 8 0 := ⟨RX8, TX8, 10, rfl, iX8, by decide, rfl, by decide, ts2 135 rfl rfl, rfl⟩
set_option maxRecDepth 200000 in
theorem flX8_15 : FL RX8 15 8 1 := ⟨RX8, TX8, 10, rfl, iX8, by decide, rfl, by decide, ts2 136 rfl rfl, rfl⟩
set_option maxRecDepth 200000 in
theorem flX8_18 : FL RX8 18 8 2 := ⟨RX8, TX8, 10, rfl, iX8, by decide, rfl, by decide, ts2 137 rfl rfl, rfl⟩
set_option maxRecDepth 200000 in
theorem flX8_21 : FL RX8 21 8 3 := ⟨RX8, TX8, 10, rfl, iX8, by decide, rfl, by decide, ts2 138 rfl rfl, rfl⟩
set_option maxRecDepth 200000 in
theorem flX8_25 : FL RX8 25 8 4 := ⟨RX8, TX8, 10, rfl, iX8, by decide, rfl, by decide, ts2 140 rfl rfl, rfl⟩
set_option maxRecDepth 200000 in
theorem flX8_28 : FL RX8 28 8 5 := ⟨RX8, TX8, 10, rfl, iX8, by decide, rfl, by decide, ts2 141 rfl rfl, rfl⟩
set_option maxRecDepth 200000 in
theorem flX8_33 : FL RX8 33 8 6 := ⟨RX8, TX8, 10, rfl, iX8, by decide, rfl, by decide, ts2 142 rfl rfl, rfl⟩
set_option maxRecDepth 200000 in
theorem flX8_36 : FL RX8 36 8 7 := ⟨RX8, TX8, 10, rfl, iX8, by decide, rfl, by decide, ts2 143 rfl rfl, rfl⟩
set_option maxRecDepth 200000 in
theorem flX8_39 : FL RX8 39 8 8 := ⟨RX8, TX8, 10, rfl, iX8, by decide, rfl, by decide, ts2 145 rfl rfl, rfl⟩
set_option maxRecDepth 200000 in
theorem flX8_42 : FL RX8 42 8 9 := ⟨RX8, TX8, 10, rfl, iX8, by decide, rfl, by decide, ts2 147 rfl rfl, rfl⟩
set_option maxRecDepth 200000 in
theorem flX10_13 : FL RX10 13 10 1 := ⟨RX10, TX10, 72, rfl, iX10, by decide, rfl, by decide, ts5 209 rfl rfl, rfl⟩
set_option maxRecDepth 200000 in
theorem flX10_17 : FL RX10 17 10 3 := ⟨RX10, TX10, 72, rfl, iX10, by decide, rfl, by decide, ts5 211 rfl rfl, rfl⟩
set_option maxRecDepth 200000 in
theorem flX10_20 : FL RX10 20 10 5 := ⟨RX10, TX10, 72, rfl, iX10, by decide, rfl, by decide, ts5 213 rfl rfl, rfl⟩
set_option maxRecDepth 200000 in
theorem flX10_24 : FL RX10 24 10 6 := ⟨RX10, TX10, 72, rfl, iX10, by decide, rfl, by decide, ts5 214 rfl rfl, rfl⟩
set_option maxRecDepth 200000 in
theorem flX10_27 : FL RX10 27 10 7 := ⟨RX10, TX10, 72, rfl, iX10, by decide, rfl, by decide, ts5 215 rfl rfl, rfl⟩
set_option maxRecDepth 200000 in
theorem flX10_30 : FL RX10 30 10 8 := ⟨RX10, TX10, 72, rfl, iX10, by decide, rfl, by decide, ts5 216 rfl rfl, rfl⟩
set_option maxRecDepth 200000 in
theorem flX10_34 : FL RX10 34 10 9 := ⟨RX10, TX10, 72, rfl, iX10, by decide, rfl, by decide, ts5 217 rfl rfl, rfl⟩
set_option maxRecDepth 200000 in
theorem flX10_37 : FL RX10 37 10 17 := ⟨RX10, TX10, 72, rfl, iX10, by decide, rfl, by decide, ts5 225 rfl rfl, rfl⟩
set_option maxRecDepth 200000 in
theorem flX10_40 : FL RX10 40 10 21 := ⟨RX10, TX10, 72, rfl, iX10, by decide, rfl, by decide, ts5 229 rfl rfl, rfl⟩
set_option maxRecDepth 200000 in
theorem flX10_43 : FL RX10 43 10 22 := ⟨RX10, TX10, 72, rfl, iX10, by decide, rfl, by decide, ts5 230 rfl rfl, rfl⟩
set_option maxRecDepth 200000 in
theorem flX10_46 : FL RX10 46 10 23 := ⟨RX10, TX10, 72, rfl, iX10, by decide, rfl, by decide, ts5 231 rfl rfl, rfl⟩
set_option maxRecDepth 200000 in
theorem flX10_49 : FL RX10 49 10 24 := ⟨RX10, TX10, 72, rfl, iX10, by decide, rfl, by decide, ts5 232 rfl rfl, rfl⟩
set_option maxRecDepth 200000 in
theorem flX10_52 : FL RX10 52 10 25 := ⟨RX10, TX10, 72, rfl, iX10, by decide, rfl, by decide, ts5 233 rfl rfl, rfl⟩
set_option maxRecDepth 200000 in
theorem flX10_55 : FL RX10 55 10 26 := ⟨RX10, TX10, 72, rfl, iX10, by decide, rfl, by decide, ts5 234 rfl rfl, rfl⟩
set_option maxRecDepth 200000 in
theorem flX10_58 : FL RX10 58 10 27 := ⟨RX10, TX10, 72, rfl, iX10, by decide, rfl, by decide, ts5 235 rfl rfl, rfl⟩
set_option maxRecDepth 200000 in
theorem flX10_61 : FL RX10 61 10 28 := ⟨RX10, TX10, 72, rfl, iX10, by decide, rfl, by decide, ts5 236 rfl rfl, rfl⟩
set_option maxRecDepth 200000 in
theorem flX10_64 : FL RX10 64 10 29 := ⟨RX10, TX10, 72, rfl, iX10, by decide, rfl, by decide, ts5 237 rfl rfl, rfl⟩
set_option maxRecDepth 200000 in
theorem flX10_67 : FL RX10 67 10 30 := ⟨RX10, TX10, 72, rfl, iX10, by decide, rfl, by decide, ts5 238 rfl rfl, rfl⟩
set_option maxRecDepth 200000 in
theorem flX10_70 : FL RX10 70 10 31 := ⟨RX10, TX10, 72, rfl, iX10, by decide, rfl, by decide, ts5 239 rfl rfl, rfl⟩
set_option maxRecDepth 200000 in
theorem flX10_73 : FL RX10 73 10 32 := ⟨RX10, TX10, 72, rfl, iX10, by decide, rfl, by decide, ts6 0 rfl rfl, rfl⟩
set_option maxRecDepth 200000 in
theorem flX10_76 : FL RX10 76 10 33 := ⟨RX10, TX10, 72, rfl, iX10, by decide, rfl, by decide, ts6 1 rfl rfl, rfl⟩
set_option maxRecDepth 200000 in
theorem flX10_79 : FL RX10 79 10 34 := ⟨RX10, TX10, 72, rfl, iX10, by decide, rfl, by decide, ts6 2 rfl rfl, rfl⟩
set_option maxRecDepth 200000 in
theorem flX10_82 : FL RX10 82 10 35 := ⟨RX10, TX10, 72, rfl, iX10, by decide, rfl, by decide, ts6 3 rfl rfl, rfl⟩
set_option maxRecDepth 200000 in
theorem flX10_85 : FL RX10 85 10 37 := ⟨RX10, TX10, 72, rfl, iX10, by decide, rfl, by decide, ts6 5 rfl rfl, rfl⟩
set_option maxRecDepth 200000 in
theorem flX10_89 : FL RX10 89 10 38 := ⟨RX10, TX10, 72, rfl, iX10, by decide, rfl, by decide, ts6 6 rfl rfl, rfl⟩
set_option maxRecDepth 200000 in
theorem flX10_92 : FL RX10 92 10 39 := ⟨RX10, TX10, 72, rfl, iX10, by decide, rfl, by decide, ts6 7 rfl rfl, rfl⟩
set_option maxRecDepth 200000 in
theorem flX10_95 : FL RX10 95 10 40 := ⟨RX10, TX10, 72, rfl, iX10, by decide, rfl, by decide, ts6 8 rfl rfl, rfl⟩
set_option maxRecDepth 200000 in
theorem flX10_98 : FL RX10 98 10 41 := ⟨RX10, TX10, 72, rfl, iX10, by decide, rfl, by decide, ts6 9 rfl rfl, rfl⟩
set_option maxRecDepth 200000 in
theorem flX10_101 : FL RX10 101 10 43 := ⟨RX10, TX10, 72, rfl, iX10, by decide, rfl, by decide, ts6 11 rfl rfl, rfl⟩
set_option maxRecDepth 200000 in
theorem flX10_104 : FL RX10 104 10 44 := ⟨RX10, TX10, 72, rfl, iX10, by decide, rfl, by decide, ts6 12 rfl rfl, rfl⟩
set_option maxRecDepth 200000 in
theorem flX10_107 : FL RX10 107 10 45 := ⟨RX10, TX10, 72, rfl, iX10, by decide, rfl, by decide, ts6 13 rfl rfl, rfl⟩
set_option maxRecDepth 200000 in
theorem flX10_110 : FL RX10 110 10 47 := ⟨RX10, TX10, 72, rfl, iX10, by decide, rfl, by decide, ts6 15 rfl rfl, rfl⟩
set_option maxRecDepth 200000 in
theorem flX10_113 : FL RX10 113 10 48 := ⟨RX10, TX10, 72, rfl, iX10, by decide, rfl, by decide, ts6 16 rfl rfl, rfl⟩
set_option maxRecDepth 200000 in
theorem flX10_116 : FL RX10 116 10 50 := ⟨RX10, TX10, 72, rfl, iX10, by decide, rfl, by decide, ts6 18 rfl rfl, rfl⟩
set_option maxRecDepth 200000 in
theorem flX10_119 : FL RX10 119 10 51 := ⟨RX10, TX10, 72, rfl, iX10, by decide, rfl, by decide, ts6 19 rfl rfl, rfl⟩
set_option maxRecDepth 200000 in
theorem flX10_122 : FL RX10 122 10 54 := ⟨RX10, TX10, 72, rfl, iX10, by decide, rfl, by decide, ts6 22 rfl rfl, rfl⟩
set_option maxRecDepth 200000 in
theorem flX10_125 : FL RX10 125 10 57 := ⟨RX10, TX10, 72, rfl, iX10, by decide, rfl, by decide, ts6 25 rfl rfl, rfl⟩
set_option maxRecDepth 200000 in
theorem flX10_128 : FL RX10 128 10 58 := ⟨RX10, TX10, 72, rfl, iX10, by decide, rfl, by decide, ts6 26 rfl rfl, rfl⟩
set_option maxRecDepth 200000 in
theorem flX10_131 : FL RX10 131 10 59 := ⟨RX10, TX10, 72, rfl, iX10, by decide, rfl, by decide, ts6 27 rfl rfl, rfl⟩
set_option maxRecDepth 200000 in
theorem flX10_134 : FL RX10 134 10 60 := ⟨RX10, TX10, 72, rfl, iX10, by decide, rfl, by decide, ts6 28 rfl rfl, rfl⟩
set_option maxRecDepth 200000 in
theorem flX10_137 : FL RX10 137 10 64 := ⟨RX10, TX10, 72, rfl, iX10, by decide, rfl, by decide, ts6 32 rfl rfl, rfl⟩
set_option maxRecDepth 200000 in
theorem flX10_140 : FL RX10 140 10 66 := ⟨RX10, TX10, 72, rfl, iX10, by decide, rfl, by decide, ts6 34 rfl rfl, rfl⟩
set_option maxRecDepth 200000 in
theorem flX10_143 : FL RX10 143 10 67 := ⟨RX10, TX10, 72, rfl, iX10, by decide, rfl, by decide, ts6 35 rfl rfl, rfl⟩
set_option maxRecDepth 200000 in
theorem flX10_146 : FL RX10 146 10 68 := ⟨RX10, TX10, 72, rfl, iX10, by decide, rfl, by decide, ts6 36 rfl rfl, rfl⟩
set_option maxRecDepth 200000 in
theorem flX10_149 : FL RX10 149 10 69 := ⟨RX10, TX10, 72, rfl, iX10, by decide, rfl, by decide, ts6 37 rfl rfl, rfl⟩
set_option maxRecDepth 200000 in
theorem flX10_152 : FL RX10 152 10 70 := ⟨RX10, TX10, 72, rfl, iX10, by decide, rfl, by decide, ts6 38 rfl rfl, rfl⟩
set_option maxRecDepth 200000 in
theorem flX10_155 : FL RX10 155 10 71 := ⟨RX10, TX10, 72, rfl, iX10, by decide, rfl, by decide, ts6 39 rfl rfl, rfl⟩
set_option maxRecDepth 200000 in
theorem flX10_172 : FL RX10 172 10 2 := ⟨RX10, TX10, 72, rfl, iX10, by decide, rfl, by decide, ts5 210 rfl rfl, rfl⟩
set_option maxRecDepth 200000 in
theorem flX10_178 : FL RX10 178 10 4 := ⟨RX10, TX10, 72, rfl, iX10, by decide, rfl, by decide, ts5 212 rfl rfl, rfl⟩
set_option maxRecDepth 200000 in
theorem flX10_187 : FL RX10 187 10 10 := ⟨RX10, TX10, 72, rfl, iX10, by decide, rfl, by decide, ts5 218 rfl rfl, rfl⟩
set_option maxRecDepth 200000 in
theorem flX10_209 : FL RX10 209 10 13 := ⟨RX10, TX10, 72, rfl, iX10, by decide, rfl, by decide, ts5 221 rfl rfl, rfl⟩
set_option maxRecDepth 200000 in
theorem flX10_212 : FL RX10 212 10 11 := ⟨RX10, TX10, 72, rfl, iX10, by decide, rfl, by decide, ts5 219 rfl rfl, rfl⟩
set_option maxRecDepth 200000 in
theorem flX10_215 : FL RX10 215 10 14 := ⟨RX10, TX10, 72, rfl, iX10, by decide, rfl, by decide, ts5 222 rfl rfl, rfl⟩
set_option maxRecDepth 200000 in
theorem flX10_218 : FL RX10 218 10 15 := ⟨RX10, TX10, 72, rfl, iX10, by decide, rfl, by decide, ts5 223 rfl rfl, rfl⟩
set_option maxRecDepth 200000 in
theorem flX10_221 : FL RX10 221 10 16 := ⟨RX10, TX10, 72, rfl, iX10, by decide, rfl, by decide, ts5 224 rfl rfl, rfl⟩
set_option maxRecDepth 200000 in
theorem flX10_236 : FL RX10 236 10 12 := ⟨RX10, TX10, 72, rfl, iX10, by decide, rfl, by decide, ts5 220 rfl rfl, rfl⟩
set_option maxRecDepth 200000 in
theorem flX10_239 : FL RX10 239 10 18 := ⟨RX10, TX10, 72, rfl, iX10, by decide, rfl, by decide, ts5 226 rfl rfl, rfl⟩
set_option maxRecDepth 200000 in
theorem flX10_242 : FL RX10 242 10 19 := ⟨RX10, TX10, 72, rfl, iX10, by decide, rfl, by decide, ts5 227 rfl rfl, rfl⟩
set_option maxRecDepth 200000 in
theorem flX10_245 : FL RX10 245 10 20 := ⟨RX10, TX10, 72, rfl, iX10, by decide, rfl, by decide, ts5 228 rfl rfl, rfl⟩
set_option maxRecDepth 200000 in
theorem flX10_248 : FL RX10 248 10 36 := ⟨RX10, TX10, 72, rfl, iX10, by decide, rfl, by decide, ts6 4 rfl rfl, rfl⟩
set_option maxRecDepth 200000 in
theorem flX10_251 : FL RX10 251 10 42 := ⟨RX10, TX10, 72, rfl, iX10, by decide, rfl, by decide, ts6 10 rfl rfl, rfl⟩
set_option maxRecDepth 200000 in
theorem flX10_265 : FL RX10 265 10 53 := ⟨RX10, TX10, 72, rfl, iX10, by decide, rfl, by decide, ts6 21 rfl rfl, rfl⟩
set_option maxRecDepth 200000 in
theorem flX10_268 : FL RX10 268 10 65 := ⟨RX10, TX10, 72, rfl, iX10, by decide, rfl, by decide, ts6 33 rfl rfl, rfl⟩
set_option maxRecDepth 200000 in
theorem flX10_306 : FL RX10 306 10 46 := ⟨RX10, TX10, 72, rfl, iX10, by decide, rfl, by decide, ts6 14 rfl rfl, rfl⟩
set_option maxRecDepth 200000 in
theorem flX10_319 : FL RX10 319 10 49 := ⟨RX10, TX10, 72, rfl, iX10, by decide, rfl, by decide, ts6 17 rfl rfl, rfl⟩
set_option maxRecDepth 200000 in
theorem flX10_327 : FL RX10 327 10 52 := ⟨RX10, TX10, 72, rfl, iX10, by decide, rfl, by decide, ts6 20 rfl rfl, rfl⟩
set_option maxRecDepth 200000 in
theorem flX10_411 : FL RX10 411 10 56 := ⟨RX10, TX10, 72, rfl, iX10, by decide, rfl, by decide, ts6 24 rfl rfl, rfl⟩
set_option maxRecDepth 200000 in
theorem flX10_417 : FL RX10 417 10 55 := ⟨RX10, TX10, 72, rfl, iX10, by decide, rfl, by decide, ts6 23 rfl rfl, rfl⟩
set_option maxRecDepth 200000 in
theorem flX10_427 : FL RX10 427 10 61 := ⟨RX10, TX10, 72, rfl, iX10, by decide, rfl, by decide, ts6 29 rfl rfl, rfl⟩
set_option maxRecDepth 200000 in
theorem flX10_455 : FL RX10 455 10 63 := ⟨RX10, TX10, 72, rfl, iX10, by decide, rfl, by decide, ts6 31 rfl rfl, rfl⟩
set_option maxRecDepth 200000 in
theorem flX10_461 : FL RX10 461 10 62 := ⟨RX10, TX10, 72, rfl, iX10, by decide, rfl, by decide, ts6 30 rfl rfl, rfl⟩
theorem fpX0_4 : FP 0 4 .int := ⟨RX0, TX0, 7, tyX0, rfl, tyX0_ok, nmX0, rfl, by decide +kernel⟩
theorem fpX0_5 : FP 0 5 .int := ⟨RX0, TX0, 7, tyX0, rfl, tyX0_ok, nmX0, rfl, by decide +kernel⟩
theorem fpX0_6 : FP 0 6 .int := ⟨RX0, TX0, 7, tyX0, rfl, tyX0_ok, nmX0, rfl, by decide +kernel⟩
theorem fpX1_3 : FP 1 3 .int := ⟨RX1, TX1, 4, tyX1, rfl, tyX1_ok, nmX1, rfl, by decide +kernel⟩
theorem fpX2_1 : FP 2 1 .int := ⟨RX2, TX2, 3, tyX2, rfl, tyX2_ok, nmX2, rfl, by decide +kernel⟩
theorem fpX2_2 : FP 2 2 .int := ⟨RX2, TX2, 3, tyX2, rfl, tyX2_ok, nmX2, rfl, by decide +kernel⟩
theorem fpX3_0 : FP 3 0 .int := ⟨RX3, TX3, 16, tyX3, rfl, tyX3_ok, nmX3, rfl, by decide +kernel⟩
theorem fpX3_1 : FP 3 1 .int := ⟨RX3, TX3, 16, tyX3, rfl, tyX3_ok, nmX3, rfl, by decide +kernel⟩
theorem fpX3_2 : FP 3 2 .int := ⟨RX3, TX3, 16, tyX3, rfl, tyX3_ok, nmX3, rfl, by decide +kernel⟩
theorem fpX3_3 : FP 3 3 .int := ⟨RX3, TX3, 16, tyX3, rfl, tyX3_ok, nmX3, rfl, by decide +kernel⟩
theorem fpX3_4 : FP 3 4 .int := ⟨RX3, TX3, 16, tyX3, rfl, tyX3_ok, nmX3, rfl, by decide +kernel⟩
theorem fpX3_5 : FP 3 5 .int := ⟨RX3, TX3, 16, tyX3, rfl, tyX3_ok, nmX3, rfl, by decide +kernel⟩
theorem fpX3_6 : FP 3 6 .int := ⟨RX3, TX3, 16, tyX3, rfl, tyX3_ok, nmX3, rfl, by decide +kernel⟩
theorem fpX4_1 : FP 4 1 (.object RX3) := ⟨RX4, TX4, 10, tyX4, rfl, tyX4_ok, nmX4, rfl, by decide +kernel⟩
theorem fpX4_2 : FP 4 2 .int := ⟨RX4, TX4, 10, tyX4, rfl, tyX4_ok, nmX4, rfl, by decide +kernel⟩
theorem fpX4_3 : FP 4 3 .int := ⟨RX4, TX4, 10, tyX4, rfl, tyX4_ok, nmX4, rfl, by decide +kernel⟩
theorem fpX4_5 : FP 4 5 .int := ⟨RX4, TX4, 10, tyX4, rfl, tyX4_ok, nmX4, rfl, by decide +kernel⟩
theorem fpX4_6 : FP 4 6 .int := ⟨RX4, TX4, 10, tyX4, rfl, tyX4_ok, nmX4, rfl, by decide +kernel⟩
theorem fpX4_7 : FP 4 7 .int := ⟨RX4, TX4, 10, tyX4, rfl, tyX4_ok, nmX4, rfl, by decide +kernel⟩
theorem fpX4_8 : FP 4 8 .int := ⟨RX4, TX4, 10, tyX4, rfl, tyX4_ok, nmX4, rfl, by decide +kernel⟩
theorem fpX4_9 : FP 4 9 .int := ⟨RX4, TX4, 10, tyX4, rfl, tyX4_ok, nmX4, rfl, by decide +kernel⟩
theorem fpX5_0 : FP 5 0 .int := ⟨RX5, TX5, 6, tyX5, rfl, tyX5_ok, nmX5, rfl, by decide +kernel⟩
theorem fpX5_1 : FP 5 1 .int := ⟨RX5, TX5, 6, tyX5, rfl, tyX5_ok, nmX5, rfl, by decide +kernel⟩
theorem fpX6_4 : FP 6 4 .int := ⟨RX6, TX6, 5, tyX6, rfl, tyX6_ok, nmX6, rfl, by decide +kernel⟩
theorem fpX7_0 : FP 7 0 (.object RX3) := ⟨RX7, TX7, 6, tyX7, rfl, tyX7_ok, nmX7, rfl, by decide +kernel⟩
theorem fpX7_4 : FP 7 4 .int := ⟨RX7, TX7, 6, tyX7, rfl, tyX7_ok, nmX7, rfl, by decide +kernel⟩
theorem fpX7_5 : FP 7 5 .boolean := ⟨RX7, TX7, 6, tyX7, rfl, tyX7_ok, nmX7, rfl, by decide +kernel⟩
theorem fpX8_3 : FP 8 3 .int := ⟨RX8, TX8, 10, tyX8, rfl, tyX8_ok, nmX8, rfl, by decide +kernel⟩
theorem fpX8_4 : FP 8 4 .int := ⟨RX8, TX8, 10, tyX8, rfl, tyX8_ok, nmX8, rfl, by decide +kernel⟩
theorem fpX8_5 : FP 8 5 .int := ⟨RX8, TX8, 10, tyX8, rfl, tyX8_ok, nmX8, rfl, by decide +kernel⟩
theorem fpX8_8 : FP 8 8 .int := ⟨RX8, TX8, 10, tyX8, rfl, tyX8_ok, nmX8, rfl, by decide +kernel⟩
theorem fpX9_1 : FP 9 1 .int := ⟨RX9, TX9, 14, tyX9, rfl, tyX9_ok, nmX9, rfl, by decide +kernel⟩
theorem fpX9_2 : FP 9 2 .int := ⟨RX9, TX9, 14, tyX9, rfl, tyX9_ok, nmX9, rfl, by decide +kernel⟩
theorem fpX9_4 : FP 9 4 (.object RX3) := ⟨RX9, TX9, 14, tyX9, rfl, tyX9_ok, nmX9, rfl, by decide +kernel⟩
theorem fpX10_0 : FP 10 0 .int := ⟨RX10, TX10, 72, tyX10, rfl, tyX10_ok, nmX10, rfl, by decide +kernel⟩
theorem fpX10_2 : FP 10 2 .int := ⟨RX10, TX10, 72, tyX10, rfl, tyX10_ok, nmX10, rfl, by decide +kernel⟩
theorem fpX10_4 : FP 10 4 .int := ⟨RX10, TX10, 72, tyX10, rfl, tyX10_ok, nmX10, rfl, by decide +kernel⟩
theorem fpX10_10 : FP 10 10 .int := ⟨RX10, TX10, 72, tyX10, rfl, tyX10_ok, nmX10, rfl, by decide +kernel⟩
theorem fpX10_11 : FP 10 11 .int := ⟨RX10, TX10, 72, tyX10, rfl, tyX10_ok, nmX10, rfl, by decide +kernel⟩
theorem fpX10_12 : FP 10 12 .int := ⟨RX10, TX10, 72, tyX10, rfl, tyX10_ok, nmX10, rfl, by decide +kernel⟩
theorem fpX10_13 : FP 10 13 .int := ⟨RX10, TX10, 72, tyX10, rfl, tyX10_ok, nmX10, rfl, by decide +kernel⟩
theorem fpX10_14 : FP 10 14 .int := ⟨RX10, TX10, 72, tyX10, rfl, tyX10_ok, nmX10, rfl, by decide +kernel⟩
theorem fpX10_15 : FP 10 15 .int := ⟨RX10, TX10, 72, tyX10, rfl, tyX10_ok, nmX10, rfl, by decide +kernel⟩
theorem fpX10_16 : FP 10 16 .int := ⟨RX10, TX10, 72, tyX10, rfl, tyX10_ok, nmX10, rfl, by decide +kernel⟩
theorem fpX10_17 : FP 10 17 .int := ⟨RX10, TX10, 72, tyX10, rfl, tyX10_ok, nmX10, rfl, by decide +kernel⟩
theorem fpX10_18 : FP 10 18 .int := ⟨RX10, TX10, 72, tyX10, rfl, tyX10_ok, nmX10, rfl, by decide +kernel⟩
theorem fpX10_19 : FP 10 19 .int := ⟨RX10, TX10, 72, tyX10, rfl, tyX10_ok, nmX10, rfl, by decide +kernel⟩
theorem fpX10_20 : FP 10 20 .int := ⟨RX10, TX10, 72, tyX10, rfl, tyX10_ok, nmX10, rfl, by decide +kernel⟩
theorem fpX10_36 : FP 10 36 .int := ⟨RX10, TX10, 72, tyX10, rfl, tyX10_ok, nmX10, rfl, by decide +kernel⟩
theorem fpX10_42 : FP 10 42 .int := ⟨RX10, TX10, 72, tyX10, rfl, tyX10_ok, nmX10, rfl, by decide +kernel⟩
theorem fpX10_46 : FP 10 46 .int := ⟨RX10, TX10, 72, tyX10, rfl, tyX10_ok, nmX10, rfl, by decide +kernel⟩
theorem fpX10_49 : FP 10 49 .boolean := ⟨RX10, TX10, 72, tyX10, rfl, tyX10_ok, nmX10, rfl, by decide +kernel⟩
theorem fpX10_52 : FP 10 52 .int := ⟨RX10, TX10, 72, tyX10, rfl, tyX10_ok, nmX10, rfl, by decide +kernel⟩
theorem fpX10_53 : FP 10 53 .int := ⟨RX10, TX10, 72, tyX10, rfl, tyX10_ok, nmX10, rfl, by decide +kernel⟩
theorem fpX10_55 : FP 10 55 .int := ⟨RX10, TX10, 72, tyX10, rfl, tyX10_ok, nmX10, rfl, by decide +kernel⟩
theorem fpX10_56 : FP 10 56 .int := ⟨RX10, TX10, 72, tyX10, rfl, tyX10_ok, nmX10, rfl, by decide +kernel⟩
theorem fpX10_61 : FP 10 61 .int := ⟨RX10, TX10, 72, tyX10, rfl, tyX10_ok, nmX10, rfl, by decide +kernel⟩
theorem fpX10_62 : FP 10 62 .int := ⟨RX10, TX10, 72, tyX10, rfl, tyX10_ok, nmX10, rfl, by decide +kernel⟩
theorem fpX10_63 : FP 10 63 .int := ⟨RX10, TX10, 72, tyX10, rfl, tyX10_ok, nmX10, rfl, by decide +kernel⟩
theorem fpX10_65 : FP 10 65 .int := ⟨RX10, TX10, 72, tyX10, rfl, tyX10_ok, nmX10, rfl, by decide +kernel⟩
