theorem inX0 : ∀ w ∈ u_ws RX0 TX0 15, w ∈ gtbl := by decide +kernel
theorem ptX0 : PT TX0 15 tyX0 := ⟨tyX0_ok, nmX0⟩
theorem inX1 : ∀ w ∈ u_ws RX1 TX1 5, w ∈ gtbl := by decide +kernel
theorem ptX1 : PT TX1 5 tyX1 := ⟨tyX1_ok, nmX1⟩
theorem inX2 : ∀ w ∈ u_ws RX2 TX2 11, w ∈ gtbl := by decide +kernel
theorem ptX2 : PT TX2 11 tyX2 := ⟨tyX2_ok, nmX2⟩
theorem inX3 : ∀ w ∈ u_ws RX3 TX3 12, w ∈ gtbl := by decide +kernel
theorem ptX3 : PT TX3 12 tyX3 := ⟨tyX3_ok, nmX3⟩
theorem inX4 : ∀ w ∈ u_ws RX4 TX4 7, w ∈ gtbl := by decide +kernel
theorem ptX4 : PT TX4 7 tyX4 := ⟨tyX4_ok, nmX4⟩
theorem inX5 : ∀ w ∈ u_ws RX5 TX5 6, w ∈ gtbl := by decide +kernel
theorem ptX5 : PT TX5 6 tyX5 := ⟨tyX5_ok, nmX5⟩
theorem inX6 : ∀ w ∈ u_ws RX6 TX6 7, w ∈ gtbl := by decide +kernel
theorem ptX6 : PT TX6 7 tyX6 := ⟨tyX6_ok, nmX6⟩
theorem inX7 : ∀ w ∈ u_ws RX7 TX7 2, w ∈ gtbl := by decide +kernel
theorem ptX7 : PT TX7 2 tyX7 := ⟨tyX7_ok, nmX7⟩
theorem inX8 : ∀ w ∈ u_ws RX8 TX8 6, w ∈ gtbl := by decide +kernel
theorem ptX8 : PT TX8 6 tyX8 := ⟨tyX8_ok, nmX8⟩
theorem inX9 : ∀ w ∈ u_ws RX9 TX9 5, w ∈ gtbl := by decide +kernel
theorem ptX9 : PT TX9 5 tyX9 := ⟨tyX9_ok, nmX9⟩
theorem inX10 : ∀ w ∈ u_ws RX10 TX10 4, w ∈ gtbl := by decide +kernel
theorem ptX10 : PT TX10 4 tyX10 := ⟨tyX10_ok, nmX10⟩
theorem inX11 : ∀ w ∈ u_ws RX11 TX11 16, w ∈ gtbl := by decide +kernel
theorem ptX11 : PT TX11 16 tyX11 := ⟨tyX11_ok, nmX11⟩
theorem inX12 : ∀ w ∈ u_ws RX12 TX12 68, w ∈ gtbl := by decide +kernel
theorem ptX12 : PT TX12 68 tyX12 := ⟨tyX12_ok, nmX12⟩
theorem fl_X9_11 : FL RX9 11 9 0 RX9 TX9 5 := ⟨rfl, by decide, inX9, List.mem_of_getElem? (i := 141) (by decide +kernel)⟩
theorem fl_X9_15 : FL RX9 15 9 1 RX9 TX9 5 := ⟨rfl, by decide, inX9, List.mem_of_getElem? (i := 142) (by decide +kernel)⟩
theorem fl_X11_131 : FL RX11 131 9 1 RX9 TX9 5 := ⟨rfl, by decide, inX9, List.mem_of_getElem? (i := 143) (by decide +kernel)⟩
theorem fl_X9_27 : FL RX9 27 9 2 RX9 TX9 5 := ⟨rfl, by decide, inX9, List.mem_of_getElem? (i := 144) (by decide +kernel)⟩
theorem fl_X9_30 : FL RX9 30 9 3 RX9 TX9 5 := ⟨rfl, by decide, inX9, List.mem_of_getElem? (i := 145) (by decide +kernel)⟩
theorem fl_X11_148 : FL RX11 148 9 4 RX9 TX9 5 := ⟨rfl, by decide, inX9, List.mem_of_getElem? (i := 146) (by decide +kernel)⟩
theorem fl_X9_33 : FL RX9 33 9 4 RX9 TX9 5 := ⟨rfl, by decide, inX9, List.mem_of_getElem? (i := 147) (by decide +kernel)⟩
theorem fl_X10_9 : FL RX10 9 10 0 RX10 TX10 4 := ⟨rfl, by decide, inX10, List.mem_of_getElem? (i := 169) (by decide +kernel)⟩
theorem fl_X0_137 : FL RX0 137 10 0 RX10 TX10 4 := ⟨rfl, by decide, inX10, List.mem_of_getElem? (i := 170) (by decide +kernel)⟩
theorem fl_X11_307 : FL RX11 307 10 0 RX10 TX10 4 := ⟨rfl, by decide, inX10, List.mem_of_getElem? (i := 171) (by decide +kernel)⟩
theorem fl_X10_15 : FL RX10 15 10 1 RX10 TX10 4 := ⟨rfl, by decide, inX10, List.mem_of_getElem? (i := 172) (by decide +kernel)⟩
theorem fl_X8_33 : FL RX8 33 10 1 RX10 TX10 4 := ⟨rfl, by decide, inX10, List.mem_of_getElem? (i := 173) (by decide +kernel)⟩
theorem fl_X3_63 : FL RX3 63 10 1 RX10 TX10 4 := ⟨rfl, by decide, inX10, List.mem_of_getElem? (i := 174) (by decide +kernel)⟩
theorem fl_X2_54 : FL RX2 54 10 1 RX10 TX10 4 := ⟨rfl, by decide, inX10, List.mem_of_getElem? (i := 175) (by decide +kernel)⟩
theorem fl_X0_129 : FL RX0 129 10 1 RX10 TX10 4 := ⟨rfl, by decide, inX10, List.mem_of_getElem? (i := 176) (by decide +kernel)⟩
theorem fl_X11_304 : FL RX11 304 10 1 RX10 TX10 4 := ⟨rfl, by decide, inX10, List.mem_of_getElem? (i := 177) (by decide +kernel)⟩
theorem fl_X10_18 : FL RX10 18 10 2 RX10 TX10 4 := ⟨rfl, by decide, inX10, List.mem_of_getElem? (i := 178) (by decide +kernel)⟩
theorem fl_X8_44 : FL RX8 44 10 2 RX10 TX10 4 := ⟨rfl, by decide, inX10, List.mem_of_getElem? (i := 179) (by decide +kernel)⟩
theorem fl_X5_46 : FL RX5 46 10 2 RX10 TX10 4 := ⟨rfl, by decide, inX10, List.mem_of_getElem? (i := 180) (by decide +kernel)⟩
theorem fl_X3_72 : FL RX3 72 10 2 RX10 TX10 4 := ⟨rfl, by decide, inX10, List.mem_of_getElem? (i := 181) (by decide +kernel)⟩
theorem fl_X11_157 : FL RX11 157 10 2 RX10 TX10 4 := ⟨rfl, by decide, inX10, List.mem_of_getElem? (i := 182) (by decide +kernel)⟩
theorem fl_X10_27 : FL RX10 27 10 3 RX10 TX10 4 := ⟨rfl, by decide, inX10, List.mem_of_getElem? (i := 183) (by decide +kernel)⟩
theorem fl_X0_140 : FL RX0 140 10 3 RX10 TX10 4 := ⟨rfl, by decide, inX10, List.mem_of_getElem? (i := 184) (by decide +kernel)⟩
theorem fl_X4_9 : FL RX4 9 4 0 RX4 TX4 7 := ⟨rfl, by decide, inX4, List.mem_of_getElem? (i := 200) (by decide +kernel)⟩
theorem fl_X0_97 : FL RX0 97 4 0 RX4 TX4 7 := ⟨rfl, by decide, inX4, List.mem_of_getElem? (i := 201) (by decide +kernel)⟩
theorem fl_X4_15 : FL RX4 15 4 1 RX4 TX4 7 := ⟨rfl, by decide, inX4, List.mem_of_getElem? (i := 202) (by decide +kernel)⟩
theorem fl_X0_103 : FL RX0 103 4 1 RX4 TX4 7 := ⟨rfl, by decide, inX4, List.mem_of_getElem? (i := 203) (by decide +kernel)⟩
theorem fl_X4_18 : FL RX4 18 4 2 RX4 TX4 7 := ⟨rfl, by decide, inX4, List.mem_of_getElem? (i := 204) (by decide +kernel)⟩
theorem fl_X0_113 : FL RX0 113 4 2 RX4 TX4 7 := ⟨rfl, by decide, inX4, List.mem_of_getElem? (i := 205) (by decide +kernel)⟩
theorem fl_X4_21 : FL RX4 21 4 3 RX4 TX4 7 := ⟨rfl, by decide, inX4, List.mem_of_getElem? (i := 206) (by decide +kernel)⟩
theorem fl_X0_100 : FL RX0 100 4 3 RX4 TX4 7 := ⟨rfl, by decide, inX4, List.mem_of_getElem? (i := 207) (by decide +kernel)⟩
theorem fl_X4_24 : FL RX4 24 4 4 RX4 TX4 7 := ⟨rfl, by decide, inX4, List.mem_of_getElem? (i := 208) (by decide +kernel)⟩
theorem fl_X0_110 : FL RX0 110 4 4 RX4 TX4 7 := ⟨rfl, by decide, inX4, List.mem_of_getElem? (i := 209) (by decide +kernel)⟩
theorem fl_X4_27 : FL RX4 27 4 5 RX4 TX4 7 := ⟨rfl, by decide, inX4, List.mem_of_getElem? (i := 210) (by decide +kernel)⟩
theorem fl_X0_48 : FL RX0 48 4 5 RX4 TX4 7 := ⟨rfl, by decide, inX4, List.mem_of_getElem? (i := 211) (by decide +kernel)⟩
theorem fl_X4_31 : FL RX4 31 4 6 RX4 TX4 7 := ⟨rfl, by decide, inX4, List.mem_of_getElem? (i := 212) (by decide +kernel)⟩
theorem fl_X11_151 : FL RX11 151 4 6 RX4 TX4 7 := ⟨rfl, by decide, inX4, List.mem_of_getElem? (i := 213) (by decide +kernel)⟩
theorem fl_X6_9 : FL RX6 9 6 0 RX6 TX6 7 := ⟨rfl, by decide, inX6, List.mem_of_getElem? (i := 234) (by decide +kernel)⟩
theorem fl_X6_15 : FL RX6 15 6 1 RX6 TX6 7 := ⟨rfl, by decide, inX6, List.mem_of_getElem? (i := 235) (by decide +kernel)⟩
theorem fl_X7_63 : FL RX7 63 6 1 RX6 TX6 7 := ⟨rfl, by decide, inX6, List.mem_of_getElem? (i := 236) (by decide +kernel)⟩
theorem fl_X6_21 : FL RX6 21 6 2 RX6 TX6 7 := ⟨rfl, by decide, inX6, List.mem_of_getElem? (i := 237) (by decide +kernel)⟩
theorem fl_X7_19 : FL RX7 19 6 2 RX6 TX6 7 := ⟨rfl, by decide, inX6, List.mem_of_getElem? (i := 238) (by decide +kernel)⟩
theorem fl_X6_18 : FL RX6 18 6 3 RX6 TX6 7 := ⟨rfl, by decide, inX6, List.mem_of_getElem? (i := 239) (by decide +kernel)⟩
theorem fl_X6_25 : FL RX6 25 6 4 RX6 TX6 7 := ⟨rfl, by decide, inX6, List.mem_of_getElem? (i := 240) (by decide +kernel)⟩
theorem fl_X6_28 : FL RX6 28 6 5 RX6 TX6 7 := ⟨rfl, by decide, inX6, List.mem_of_getElem? (i := 241) (by decide +kernel)⟩
theorem fl_X6_32 : FL RX6 32 6 6 RX6 TX6 7 := ⟨rfl, by decide, inX6, List.mem_of_getElem? (i := 242) (by decide +kernel)⟩
theorem fl_X7_9 : FL RX7 9 7 0 RX7 TX7 2 := ⟨rfl, by decide, inX7, List.mem_of_getElem? (i := 264) (by decide +kernel)⟩
theorem fl_X7_15 : FL RX7 15 7 1 RX7 TX7 2 := ⟨rfl, by decide, inX7, List.mem_of_getElem? (i := 265) (by decide +kernel)⟩
theorem fl_X0_21 : FL RX0 21 0 0 RX0 TX0 15 := ⟨rfl, by decide, inX0, List.mem_of_getElem? (i := 277) (by decide +kernel)⟩
theorem fl_X0_9 : FL RX0 9 0 1 RX0 TX0 15 := ⟨rfl, by decide, inX0, List.mem_of_getElem? (i := 278) (by decide +kernel)⟩
theorem fl_X0_15 : FL RX0 15 0 2 RX0 TX0 15 := ⟨rfl, by decide, inX0, List.mem_of_getElem? (i := 279) (by decide +kernel)⟩
theorem fl_X11_188 : FL RX11 188 0 2 RX0 TX0 15 := ⟨rfl, by decide, inX0, List.mem_of_getElem? (i := 280) (by decide +kernel)⟩
theorem fl_X3_105 : FL RX3 105 0 2 RX0 TX0 15 := ⟨rfl, by decide, inX0, List.mem_of_getElem? (i := 281) (by decide +kernel)⟩
theorem fl_X0_29 : FL RX0 29 0 3 RX0 TX0 15 := ⟨rfl, by decide, inX0, List.mem_of_getElem? (i := 282) (by decide +kernel)⟩
theorem fl_X11_175 : FL RX11 175 0 3 RX0 TX0 15 := ⟨rfl, by decide, inX0, List.mem_of_getElem? (i := 283) (by decide +kernel)⟩
theorem fl_X0_33 : FL RX0 33 0 4 RX0 TX0 15 := ⟨rfl, by decide, inX0, List.mem_of_getElem? (i := 284) (by decide +kernel)⟩
theorem fl_X11_178 : FL RX11 178 0 4 RX0 TX0 15 := ⟨rfl, by decide, inX0, List.mem_of_getElem? (i := 285) (by decide +kernel)⟩
theorem fl_X0_36 : FL RX0 36 0 5 RX0 TX0 15 := ⟨rfl, by decide, inX0, List.mem_of_getElem? (i := 286) (by decide +kernel)⟩
theorem fl_X8_68 : FL RX8 68 0 5 RX0 TX0 15 := ⟨rfl, by decide, inX0, List.mem_of_getElem? (i := 287) (by decide +kernel)⟩
theorem fl_X11_181 : FL RX11 181 0 5 RX0 TX0 15 := ⟨rfl, by decide, inX0, List.mem_of_getElem? (i := 288) (by decide +kernel)⟩
theorem fl_X5_33 : FL RX5 33 0 6 RX0 TX0 15 := ⟨rfl, by decide, inX0, List.mem_of_getElem? (i := 289) (by decide +kernel)⟩
theorem fl_X0_39 : FL RX0 39 0 6 RX0 TX0 15 := ⟨rfl, by decide, inX0, List.mem_of_getElem? (i := 290) (by decide +kernel)⟩
theorem fl_X2_75 : FL RX2 75 0 6 RX0 TX0 15 := ⟨rfl, by decide, inX0, List.mem_of_getElem? (i := 291) (by decide +kernel)⟩
theorem fl_X11_172 : FL RX11 172 0 6 RX0 TX0 15 := ⟨rfl, by decide, inX0, List.mem_of_getElem? (i := 292) (by decide +kernel)⟩
theorem fl_X0_42 : FL RX0 42 0 7 RX0 TX0 15 := ⟨rfl, by decide, inX0, List.mem_of_getElem? (i := 293) (by decide +kernel)⟩
theorem fl_X11_323 : FL RX11 323 0 7 RX0 TX0 15 := ⟨rfl, by decide, inX0, List.mem_of_getElem? (i := 294) (by decide +kernel)⟩
theorem fl_X0_45 : FL RX0 45 0 8 RX0 TX0 15 := ⟨rfl, by decide, inX0, List.mem_of_getElem? (i := 295) (by decide +kernel)⟩
theorem fl_X8_60 : FL RX8 60 0 8 RX0 TX0 15 := ⟨rfl, by decide, inX0, List.mem_of_getElem? (i := 296) (by decide +kernel)⟩
theorem fl_X11_169 : FL RX11 169 0 8 RX0 TX0 15 := ⟨rfl, by decide, inX0, List.mem_of_getElem? (i := 297) (by decide +kernel)⟩
theorem fl_X0_18 : FL RX0 18 0 9 RX0 TX0 15 := ⟨rfl, by decide, inX0, List.mem_of_getElem? (i := 298) (by decide +kernel)⟩
theorem fl_X0_64 : FL RX0 64 0 10 RX0 TX0 15 := ⟨rfl, by decide, inX0, List.mem_of_getElem? (i := 299) (by decide +kernel)⟩
theorem fl_X0_75 : FL RX0 75 0 11 RX0 TX0 15 := ⟨rfl, by decide, inX0, List.mem_of_getElem? (i := 300) (by decide +kernel)⟩
theorem fl_X0_78 : FL RX0 78 0 12 RX0 TX0 15 := ⟨rfl, by decide, inX0, List.mem_of_getElem? (i := 301) (by decide +kernel)⟩
theorem fl_X0_81 : FL RX0 81 0 13 RX0 TX0 15 := ⟨rfl, by decide, inX0, List.mem_of_getElem? (i := 302) (by decide +kernel)⟩
theorem fl_X0_84 : FL RX0 84 0 14 RX0 TX0 15 := ⟨rfl, by decide, inX0, List.mem_of_getElem? (i := 303) (by decide +kernel)⟩
theorem fl_X8_18 : FL RX8 18 8 0 RX8 TX8 6 := ⟨rfl, by decide, inX8, List.mem_of_getElem? (i := 341) (by decide +kernel)⟩
theorem fl_X8_22 : FL RX8 22 8 1 RX8 TX8 6 := ⟨rfl, by decide, inX8, List.mem_of_getElem? (i := 342) (by decide +kernel)⟩
theorem fl_X8_26 : FL RX8 26 8 2 RX8 TX8 6 := ⟨rfl, by decide, inX8, List.mem_of_getElem? (i := 343) (by decide +kernel)⟩
theorem fl_X8_9 : FL RX8 9 8 3 RX8 TX8 6 := ⟨rfl, by decide, inX8, List.mem_of_getElem? (i := 344) (by decide +kernel)⟩
theorem fl_X8_15 : FL RX8 15 8 4 RX8 TX8 6 := ⟨rfl, by decide, inX8, List.mem_of_getElem? (i := 345) (by decide +kernel)⟩
theorem fl_X8_29 : FL RX8 29 8 5 RX8 TX8 6 := ⟨rfl, by decide, inX8, List.mem_of_getElem? (i := 346) (by decide +kernel)⟩
theorem fl_X5_7 : FL RX5 7 5 0 RX5 TX5 6 := ⟨rfl, by decide, inX5, List.mem_of_getElem? (i := 366) (by decide +kernel)⟩
theorem fl_X5_13 : FL RX5 13 5 1 RX5 TX5 6 := ⟨rfl, by decide, inX5, List.mem_of_getElem? (i := 367) (by decide +kernel)⟩
theorem fl_X5_17 : FL RX5 17 5 2 RX5 TX5 6 := ⟨rfl, by decide, inX5, List.mem_of_getElem? (i := 368) (by decide +kernel)⟩
theorem fl_X5_20 : FL RX5 20 5 3 RX5 TX5 6 := ⟨rfl, by decide, inX5, List.mem_of_getElem? (i := 369) (by decide +kernel)⟩
theorem fl_X11_221 : FL RX11 221 5 3 RX5 TX5 6 := ⟨rfl, by decide, inX5, List.mem_of_getElem? (i := 370) (by decide +kernel)⟩
theorem fl_X5_43 : FL RX5 43 5 4 RX5 TX5 6 := ⟨rfl, by decide, inX5, List.mem_of_getElem? (i := 371) (by decide +kernel)⟩
theorem fl_X11_224 : FL RX11 224 5 4 RX5 TX5 6 := ⟨rfl, by decide, inX5, List.mem_of_getElem? (i := 372) (by decide +kernel)⟩
theorem fl_X5_36 : FL RX5 36 5 5 RX5 TX5 6 := ⟨rfl, by decide, inX5, List.mem_of_getElem? (i := 373) (by decide +kernel)⟩
theorem fl_X11_227 : FL RX11 227 5 5 RX5 TX5 6 := ⟨rfl, by decide, inX5, List.mem_of_getElem? (i := 374) (by decide +kernel)⟩
theorem fl_X3_39 : FL RX3 39 3 0 RX3 TX3 12 := ⟨rfl, by decide, inX3, List.mem_of_getElem? (i := 397) (by decide +kernel)⟩
theorem fl_X3_43 : FL RX3 43 3 1 RX3 TX3 12 := ⟨rfl, by decide, inX3, List.mem_of_getElem? (i := 398) (by decide +kernel)⟩
theorem fl_X3_9 : FL RX3 9 3 2 RX3 TX3 12 := ⟨rfl, by decide, inX3, List.mem_of_getElem? (i := 399) (by decide +kernel)⟩
theorem fl_X11_228 : FL RX11 228 3 2 RX3 TX3 12 := ⟨rfl, by decide, inX3, List.mem_of_getElem? (i := 400) (by decide +kernel)⟩
theorem fl_X3_15 : FL RX3 15 3 3 RX3 TX3 12 := ⟨rfl, by decide, inX3, List.mem_of_getElem? (i := 401) (by decide +kernel)⟩
theorem fl_X11_241 : FL RX11 241 3 3 RX3 TX3 12 := ⟨rfl, by decide, inX3, List.mem_of_getElem? (i := 402) (by decide +kernel)⟩
theorem fl_X3_18 : FL RX3 18 3 4 RX3 TX3 12 := ⟨rfl, by decide, inX3, List.mem_of_getElem? (i := 403) (by decide +kernel)⟩
theorem fl_X3_21 : FL RX3 21 3 5 RX3 TX3 12 := ⟨rfl, by decide, inX3, List.mem_of_getElem? (i := 404) (by decide +kernel)⟩
theorem fl_X3_24 : FL RX3 24 3 6 RX3 TX3 12 := ⟨rfl, by decide, inX3, List.mem_of_getElem? (i := 405) (by decide +kernel)⟩
theorem fl_X3_27 : FL RX3 27 3 7 RX3 TX3 12 := ⟨rfl, by decide, inX3, List.mem_of_getElem? (i := 406) (by decide +kernel)⟩
theorem fl_X3_30 : FL RX3 30 3 8 RX3 TX3 12 := ⟨rfl, by decide, inX3, List.mem_of_getElem? (i := 407) (by decide +kernel)⟩
theorem fl_X3_33 : FL RX3 33 3 9 RX3 TX3 12 := ⟨rfl, by decide, inX3, List.mem_of_getElem? (i := 408) (by decide +kernel)⟩
theorem fl_X3_36 : FL RX3 36 3 10 RX3 TX3 12 := ⟨rfl, by decide, inX3, List.mem_of_getElem? (i := 409) (by decide +kernel)⟩
theorem fl_X3_79 : FL RX3 79 3 11 RX3 TX3 12 := ⟨rfl, by decide, inX3, List.mem_of_getElem? (i := 410) (by decide +kernel)⟩
theorem fl_X2_36 : FL RX2 36 2 0 RX2 TX2 11 := ⟨rfl, by decide, inX2, List.mem_of_getElem? (i := 442) (by decide +kernel)⟩
theorem fl_X2_40 : FL RX2 40 2 1 RX2 TX2 11 := ⟨rfl, by decide, inX2, List.mem_of_getElem? (i := 443) (by decide +kernel)⟩
theorem fl_X2_9 : FL RX2 9 2 2 RX2 TX2 11 := ⟨rfl, by decide, inX2, List.mem_of_getElem? (i := 444) (by decide +kernel)⟩
theorem fl_X11_248 : FL RX11 248 2 2 RX2 TX2 11 := ⟨rfl, by decide, inX2, List.mem_of_getElem? (i := 445) (by decide +kernel)⟩
theorem fl_X2_15 : FL RX2 15 2 3 RX2 TX2 11 := ⟨rfl, by decide, inX2, List.mem_of_getElem? (i := 446) (by decide +kernel)⟩
theorem fl_X11_270 : FL RX11 270 2 3 RX2 TX2 11 := ⟨rfl, by decide, inX2, List.mem_of_getElem? (i := 447) (by decide +kernel)⟩
theorem fl_X2_18 : FL RX2 18 2 4 RX2 TX2 11 := ⟨rfl, by decide, inX2, List.mem_of_getElem? (i := 448) (by decide +kernel)⟩
theorem fl_X2_21 : FL RX2 21 2 5 RX2 TX2 11 := ⟨rfl, by decide, inX2, List.mem_of_getElem? (i := 449) (by decide +kernel)⟩
theorem fl_X2_24 : FL RX2 24 2 6 RX2 TX2 11 := ⟨rfl, by decide, inX2, List.mem_of_getElem? (i := 450) (by decide +kernel)⟩
theorem fl_X2_27 : FL RX2 27 2 7 RX2 TX2 11 := ⟨rfl, by decide, inX2, List.mem_of_getElem? (i := 451) (by decide +kernel)⟩
theorem fl_X2_30 : FL RX2 30 2 8 RX2 TX2 11 := ⟨rfl, by decide, inX2, List.mem_of_getElem? (i := 452) (by decide +kernel)⟩
theorem fl_X2_33 : FL RX2 33 2 9 RX2 TX2 11 := ⟨rfl, by decide, inX2, List.mem_of_getElem? (i := 453) (by decide +kernel)⟩
theorem fl_X11_276 : FL RX11 276 2 9 RX2 TX2 11 := ⟨rfl, by decide, inX2, List.mem_of_getElem? (i := 454) (by decide +kernel)⟩
theorem fl_X2_50 : FL RX2 50 2 10 RX2 TX2 11 := ⟨rfl, by decide, inX2, List.mem_of_getElem? (i := 455) (by decide +kernel)⟩
theorem fl_X11_267 : FL RX11 267 2 10 RX2 TX2 11 := ⟨rfl, by decide, inX2, List.mem_of_getElem? (i := 456) (by decide +kernel)⟩
theorem fl_X1_9 : FL RX1 9 1 0 RX1 TX1 5 := ⟨rfl, by decide, inX1, List.mem_of_getElem? (i := 485) (by decide +kernel)⟩
theorem fl_X11_289 : FL RX11 289 1 0 RX1 TX1 5 := ⟨rfl, by decide, inX1, List.mem_of_getElem? (i := 486) (by decide +kernel)⟩
theorem fl_X1_19 : FL RX1 19 1 1 RX1 TX1 5 := ⟨rfl, by decide, inX1, List.mem_of_getElem? (i := 487) (by decide +kernel)⟩
theorem fl_X11_196 : FL RX11 196 1 1 RX1 TX1 5 := ⟨rfl, by decide, inX1, List.mem_of_getElem? (i := 488) (by decide +kernel)⟩
theorem fl_X1_23 : FL RX1 23 1 2 RX1 TX1 5 := ⟨rfl, by decide, inX1, List.mem_of_getElem? (i := 489) (by decide +kernel)⟩
theorem fl_X11_197 : FL RX11 197 1 2 RX1 TX1 5 := ⟨rfl, by decide, inX1, List.mem_of_getElem? (i := 490) (by decide +kernel)⟩
theorem fl_X1_26 : FL RX1 26 1 3 RX1 TX1 5 := ⟨rfl, by decide, inX1, List.mem_of_getElem? (i := 491) (by decide +kernel)⟩
theorem fl_X11_191 : FL RX11 191 1 3 RX1 TX1 5 := ⟨rfl, by decide, inX1, List.mem_of_getElem? (i := 492) (by decide +kernel)⟩
theorem fl_X11_104 : FL RX11 104 1 4 RX1 TX1 5 := ⟨rfl, by decide, inX1, List.mem_of_getElem? (i := 493) (by decide +kernel)⟩
theorem fl_X1_29 : FL RX1 29 1 4 RX1 TX1 5 := ⟨rfl, by decide, inX1, List.mem_of_getElem? (i := 494) (by decide +kernel)⟩
theorem fl_X11_10 : FL RX11 10 11 0 RX11 TX11 16 := ⟨rfl, by decide, inX11, List.mem_of_getElem? (i := 506) (by decide +kernel)⟩
theorem fl_X11_19 : FL RX11 19 11 1 RX11 TX11 16 := ⟨rfl, by decide, inX11, List.mem_of_getElem? (i := 507) (by decide +kernel)⟩
theorem fl_X11_25 : FL RX11 25 11 2 RX11 TX11 16 := ⟨rfl, by decide, inX11, List.mem_of_getElem? (i := 508) (by decide +kernel)⟩
theorem fl_X11_30 : FL RX11 30 11 3 RX11 TX11 16 := ⟨rfl, by decide, inX11, List.mem_of_getElem? (i := 509) (by decide +kernel)⟩
theorem fl_X11_37 : FL RX11 37 11 4 RX11 TX11 16 := ⟨rfl, by decide, inX11, List.mem_of_getElem? (i := 510) (by decide +kernel)⟩
theorem fl_X11_41 : FL RX11 41 11 5 RX11 TX11 16 := ⟨rfl, by decide, inX11, List.mem_of_getElem? (i := 511) (by decide +kernel)⟩
theorem fl_X11_49 : FL RX11 49 11 6 RX11 TX11 16 := ⟨rfl, by decide, inX11, List.mem_of_getElem? (i := 512) (by decide +kernel)⟩
theorem fl_X11_58 : FL RX11 58 11 7 RX11 TX11 16 := ⟨rfl, by decide, inX11, List.mem_of_getElem? (i := 513) (by decide +kernel)⟩
theorem fl_X11_62 : FL RX11 62 11 8 RX11 TX11 16 := ⟨rfl, by decide, inX11, List.mem_of_getElem? (i := 514) (by decide +kernel)⟩
theorem fl_X11_70 : FL RX11 70 11 9 RX11 TX11 16 := ⟨rfl, by decide, inX11, List.mem_of_getElem? (i := 515) (by decide +kernel)⟩
theorem fl_X11_77 : FL RX11 77 11 10 RX11 TX11 16 := ⟨rfl, by decide, inX11, List.mem_of_getElem? (i := 516) (by decide +kernel)⟩
theorem fl_X11_86 : FL RX11 86 11 11 RX11 TX11 16 := ⟨rfl, by decide, inX11, List.mem_of_getElem? (i := 517) (by decide +kernel)⟩
theorem fl_X11_93 : FL RX11 93 11 12 RX11 TX11 16 := ⟨rfl, by decide, inX11, List.mem_of_getElem? (i := 518) (by decide +kernel)⟩
theorem fl_X11_100 : FL RX11 100 11 13 RX11 TX11 16 := ⟨rfl, by decide, inX11, List.mem_of_getElem? (i := 519) (by decide +kernel)⟩
theorem fl_X11_108 : FL RX11 108 11 14 RX11 TX11 16 := ⟨rfl, by decide, inX11, List.mem_of_getElem? (i := 520) (by decide +kernel)⟩
theorem fl_X11_111 : FL RX11 111 11 15 RX11 TX11 16 := ⟨rfl, by decide, inX11, List.mem_of_getElem? (i := 521) (by decide +kernel)⟩
theorem fl_X12_129 : FL RX12 129 12 0 RX12 TX12 68 := ⟨rfl, by decide, inX12, List.mem_of_getElem? (i := 1040) (by decide +kernel)⟩
theorem fl_X12_353 : FL RX12 353 12 1 RX12 TX12 68 := ⟨rfl, by decide, inX12, List.mem_of_getElem? (i := 1041) (by decide +kernel)⟩
theorem fl_X12_356 : FL RX12 356 12 2 RX12 TX12 68 := ⟨rfl, by decide, inX12, List.mem_of_getElem? (i := 1042) (by decide +kernel)⟩
theorem fl_X12_350 : FL RX12 350 12 3 RX12 TX12 68 := ⟨rfl, by decide, inX12, List.mem_of_getElem? (i := 1043) (by decide +kernel)⟩
theorem fl_X12_7 : FL RX12 7 12 4 RX12 TX12 68 := ⟨rfl, by decide, inX12, List.mem_of_getElem? (i := 1044) (by decide +kernel)⟩
theorem fl_X12_13 : FL RX12 13 12 5 RX12 TX12 68 := ⟨rfl, by decide, inX12, List.mem_of_getElem? (i := 1045) (by decide +kernel)⟩
theorem fl_X12_16 : FL RX12 16 12 6 RX12 TX12 68 := ⟨rfl, by decide, inX12, List.mem_of_getElem? (i := 1046) (by decide +kernel)⟩
theorem fl_X12_19 : FL RX12 19 12 7 RX12 TX12 68 := ⟨rfl, by decide, inX12, List.mem_of_getElem? (i := 1047) (by decide +kernel)⟩
theorem fl_X12_141 : FL RX12 141 12 8 RX12 TX12 68 := ⟨rfl, by decide, inX12, List.mem_of_getElem? (i := 1048) (by decide +kernel)⟩
theorem fl_X12_148 : FL RX12 148 12 9 RX12 TX12 68 := ⟨rfl, by decide, inX12, List.mem_of_getElem? (i := 1049) (by decide +kernel)⟩
theorem fl_X12_151 : FL RX12 151 12 10 RX12 TX12 68 := ⟨rfl, by decide, inX12, List.mem_of_getElem? (i := 1050) (by decide +kernel)⟩
theorem fl_X12_158 : FL RX12 158 12 11 RX12 TX12 68 := ⟨rfl, by decide, inX12, List.mem_of_getElem? (i := 1051) (by decide +kernel)⟩
theorem fl_X12_176 : FL RX12 176 12 12 RX12 TX12 68 := ⟨rfl, by decide, inX12, List.mem_of_getElem? (i := 1052) (by decide +kernel)⟩
theorem fl_X12_172 : FL RX12 172 12 13 RX12 TX12 68 := ⟨rfl, by decide, inX12, List.mem_of_getElem? (i := 1053) (by decide +kernel)⟩
theorem fl_X12_179 : FL RX12 179 12 14 RX12 TX12 68 := ⟨rfl, by decide, inX12, List.mem_of_getElem? (i := 1054) (by decide +kernel)⟩
theorem fl_X12_165 : FL RX12 165 12 15 RX12 TX12 68 := ⟨rfl, by decide, inX12, List.mem_of_getElem? (i := 1055) (by decide +kernel)⟩
theorem fl_X12_239 : FL RX12 239 12 16 RX12 TX12 68 := ⟨rfl, by decide, inX12, List.mem_of_getElem? (i := 1056) (by decide +kernel)⟩
theorem fl_X12_23 : FL RX12 23 12 17 RX12 TX12 68 := ⟨rfl, by decide, inX12, List.mem_of_getElem? (i := 1057) (by decide +kernel)⟩
theorem fl_X12_26 : FL RX12 26 12 18 RX12 TX12 68 := ⟨rfl, by decide, inX12, List.mem_of_getElem? (i := 1058) (by decide +kernel)⟩
theorem fl_X12_29 : FL RX12 29 12 19 RX12 TX12 68 := ⟨rfl, by decide, inX12, List.mem_of_getElem? (i := 1059) (by decide +kernel)⟩
theorem fl_X12_32 : FL RX12 32 12 20 RX12 TX12 68 := ⟨rfl, by decide, inX12, List.mem_of_getElem? (i := 1060) (by decide +kernel)⟩
theorem fl_X12_35 : FL RX12 35 12 21 RX12 TX12 68 := ⟨rfl, by decide, inX12, List.mem_of_getElem? (i := 1061) (by decide +kernel)⟩
theorem fl_X12_38 : FL RX12 38 12 22 RX12 TX12 68 := ⟨rfl, by decide, inX12, List.mem_of_getElem? (i := 1062) (by decide +kernel)⟩
theorem fl_X12_41 : FL RX12 41 12 23 RX12 TX12 68 := ⟨rfl, by decide, inX12, List.mem_of_getElem? (i := 1063) (by decide +kernel)⟩
theorem fl_X12_44 : FL RX12 44 12 24 RX12 TX12 68 := ⟨rfl, by decide, inX12, List.mem_of_getElem? (i := 1064) (by decide +kernel)⟩
theorem fl_X12_47 : FL RX12 47 12 25 RX12 TX12 68 := ⟨rfl, by decide, inX12, List.mem_of_getElem? (i := 1065) (by decide +kernel)⟩
theorem fl_X12_50 : FL RX12 50 12 26 RX12 TX12 68 := ⟨rfl, by decide, inX12, List.mem_of_getElem? (i := 1066) (by decide +kernel)⟩
theorem fl_X12_53 : FL RX12 53 12 27 RX12 TX12 68 := ⟨rfl, by decide, inX12, List.mem_of_getElem? (i := 1067) (by decide +kernel)⟩
theorem fl_X12_56 : FL RX12 56 12 28 RX12 TX12 68 := ⟨rfl, by decide, inX12, List.mem_of_getElem? (i := 1068) (by decide +kernel)⟩
theorem fl_X12_59 : FL RX12 59 12 29 RX12 TX12 68 := ⟨rfl, by decide, inX12, List.mem_of_getElem? (i := 1069) (by decide +kernel)⟩
theorem fl_X12_62 : FL RX12 62 12 30 RX12 TX12 68 := ⟨rfl, by decide, inX12, List.mem_of_getElem? (i := 1070) (by decide +kernel)⟩
theorem fl_X12_65 : FL RX12 65 12 31 RX12 TX12 68 := ⟨rfl, by decide, inX12, List.mem_of_getElem? (i := 1071) (by decide +kernel)⟩
theorem fl_X12_252 : FL RX12 252 12 32 RX12 TX12 68 := ⟨rfl, by decide, inX12, List.mem_of_getElem? (i := 1072) (by decide +kernel)⟩
theorem fl_X12_259 : FL RX12 259 12 33 RX12 TX12 68 := ⟨rfl, by decide, inX12, List.mem_of_getElem? (i := 1073) (by decide +kernel)⟩
theorem fl_X12_246 : FL RX12 246 12 34 RX12 TX12 68 := ⟨rfl, by decide, inX12, List.mem_of_getElem? (i := 1074) (by decide +kernel)⟩
theorem fl_X12_68 : FL RX12 68 12 35 RX12 TX12 68 := ⟨rfl, by decide, inX12, List.mem_of_getElem? (i := 1075) (by decide +kernel)⟩
theorem fl_X12_71 : FL RX12 71 12 36 RX12 TX12 68 := ⟨rfl, by decide, inX12, List.mem_of_getElem? (i := 1076) (by decide +kernel)⟩
theorem fl_X12_286 : FL RX12 286 12 37 RX12 TX12 68 := ⟨rfl, by decide, inX12, List.mem_of_getElem? (i := 1077) (by decide +kernel)⟩
theorem fl_X12_289 : FL RX12 289 12 38 RX12 TX12 68 := ⟨rfl, by decide, inX12, List.mem_of_getElem? (i := 1078) (by decide +kernel)⟩
theorem fl_X12_292 : FL RX12 292 12 39 RX12 TX12 68 := ⟨rfl, by decide, inX12, List.mem_of_getElem? (i := 1079) (by decide +kernel)⟩
theorem fl_X12_295 : FL RX12 295 12 40 RX12 TX12 68 := ⟨rfl, by decide, inX12, List.mem_of_getElem? (i := 1080) (by decide +kernel)⟩
theorem fl_X12_298 : FL RX12 298 12 41 RX12 TX12 68 := ⟨rfl, by decide, inX12, List.mem_of_getElem? (i := 1081) (by decide +kernel)⟩
theorem fl_X12_301 : FL RX12 301 12 42 RX12 TX12 68 := ⟨rfl, by decide, inX12, List.mem_of_getElem? (i := 1082) (by decide +kernel)⟩
theorem fl_X12_74 : FL RX12 74 12 43 RX12 TX12 68 := ⟨rfl, by decide, inX12, List.mem_of_getElem? (i := 1083) (by decide +kernel)⟩
theorem fl_X12_77 : FL RX12 77 12 44 RX12 TX12 68 := ⟨rfl, by decide, inX12, List.mem_of_getElem? (i := 1084) (by decide +kernel)⟩
theorem fl_X12_80 : FL RX12 80 12 45 RX12 TX12 68 := ⟨rfl, by decide, inX12, List.mem_of_getElem? (i := 1085) (by decide +kernel)⟩
theorem fl_X12_362 : FL RX12 362 12 46 RX12 TX12 68 := ⟨rfl, by decide, inX12, List.mem_of_getElem? (i := 1086) (by decide +kernel)⟩
theorem fl_X12_83 : FL RX12 83 12 47 RX12 TX12 68 := ⟨rfl, by decide, inX12, List.mem_of_getElem? (i := 1087) (by decide +kernel)⟩
theorem fl_X12_87 : FL RX12 87 12 48 RX12 TX12 68 := ⟨rfl, by decide, inX12, List.mem_of_getElem? (i := 1088) (by decide +kernel)⟩
theorem fl_X12_90 : FL RX12 90 12 49 RX12 TX12 68 := ⟨rfl, by decide, inX12, List.mem_of_getElem? (i := 1089) (by decide +kernel)⟩
theorem fl_X12_93 : FL RX12 93 12 50 RX12 TX12 68 := ⟨rfl, by decide, inX12, List.mem_of_getElem? (i := 1090) (by decide +kernel)⟩
theorem fl_X12_96 : FL RX12 96 12 51 RX12 TX12 68 := ⟨rfl, by decide, inX12, List.mem_of_getElem? (i := 1091) (by decide +kernel)⟩
theorem fl_X12_99 : FL RX12 99 12 52 RX12 TX12 68 := ⟨rfl, by decide, inX12, List.mem_of_getElem? (i := 1092) (by decide +kernel)⟩
theorem fl_X12_102 : FL RX12 102 12 53 RX12 TX12 68 := ⟨rfl, by decide, inX12, List.mem_of_getElem? (i := 1093) (by decide +kernel)⟩
theorem fl_X12_105 : FL RX12 105 12 54 RX12 TX12 68 := ⟨rfl, by decide, inX12, List.mem_of_getElem? (i := 1094) (by decide +kernel)⟩
theorem fl_X12_414 : FL RX12 414 12 55 RX12 TX12 68 := ⟨rfl, by decide, inX12, List.mem_of_getElem? (i := 1095) (by decide +kernel)⟩
theorem fl_X12_108 : FL RX12 108 12 56 RX12 TX12 68 := ⟨rfl, by decide, inX12, List.mem_of_getElem? (i := 1096) (by decide +kernel)⟩
theorem fl_X12_111 : FL RX12 111 12 57 RX12 TX12 68 := ⟨rfl, by decide, inX12, List.mem_of_getElem? (i := 1097) (by decide +kernel)⟩
theorem fl_X12_114 : FL RX12 114 12 58 RX12 TX12 68 := ⟨rfl, by decide, inX12, List.mem_of_getElem? (i := 1098) (by decide +kernel)⟩
theorem fl_X12_117 : FL RX12 117 12 59 RX12 TX12 68 := ⟨rfl, by decide, inX12, List.mem_of_getElem? (i := 1099) (by decide +kernel)⟩
theorem fl_X12_120 : FL RX12 120 12 60 RX12 TX12 68 := ⟨rfl, by decide, inX12, List.mem_of_getElem? (i := 1100) (by decide +kernel)⟩
theorem fl_X12_123 : FL RX12 123 12 61 RX12 TX12 68 := ⟨rfl, by decide, inX12, List.mem_of_getElem? (i := 1101) (by decide +kernel)⟩
theorem fl_X12_426 : FL RX12 426 12 62 RX12 TX12 68 := ⟨rfl, by decide, inX12, List.mem_of_getElem? (i := 1102) (by decide +kernel)⟩
theorem fl_X12_430 : FL RX12 430 12 63 RX12 TX12 68 := ⟨rfl, by decide, inX12, List.mem_of_getElem? (i := 1103) (by decide +kernel)⟩
theorem fl_X12_433 : FL RX12 433 12 64 RX12 TX12 68 := ⟨rfl, by decide, inX12, List.mem_of_getElem? (i := 1104) (by decide +kernel)⟩
theorem fl_X12_436 : FL RX12 436 12 65 RX12 TX12 68 := ⟨rfl, by decide, inX12, List.mem_of_getElem? (i := 1105) (by decide +kernel)⟩
theorem fl_X12_439 : FL RX12 439 12 66 RX12 TX12 68 := ⟨rfl, by decide, inX12, List.mem_of_getElem? (i := 1106) (by decide +kernel)⟩
theorem fl_X12_126 : FL RX12 126 12 67 RX12 TX12 68 := ⟨rfl, by decide, inX12, List.mem_of_getElem? (i := 1107) (by decide +kernel)⟩
theorem ml_L_9 : Cond.methodLink RL 9 yX11_init ∈ gtbl := List.mem_of_getElem? (i := 130) (by decide +kernel)
theorem ml_X11_1 : Cond.methodLink RX11 1 objectInit ∈ gtbl := List.mem_of_getElem? (i := 133) (by decide +kernel)
theorem ml_X9_3 : Cond.methodLink RX9 3 objectInit ∈ gtbl := List.mem_of_getElem? (i := 140) (by decide +kernel)
theorem ml_X11_18 : Cond.methodLink RX11 18 yX10_init ∈ gtbl := List.mem_of_getElem? (i := 162) (by decide +kernel)
theorem ml_X10_3 : Cond.methodLink RX10 3 objectInit ∈ gtbl := List.mem_of_getElem? (i := 165) (by decide +kernel)
theorem ml_X10_21 : Cond.methodLink RX10 21 yJ7_fill_53178 ∈ gtbl := List.mem_of_getElem? (i := 166) (by decide +kernel)
theorem ml_X4_3 : Cond.methodLink RX4 3 objectInit ∈ gtbl := List.mem_of_getElem? (i := 199) (by decide +kernel)
theorem ml_X6_3 : Cond.methodLink RX6 3 objectInit ∈ gtbl := List.mem_of_getElem? (i := 233) (by decide +kernel)
theorem ml_X11_46 : Cond.methodLink RX11 46 yX7_init ∈ gtbl := List.mem_of_getElem? (i := 260) (by decide +kernel)
theorem ml_X7_3 : Cond.methodLink RX7 3 objectInit ∈ gtbl := List.mem_of_getElem? (i := 263) (by decide +kernel)
theorem ml_X11_55 : Cond.methodLink RX11 55 yX0_init ∈ gtbl := List.mem_of_getElem? (i := 273) (by decide +kernel)
theorem ml_X0_3 : Cond.methodLink RX0 3 objectInit ∈ gtbl := List.mem_of_getElem? (i := 276) (by decide +kernel)
theorem ml_X11_67 : Cond.methodLink RX11 67 yX8_init ∈ gtbl := List.mem_of_getElem? (i := 337) (by decide +kernel)
theorem ml_X8_3 : Cond.methodLink RX8 3 objectInit ∈ gtbl := List.mem_of_getElem? (i := 340) (by decide +kernel)
theorem ml_X11_76 : Cond.methodLink RX11 76 yX5_init ∈ gtbl := List.mem_of_getElem? (i := 362) (by decide +kernel)
theorem ml_X5_1 : Cond.methodLink RX5 1 objectInit ∈ gtbl := List.mem_of_getElem? (i := 365) (by decide +kernel)
theorem ml_X11_83 : Cond.methodLink RX11 83 yX3_init ∈ gtbl := List.mem_of_getElem? (i := 390) (by decide +kernel)
theorem ml_X3_3 : Cond.methodLink RX3 3 objectInit ∈ gtbl := List.mem_of_getElem? (i := 393) (by decide +kernel)
theorem ml_X3_47 : Cond.methodLink RX3 47 yJ9_max_7cf53 ∈ gtbl := List.mem_of_getElem? (i := 394) (by decide +kernel)
theorem ml_X11_92 : Cond.methodLink RX11 92 yX2_init ∈ gtbl := List.mem_of_getElem? (i := 438) (by decide +kernel)
theorem ml_X2_3 : Cond.methodLink RX2 3 objectInit ∈ gtbl := List.mem_of_getElem? (i := 441) (by decide +kernel)
theorem ml_X1_3 : Cond.methodLink RX1 3 objectInit ∈ gtbl := List.mem_of_getElem? (i := 484) (by decide +kernel)
theorem ml_L_13 : Cond.methodLink RL 13 yX11_vat ∈ gtbl := List.mem_of_getElem? (i := 555) (by decide +kernel)
theorem ml_X11_115 : Cond.methodLink RX11 115 yX11_within ∈ gtbl := List.mem_of_getElem? (i := 559) (by decide +kernel)
theorem ml_X11_119 : Cond.methodLink RX11 119 yX10_put ∈ gtbl := List.mem_of_getElem? (i := 562) (by decide +kernel)
theorem ml_L_18 : Cond.methodLink RL 18 yX11_feed ∈ gtbl := List.mem_of_getElem? (i := 566) (by decide +kernel)
theorem ml_X11_123 : Cond.methodLink RX11 123 yX9_hasRoom ∈ gtbl := List.mem_of_getElem? (i := 570) (by decide +kernel)
theorem ml_X11_127 : Cond.methodLink RX11 127 yX9_add ∈ gtbl := List.mem_of_getElem? (i := 574) (by decide +kernel)
theorem ml_L_23 : Cond.methodLink RL 23 yX11_recipe ∈ gtbl := List.mem_of_getElem? (i := 578) (by decide +kernel)
theorem ml_X11_134 : Cond.methodLink RX11 134 yX11_isRecipe ∈ gtbl := List.mem_of_getElem? (i := 582) (by decide +kernel)
theorem ml_X11_138 : Cond.methodLink RX11 138 yX11_hasText ∈ gtbl := List.mem_of_getElem? (i := 585) (by decide +kernel)
theorem ml_X11_141 : Cond.methodLink RX11 141 yX4_read ∈ gtbl := List.mem_of_getElem? (i := 588) (by decide +kernel)
theorem ml_X4_34 : Cond.methodLink RX4 34 yX9_open ∈ gtbl := List.mem_of_getElem? (i := 592) (by decide +kernel)
theorem ml_X4_40 : Cond.methodLink RX4 40 yX4_readActs ∈ gtbl := List.mem_of_getElem? (i := 596) (by decide +kernel)
theorem ml_X4_59 : Cond.methodLink RX4 59 yX4_readAct ∈ gtbl := List.mem_of_getElem? (i := 599) (by decide +kernel)
theorem ml_X4_62 : Cond.methodLink RX4 62 yX9_sign ∈ gtbl := List.mem_of_getElem? (i := 602) (by decide +kernel)
theorem ml_X4_66 : Cond.methodLink RX4 66 yX4_beginsAct ∈ gtbl := List.mem_of_getElem? (i := 606) (by decide +kernel)
theorem ml_X4_70 : Cond.methodLink RX4 70 yX9_refuse ∈ gtbl := List.mem_of_getElem? (i := 609) (by decide +kernel)
theorem ml_X4_73 : Cond.methodLink RX4 73 yX9_skip ∈ gtbl := List.mem_of_getElem? (i := 613) (by decide +kernel)
theorem ml_X4_76 : Cond.methodLink RX4 76 yX4_readSingle ∈ gtbl := List.mem_of_getElem? (i := 617) (by decide +kernel)
theorem ml_X4_92 : Cond.methodLink RX4 92 yX4_readVat ∈ gtbl := List.mem_of_getElem? (i := 620) (by decide +kernel)
theorem ml_X4_88 : Cond.methodLink RX4 88 yX4_add ∈ gtbl := List.mem_of_getElem? (i := 623) (by decide +kernel)
theorem ml_X4_79 : Cond.methodLink RX4 79 yX4_readDouble ∈ gtbl := List.mem_of_getElem? (i := 626) (by decide +kernel)
theorem ml_X4_82 : Cond.methodLink RX4 82 yX4_readWhile ∈ gtbl := List.mem_of_getElem? (i := 629) (by decide +kernel)
theorem ml_X4_102 : Cond.methodLink RX4 102 yX4_readTest ∈ gtbl := List.mem_of_getElem? (i := 632) (by decide +kernel)
theorem ml_X4_96 : Cond.methodLink RX4 96 yX9_canOpen ∈ gtbl := List.mem_of_getElem? (i := 635) (by decide +kernel)
theorem ml_X9_40 : Cond.methodLink RX9 40 yX9_refuse ∈ gtbl := List.mem_of_getElem? (i := 639) (by decide +kernel)
theorem ml_X4_99 : Cond.methodLink RX4 99 yX9_pass ∈ gtbl := List.mem_of_getElem? (i := 640) (by decide +kernel)
theorem ml_X9_36 : Cond.methodLink RX9 36 yX9_sign ∈ gtbl := List.mem_of_getElem? (i := 644) (by decide +kernel)
theorem ml_X4_106 : Cond.methodLink RX4 106 yX4_lead ∈ gtbl := List.mem_of_getElem? (i := 645) (by decide +kernel)
theorem ml_X4_85 : Cond.methodLink RX4 85 yX4_readIf ∈ gtbl := List.mem_of_getElem? (i := 648) (by decide +kernel)
theorem ml_X4_44 : Cond.methodLink RX4 44 yX9_isRead ∈ gtbl := List.mem_of_getElem? (i := 651) (by decide +kernel)
theorem ml_X4_48 : Cond.methodLink RX4 48 yX4_straighten ∈ gtbl := List.mem_of_getElem? (i := 655) (by decide +kernel)
theorem ml_X4_55 : Cond.methodLink RX4 55 yX4_behindJumps ∈ gtbl := List.mem_of_getElem? (i := 658) (by decide +kernel)
theorem ml_X11_145 : Cond.methodLink RX11 145 yX9_clear ∈ gtbl := List.mem_of_getElem? (i := 661) (by decide +kernel)
theorem ml_L_28 : Cond.methodLink RL 28 yX11_spec ∈ gtbl := List.mem_of_getElem? (i := 665) (by decide +kernel)
theorem ml_X11_154 : Cond.methodLink RX11 154 yX7_read ∈ gtbl := List.mem_of_getElem? (i := 669) (by decide +kernel)
theorem ml_X7_25 : Cond.methodLink RX7 25 yX9_open ∈ gtbl := List.mem_of_getElem? (i := 673) (by decide +kernel)
theorem ml_X7_31 : Cond.methodLink RX7 31 yX7_readChoice ∈ gtbl := List.mem_of_getElem? (i := 674) (by decide +kernel)
theorem ml_X7_39 : Cond.methodLink RX7 39 yX7_readPart ∈ gtbl := List.mem_of_getElem? (i := 677) (by decide +kernel)
theorem ml_X7_56 : Cond.methodLink RX7 56 yX7_readPiece ∈ gtbl := List.mem_of_getElem? (i := 680) (by decide +kernel)
theorem ml_X7_42 : Cond.methodLink RX7 42 yX9_sign ∈ gtbl := List.mem_of_getElem? (i := 683) (by decide +kernel)
theorem ml_X7_67 : Cond.methodLink RX7 67 yX9_canOpen ∈ gtbl := List.mem_of_getElem? (i := 684) (by decide +kernel)
theorem ml_X7_53 : Cond.methodLink RX7 53 yX9_skip ∈ gtbl := List.mem_of_getElem? (i := 685) (by decide +kernel)
theorem ml_X7_49 : Cond.methodLink RX7 49 yX6_add ∈ gtbl := List.mem_of_getElem? (i := 686) (by decide +kernel)
theorem ml_X7_70 : Cond.methodLink RX7 70 yX9_pass ∈ gtbl := List.mem_of_getElem? (i := 690) (by decide +kernel)
theorem ml_X7_73 : Cond.methodLink RX7 73 yX7_readComparison ∈ gtbl := List.mem_of_getElem? (i := 691) (by decide +kernel)
theorem ml_X7_76 : Cond.methodLink RX7 76 yX7_readTerms ∈ gtbl := List.mem_of_getElem? (i := 694) (by decide +kernel)
theorem ml_X7_82 : Cond.methodLink RX7 82 yX7_readFactors ∈ gtbl := List.mem_of_getElem? (i := 697) (by decide +kernel)
theorem ml_X7_88 : Cond.methodLink RX7 88 yX7_readFactor ∈ gtbl := List.mem_of_getElem? (i := 700) (by decide +kernel)
theorem ml_X7_94 : Cond.methodLink RX7 94 yX7_readNumber ∈ gtbl := List.mem_of_getElem? (i := 703) (by decide +kernel)
theorem ml_X7_79 : Cond.methodLink RX7 79 yX9_refuse ∈ gtbl := List.mem_of_getElem? (i := 706) (by decide +kernel)
theorem ml_X7_97 : Cond.methodLink RX7 97 yX7_letterOf ∈ gtbl := List.mem_of_getElem? (i := 707) (by decide +kernel)
theorem ml_X7_91 : Cond.methodLink RX7 91 yX7_isProduct ∈ gtbl := List.mem_of_getElem? (i := 710) (by decide +kernel)
theorem ml_X7_85 : Cond.methodLink RX7 85 yX7_isSum ∈ gtbl := List.mem_of_getElem? (i := 713) (by decide +kernel)
theorem ml_X7_46 : Cond.methodLink RX7 46 yX7_lead ∈ gtbl := List.mem_of_getElem? (i := 716) (by decide +kernel)
theorem ml_X7_35 : Cond.methodLink RX7 35 yX9_isRead ∈ gtbl := List.mem_of_getElem? (i := 719) (by decide +kernel)
theorem ml_L_33 : Cond.methodLink RL 33 yX11_run ∈ gtbl := List.mem_of_getElem? (i := 720) (by decide +kernel)
theorem ml_X11_161 : Cond.methodLink RX11 161 yX0_start ∈ gtbl := List.mem_of_getElem? (i := 724) (by decide +kernel)
theorem ml_X11_310 : Cond.methodLink RX11 310 arraycopyName ∈ gtbl := List.mem_of_getElem? (i := 730) (by decide +kernel)
theorem ml_X11_165 : Cond.methodLink RX11 165 yX0_go ∈ gtbl := List.mem_of_getElem? (i := 733) (by decide +kernel)
theorem ml_X0_57 : Cond.methodLink RX0 57 yX0_mark ∈ gtbl := List.mem_of_getElem? (i := 737) (by decide +kernel)
theorem ml_X0_60 : Cond.methodLink RX0 60 yX0_step ∈ gtbl := List.mem_of_getElem? (i := 740) (by decide +kernel)
theorem ml_X0_106 : Cond.methodLink RX0 106 yX0_findsEmpty ∈ gtbl := List.mem_of_getElem? (i := 744) (by decide +kernel)
theorem ml_X0_116 : Cond.methodLink RX0 116 yX0_act ∈ gtbl := List.mem_of_getElem? (i := 747) (by decide +kernel)
theorem ml_X0_123 : Cond.methodLink RX0 123 yX0_dip ∈ gtbl := List.mem_of_getElem? (i := 751) (by decide +kernel)
theorem ml_X0_126 : Cond.methodLink RX0 126 yX0_take ∈ gtbl := List.mem_of_getElem? (i := 754) (by decide +kernel)
theorem ml_X0_134 : Cond.methodLink RX0 134 yJ9_min_7cf53 ∈ gtbl := List.mem_of_getElem? (i := 757) (by decide +kernel)
theorem ml_X0_120 : Cond.methodLink RX0 120 yX0_kindsWork ∈ gtbl := List.mem_of_getElem? (i := 760) (by decide +kernel)
theorem ml_X0_144 : Cond.methodLink RX0 144 yX0_flow ∈ gtbl := List.mem_of_getElem? (i := 764) (by decide +kernel)
theorem ml_X0_67 : Cond.methodLink RX0 67 yX0_isAtMark ∈ gtbl := List.mem_of_getElem? (i := 767) (by decide +kernel)
theorem ml_X0_71 : Cond.methodLink RX0 71 yX0_leap ∈ gtbl := List.mem_of_getElem? (i := 770) (by decide +kernel)
theorem ml_X0_87 : Cond.methodLink RX0 87 yJ9_floorMod_7cf53 ∈ gtbl := List.mem_of_getElem? (i := 773) (by decide +kernel)
theorem ml_X11_184 : Cond.methodLink RX11 184 yX6_holds ∈ gtbl := List.mem_of_getElem? (i := 776) (by decide +kernel)
theorem ml_X6_35 : Cond.methodLink RX6 35 yX6_obey ∈ gtbl := List.mem_of_getElem? (i := 780) (by decide +kernel)
theorem ml_X6_45 : Cond.methodLink RX6 45 yX6_push ∈ gtbl := List.mem_of_getElem? (i := 783) (by decide +kernel)
theorem ml_X6_49 : Cond.methodLink RX6 49 yX0_known ∈ gtbl := List.mem_of_getElem? (i := 786) (by decide +kernel)
theorem ml_X6_55 : Cond.methodLink RX6 55 yX6_pop ∈ gtbl := List.mem_of_getElem? (i := 790) (by decide +kernel)
theorem ml_X6_59 : Cond.methodLink RX6 59 yX6_reckon ∈ gtbl := List.mem_of_getElem? (i := 793) (by decide +kernel)
theorem ml_X6_39 : Cond.methodLink RX6 39 yJ9_max_7cf53 ∈ gtbl := List.mem_of_getElem? (i := 796) (by decide +kernel)
theorem ml_L_38 : Cond.methodLink RL 38 yX11_done ∈ gtbl := List.mem_of_getElem? (i := 797) (by decide +kernel)
theorem ml_X11_192 : Cond.methodLink RX11 192 yX11_copyMeasures ∈ gtbl := List.mem_of_getElem? (i := 801) (by decide +kernel)
theorem ml_L_42 : Cond.methodLink RL 42 yX11_proved ∈ gtbl := List.mem_of_getElem? (i := 802) (by decide +kernel)
theorem ml_X11_198 : Cond.methodLink RX11 198 yX11_isSurvey ∈ gtbl := List.mem_of_getElem? (i := 806) (by decide +kernel)
theorem ml_X11_261 : Cond.methodLink RX11 261 yJ6_bitCount_0f7a4 ∈ gtbl := List.mem_of_getElem? (i := 809) (by decide +kernel)
theorem ml_X11_201 : Cond.methodLink RX11 201 yX8_lay ∈ gtbl := List.mem_of_getElem? (i := 815) (by decide +kernel)
theorem ml_X8_38 : Cond.methodLink RX8 38 yJ9_min_7cf53 ∈ gtbl := List.mem_of_getElem? (i := 819) (by decide +kernel)
theorem ml_X11_205 : Cond.methodLink RX11 205 yX8_unproved ∈ gtbl := List.mem_of_getElem? (i := 820) (by decide +kernel)
theorem ml_X8_47 : Cond.methodLink RX8 47 yX8_follow ∈ gtbl := List.mem_of_getElem? (i := 824) (by decide +kernel)
theorem ml_X8_71 : Cond.methodLink RX8 71 yX0_start ∈ gtbl := List.mem_of_getElem? (i := 827) (by decide +kernel)
theorem ml_X8_75 : Cond.methodLink RX8 75 yX0_go ∈ gtbl := List.mem_of_getElem? (i := 828) (by decide +kernel)
theorem ml_X8_51 : Cond.methodLink RX8 51 yX6_holds ∈ gtbl := List.mem_of_getElem? (i := 829) (by decide +kernel)
theorem ml_X8_57 : Cond.methodLink RX8 57 yX8_goOn ∈ gtbl := List.mem_of_getElem? (i := 830) (by decide +kernel)
theorem ml_L_47 : Cond.methodLink RL 47 yX11_alike ∈ gtbl := List.mem_of_getElem? (i := 833) (by decide +kernel)
theorem ml_X11_209 : Cond.methodLink RX11 209 yX8_unlike ∈ gtbl := List.mem_of_getElem? (i := 837) (by decide +kernel)
theorem ml_X8_65 : Cond.methodLink RX8 65 yX0_hasMeasuresOf ∈ gtbl := List.mem_of_getElem? (i := 841) (by decide +kernel)
theorem ml_L_51 : Cond.methodLink RL 51 yX11_fit ∈ gtbl := List.mem_of_getElem? (i := 845) (by decide +kernel)
theorem ml_X11_213 : Cond.methodLink RX11 213 yX8_coloured ∈ gtbl := List.mem_of_getElem? (i := 849) (by decide +kernel)
theorem ml_L_55 : Cond.methodLink RL 55 yX11_round ∈ gtbl := List.mem_of_getElem? (i := 853) (by decide +kernel)
theorem ml_X11_217 : Cond.methodLink RX11 217 yX5_seek ∈ gtbl := List.mem_of_getElem? (i := 857) (by decide +kernel)
theorem ml_X5_24 : Cond.methodLink RX5 24 yX5_findLength ∈ gtbl := List.mem_of_getElem? (i := 861) (by decide +kernel)
theorem ml_X5_52 : Cond.methodLink RX5 52 yX0_start ∈ gtbl := List.mem_of_getElem? (i := 864) (by decide +kernel)
theorem ml_X5_28 : Cond.methodLink RX5 28 yX0_isOver ∈ gtbl := List.mem_of_getElem? (i := 866) (by decide +kernel)
theorem ml_X5_57 : Cond.methodLink RX5 57 yX0_step ∈ gtbl := List.mem_of_getElem? (i := 870) (by decide +kernel)
theorem ml_X5_61 : Cond.methodLink RX5 61 yX0_standsWith ∈ gtbl := List.mem_of_getElem? (i := 871) (by decide +kernel)
theorem ml_X0_53 : Cond.methodLink RX0 53 yX0_hasMeasuresOf ∈ gtbl := List.mem_of_getElem? (i := 875) (by decide +kernel)
theorem ml_X5_65 : Cond.methodLink RX5 65 yX0_copy ∈ gtbl := List.mem_of_getElem? (i := 876) (by decide +kernel)
theorem ml_X5_39 : Cond.methodLink RX5 39 yX5_findAhead ∈ gtbl := List.mem_of_getElem? (i := 880) (by decide +kernel)
theorem ml_L_59 : Cond.methodLink RL 59 yX11_shortest ∈ gtbl := List.mem_of_getElem? (i := 883) (by decide +kernel)
theorem ml_X11_231 : Cond.methodLink RX11 231 yX9_takeMeasures ∈ gtbl := List.mem_of_getElem? (i := 887) (by decide +kernel)
theorem ml_X9_23 : Cond.methodLink RX9 23 yX9_at ∈ gtbl := List.mem_of_getElem? (i := 891) (by decide +kernel)
theorem ml_X11_235 : Cond.methodLink RX11 235 yX3_canSeek ∈ gtbl := List.mem_of_getElem? (i := 894) (by decide +kernel)
theorem ml_X3_53 : Cond.methodLink RX3 53 yX3_standings ∈ gtbl := List.mem_of_getElem? (i := 898) (by decide +kernel)
theorem ml_X3_57 : Cond.methodLink RX3 57 yX10_hold ∈ gtbl := List.mem_of_getElem? (i := 901) (by decide +kernel)
theorem ml_X11_238 : Cond.methodLink RX11 238 yX3_seek ∈ gtbl := List.mem_of_getElem? (i := 905) (by decide +kernel)
theorem ml_X3_66 : Cond.methodLink RX3 66 yJ7_fill_fda19 ∈ gtbl := List.mem_of_getElem? (i := 909) (by decide +kernel)
theorem ml_J7_13 : Cond.methodLink RJ7 13 yJ7_rangeCheck_23922 ∈ gtbl := List.mem_of_getElem? (i := 912) (by decide +kernel)
theorem ml_X3_75 : Cond.methodLink RX3 75 yX3_indexOf ∈ gtbl := List.mem_of_getElem? (i := 915) (by decide +kernel)
theorem ml_X3_83 : Cond.methodLink RX3 83 yX0_start ∈ gtbl := List.mem_of_getElem? (i := 918) (by decide +kernel)
theorem ml_X3_89 : Cond.methodLink RX3 89 yX3_goFrom ∈ gtbl := List.mem_of_getElem? (i := 919) (by decide +kernel)
theorem ml_X3_97 : Cond.methodLink RX3 97 yX3_unfold ∈ gtbl := List.mem_of_getElem? (i := 922) (by decide +kernel)
theorem ml_X3_101 : Cond.methodLink RX3 101 yX3_isIdle ∈ gtbl := List.mem_of_getElem? (i := 925) (by decide +kernel)
theorem ml_X3_112 : Cond.methodLink RX3 112 yX0_act ∈ gtbl := List.mem_of_getElem? (i := 928) (by decide +kernel)
theorem ml_X3_116 : Cond.methodLink RX3 116 yX0_kindsWork ∈ gtbl := List.mem_of_getElem? (i := 929) (by decide +kernel)
theorem ml_X3_119 : Cond.methodLink RX3 119 yX3_comeTo ∈ gtbl := List.mem_of_getElem? (i := 930) (by decide +kernel)
theorem ml_X3_93 : Cond.methodLink RX3 93 yX3_retrace ∈ gtbl := List.mem_of_getElem? (i := 933) (by decide +kernel)
theorem ml_L_63 : Cond.methodLink RL 63 yX11_slips ∈ gtbl := List.mem_of_getElem? (i := 936) (by decide +kernel)
theorem ml_X11_244 : Cond.methodLink RX11 244 yX11_unfelt ∈ gtbl := List.mem_of_getElem? (i := 940) (by decide +kernel)
theorem ml_X11_319 : Cond.methodLink RX11 319 yX0_isOver ∈ gtbl := List.mem_of_getElem? (i := 943) (by decide +kernel)
theorem ml_X11_326 : Cond.methodLink RX11 326 yX4_maySlip ∈ gtbl := List.mem_of_getElem? (i := 944) (by decide +kernel)
theorem ml_X11_329 : Cond.methodLink RX11 329 yX0_copy ∈ gtbl := List.mem_of_getElem? (i := 948) (by decide +kernel)
theorem ml_X11_332 : Cond.methodLink RX11 332 yX0_step ∈ gtbl := List.mem_of_getElem? (i := 949) (by decide +kernel)
theorem ml_L_67 : Cond.methodLink RL 67 yX11_sum ∈ gtbl := List.mem_of_getElem? (i := 950) (by decide +kernel)
theorem ml_X11_251 : Cond.methodLink RX11 251 yX2_isOfferGood ∈ gtbl := List.mem_of_getElem? (i := 954) (by decide +kernel)
theorem ml_X11_254 : Cond.methodLink RX11 254 yX2_take ∈ gtbl := List.mem_of_getElem? (i := 958) (by decide +kernel)
theorem ml_X2_44 : Cond.methodLink RX2 44 arraycopyName ∈ gtbl := List.mem_of_getElem? (i := 962) (by decide +kernel)
theorem ml_X11_257 : Cond.methodLink RX11 257 yX2_stepsOf ∈ gtbl := List.mem_of_getElem? (i := 963) (by decide +kernel)
theorem ml_X2_59 : Cond.methodLink RX2 59 yJ9_min_7cf53 ∈ gtbl := List.mem_of_getElem? (i := 967) (by decide +kernel)
theorem ml_X2_65 : Cond.methodLink RX2 65 yX0_start ∈ gtbl := List.mem_of_getElem? (i := 968) (by decide +kernel)
theorem ml_X2_71 : Cond.methodLink RX2 71 yX0_go ∈ gtbl := List.mem_of_getElem? (i := 969) (by decide +kernel)
theorem ml_L_71 : Cond.methodLink RL 71 yX11_order ∈ gtbl := List.mem_of_getElem? (i := 970) (by decide +kernel)
theorem ml_X11_273 : Cond.methodLink RX11 273 yX2_weigh ∈ gtbl := List.mem_of_getElem? (i := 974) (by decide +kernel)
theorem ml_X2_77 : Cond.methodLink RX2 77 yX2_firstBest ∈ gtbl := List.mem_of_getElem? (i := 978) (by decide +kernel)
theorem ml_X2_80 : Cond.methodLink RX2 80 yX2_pricesBy ∈ gtbl := List.mem_of_getElem? (i := 981) (by decide +kernel)
theorem ml_X2_83 : Cond.methodLink RX2 83 yJ9_max_7cf53 ∈ gtbl := List.mem_of_getElem? (i := 984) (by decide +kernel)
theorem ml_X11_279 : Cond.methodLink RX11 279 yX2_placed ∈ gtbl := List.mem_of_getElem? (i := 985) (by decide +kernel)
theorem ml_L_75 : Cond.methodLink RL 75 yX11_seed ∈ gtbl := List.mem_of_getElem? (i := 989) (by decide +kernel)
theorem ml_L_80 : Cond.methodLink RL 80 yX11_night ∈ gtbl := List.mem_of_getElem? (i := 994) (by decide +kernel)
theorem ml_X11_285 : Cond.methodLink RX11 285 yX11_pourAtNight ∈ gtbl := List.mem_of_getElem? (i := 999) (by decide +kernel)
theorem ml_L_84 : Cond.methodLink RL 84 yX11_keep ∈ gtbl := List.mem_of_getElem? (i := 1002) (by decide +kernel)
theorem ml_X11_290 : Cond.methodLink RX11 290 yX1_copy ∈ gtbl := List.mem_of_getElem? (i := 1006) (by decide +kernel)
theorem ml_X11_294 : Cond.methodLink RX11 294 yX10_together ∈ gtbl := List.mem_of_getElem? (i := 1010) (by decide +kernel)
theorem ml_L_89 : Cond.methodLink RL 89 yX11_undo ∈ gtbl := List.mem_of_getElem? (i := 1014) (by decide +kernel)
theorem ml_X11_297 : Cond.methodLink RX11 297 yX10_hold ∈ gtbl := List.mem_of_getElem? (i := 1018) (by decide +kernel)
theorem ml_L_94 : Cond.methodLink RL 94 yX11_check ∈ gtbl := List.mem_of_getElem? (i := 1019) (by decide +kernel)
theorem ml_X11_301 : Cond.methodLink RX11 301 yX11_firstWrong ∈ gtbl := List.mem_of_getElem? (i := 1023) (by decide +kernel)
theorem ml_X11_316 : Cond.methodLink RX11 316 yX9_number ∈ gtbl := List.mem_of_getElem? (i := 1026) (by decide +kernel)
theorem ml_L_98 : Cond.methodLink RL 98 yX11_count ∈ gtbl := List.mem_of_getElem? (i := 1030) (by decide +kernel)
theorem ml_L_12 : Cond.methodLink RL 12 yX12_init ∈ gtbl := List.mem_of_getElem? (i := 1036) (by decide +kernel)
theorem ml_X12_1 : Cond.methodLink RX12 1 objectInit ∈ gtbl := List.mem_of_getElem? (i := 1039) (by decide +kernel)
theorem ml_L_17 : Cond.methodLink RL 17 yX12_vat ∈ gtbl := List.mem_of_getElem? (i := 1246) (by decide +kernel)
theorem ml_X12_133 : Cond.methodLink RX12 133 yX12_isVat ∈ gtbl := List.mem_of_getElem? (i := 1250) (by decide +kernel)
theorem ml_X12_137 : Cond.methodLink RX12 137 yX12_in ∈ gtbl := List.mem_of_getElem? (i := 1253) (by decide +kernel)
theorem ml_L_22 : Cond.methodLink RL 22 yX12_feed ∈ gtbl := List.mem_of_getElem? (i := 1256) (by decide +kernel)
theorem ml_X12_144 : Cond.methodLink RX12 144 yX12_types ∈ gtbl := List.mem_of_getElem? (i := 1260) (by decide +kernel)
theorem ml_L_32 : Cond.methodLink RL 32 yX12_spec ∈ gtbl := List.mem_of_getElem? (i := 1263) (by decide +kernel)
theorem ml_X12_230 : Cond.methodLink RX12 230 yX12_isText ∈ gtbl := List.mem_of_getElem? (i := 1267) (by decide +kernel)
theorem ml_X12_233 : Cond.methodLink RX12 233 yX12_begins ∈ gtbl := List.mem_of_getElem? (i := 1270) (by decide +kernel)
theorem ml_X12_236 : Cond.methodLink RX12 236 yX12_readsSpec ∈ gtbl := List.mem_of_getElem? (i := 1273) (by decide +kernel)
theorem ml_X12_154 : Cond.methodLink RX12 154 yX12_here ∈ gtbl := List.mem_of_getElem? (i := 1276) (by decide +kernel)
theorem ml_X12_189 : Cond.methodLink RX12 189 yX12_opens ∈ gtbl := List.mem_of_getElem? (i := 1279) (by decide +kernel)
theorem ml_X12_161 : Cond.methodLink RX12 161 yX12_wrongAt ∈ gtbl := List.mem_of_getElem? (i := 1282) (by decide +kernel)
theorem ml_X12_218 : Cond.methodLink RX12 218 yX12_readsCompared ∈ gtbl := List.mem_of_getElem? (i := 1286) (by decide +kernel)
theorem ml_X12_212 : Cond.methodLink RX12 212 yX12_readsSum ∈ gtbl := List.mem_of_getElem? (i := 1289) (by decide +kernel)
theorem ml_X12_199 : Cond.methodLink RX12 199 yX12_readsFactor ∈ gtbl := List.mem_of_getElem? (i := 1292) (by decide +kernel)
theorem ml_X12_168 : Cond.methodLink RX12 168 yX12_isDigit ∈ gtbl := List.mem_of_getElem? (i := 1295) (by decide +kernel)
theorem ml_X12_192 : Cond.methodLink RX12 192 yX12_readsNumber ∈ gtbl := List.mem_of_getElem? (i := 1298) (by decide +kernel)
theorem ml_X12_185 : Cond.methodLink RX12 185 yX12_notes ∈ gtbl := List.mem_of_getElem? (i := 1301) (by decide +kernel)
theorem ml_X12_195 : Cond.methodLink RX12 195 yX12_factOf ∈ gtbl := List.mem_of_getElem? (i := 1304) (by decide +kernel)
theorem ml_X12_202 : Cond.methodLink RX12 202 yX12_sumSign ∈ gtbl := List.mem_of_getElem? (i := 1307) (by decide +kernel)
theorem ml_X12_205 : Cond.methodLink RX12 205 yX12_closesSums ∈ gtbl := List.mem_of_getElem? (i := 1310) (by decide +kernel)
theorem ml_X12_182 : Cond.methodLink RX12 182 yX12_top ∈ gtbl := List.mem_of_getElem? (i := 1313) (by decide +kernel)
theorem ml_X12_209 : Cond.methodLink RX12 209 yX12_hasOpenSum ∈ gtbl := List.mem_of_getElem? (i := 1316) (by decide +kernel)
theorem ml_X12_215 : Cond.methodLink RX12 215 yX12_endsPiece ∈ gtbl := List.mem_of_getElem? (i := 1319) (by decide +kernel)
theorem ml_X12_221 : Cond.methodLink RX12 221 yX12_hasOpen ∈ gtbl := List.mem_of_getElem? (i := 1322) (by decide +kernel)
theorem ml_X12_224 : Cond.methodLink RX12 224 yX12_lands ∈ gtbl := List.mem_of_getElem? (i := 1325) (by decide +kernel)
theorem ml_X12_227 : Cond.methodLink RX12 227 yX12_jumps ∈ gtbl := List.mem_of_getElem? (i := 1328) (by decide +kernel)
theorem ml_L_27 : Cond.methodLink RL 27 yX12_recipe ∈ gtbl := List.mem_of_getElem? (i := 1331) (by decide +kernel)
theorem ml_X12_283 : Cond.methodLink RX12 283 yX12_readsRecipe ∈ gtbl := List.mem_of_getElem? (i := 1335) (by decide +kernel)
theorem ml_X12_271 : Cond.methodLink RX12 271 yX12_readsAct ∈ gtbl := List.mem_of_getElem? (i := 1338) (by decide +kernel)
theorem ml_X12_262 : Cond.methodLink RX12 262 yX12_opensActs ∈ gtbl := List.mem_of_getElem? (i := 1341) (by decide +kernel)
theorem ml_X12_249 : Cond.methodLink RX12 249 yX12_takesVat ∈ gtbl := List.mem_of_getElem? (i := 1344) (by decide +kernel)
theorem ml_X12_255 : Cond.methodLink RX12 255 yX12_puts ∈ gtbl := List.mem_of_getElem? (i := 1347) (by decide +kernel)
theorem ml_X12_265 : Cond.methodLink RX12 265 yX12_readsOne ∈ gtbl := List.mem_of_getElem? (i := 1350) (by decide +kernel)
theorem ml_X12_268 : Cond.methodLink RX12 268 yX12_readsTwo ∈ gtbl := List.mem_of_getElem? (i := 1353) (by decide +kernel)
theorem ml_X12_274 : Cond.methodLink RX12 274 yX12_frameNow ∈ gtbl := List.mem_of_getElem? (i := 1356) (by decide +kernel)
theorem ml_X12_277 : Cond.methodLink RX12 277 yX12_closes ∈ gtbl := List.mem_of_getElem? (i := 1359) (by decide +kernel)
theorem ml_X12_280 : Cond.methodLink RX12 280 yX12_turns ∈ gtbl := List.mem_of_getElem? (i := 1362) (by decide +kernel)
theorem ml_L_37 : Cond.methodLink RL 37 yX12_run ∈ gtbl := List.mem_of_getElem? (i := 1365) (by decide +kernel)
theorem ml_X12_334 : Cond.methodLink RX12 334 yX12_isRecipe ∈ gtbl := List.mem_of_getElem? (i := 1369) (by decide +kernel)
theorem ml_X12_337 : Cond.methodLink RX12 337 yX12_isLimit ∈ gtbl := List.mem_of_getElem? (i := 1372) (by decide +kernel)
theorem ml_X12_340 : Cond.methodLink RX12 340 yX12_startsFrom ∈ gtbl := List.mem_of_getElem? (i := 1375) (by decide +kernel)
theorem ml_X12_344 : Cond.methodLink RX12 344 yX12_runsOn ∈ gtbl := List.mem_of_getElem? (i := 1378) (by decide +kernel)
theorem ml_X12_323 : Cond.methodLink RX12 323 yX12_goesOn ∈ gtbl := List.mem_of_getElem? (i := 1381) (by decide +kernel)
theorem ml_X12_326 : Cond.methodLink RX12 326 yX12_hasNext ∈ gtbl := List.mem_of_getElem? (i := 1384) (by decide +kernel)
theorem ml_X12_329 : Cond.methodLink RX12 329 yX12_steps ∈ gtbl := List.mem_of_getElem? (i := 1387) (by decide +kernel)
theorem ml_X12_317 : Cond.methodLink RX12 317 yX12_does ∈ gtbl := List.mem_of_getElem? (i := 1390) (by decide +kernel)
theorem ml_X12_308 : Cond.methodLink RX12 308 yX12_dips ∈ gtbl := List.mem_of_getElem? (i := 1393) (by decide +kernel)
theorem ml_X12_311 : Cond.methodLink RX12 311 yX12_takesOut ∈ gtbl := List.mem_of_getElem? (i := 1396) (by decide +kernel)
theorem ml_X12_314 : Cond.methodLink RX12 314 yX12_pours ∈ gtbl := List.mem_of_getElem? (i := 1399) (by decide +kernel)
theorem ml_X12_304 : Cond.methodLink RX12 304 yX12_min ∈ gtbl := List.mem_of_getElem? (i := 1402) (by decide +kernel)
theorem ml_X12_320 : Cond.methodLink RX12 320 yX12_kindsWork ∈ gtbl := List.mem_of_getElem? (i := 1405) (by decide +kernel)
theorem ml_X12_347 : Cond.methodLink RX12 347 yX12_specHolds ∈ gtbl := List.mem_of_getElem? (i := 1408) (by decide +kernel)
theorem ml_X12_331 : Cond.methodLink RX12 331 yX12_comesTo ∈ gtbl := List.mem_of_getElem? (i := 1411) (by decide +kernel)
theorem ml_X12_242 : Cond.methodLink RX12 242 yX12_reckon ∈ gtbl := List.mem_of_getElem? (i := 1414) (by decide +kernel)
theorem ml_L_41 : Cond.methodLink RL 41 yX12_done ∈ gtbl := List.mem_of_getElem? (i := 1417) (by decide +kernel)
theorem ml_L_46 : Cond.methodLink RL 46 yX12_proved ∈ gtbl := List.mem_of_getElem? (i := 1421) (by decide +kernel)
theorem ml_X12_365 : Cond.methodLink RX12 365 yX12_areVats ∈ gtbl := List.mem_of_getElem? (i := 1425) (by decide +kernel)
theorem ml_X12_359 : Cond.methodLink RX12 359 yX12_bits ∈ gtbl := List.mem_of_getElem? (i := 1428) (by decide +kernel)
theorem ml_X12_368 : Cond.methodLink RX12 368 yX12_startsBeginnings ∈ gtbl := List.mem_of_getElem? (i := 1431) (by decide +kernel)
theorem ml_X12_371 : Cond.methodLink RX12 371 yX12_runsFrom ∈ gtbl := List.mem_of_getElem? (i := 1434) (by decide +kernel)
theorem ml_X12_374 : Cond.methodLink RX12 374 yX12_finds ∈ gtbl := List.mem_of_getElem? (i := 1437) (by decide +kernel)
theorem ml_X12_377 : Cond.methodLink RX12 377 yX12_goesToNext ∈ gtbl := List.mem_of_getElem? (i := 1440) (by decide +kernel)
theorem ml_X12_380 : Cond.methodLink RX12 380 yX12_tellsFound ∈ gtbl := List.mem_of_getElem? (i := 1443) (by decide +kernel)
theorem ml_L_50 : Cond.methodLink RL 50 yX12_alike ∈ gtbl := List.mem_of_getElem? (i := 1446) (by decide +kernel)
theorem ml_X12_383 : Cond.methodLink RX12 383 yX12_endOtherwise ∈ gtbl := List.mem_of_getElem? (i := 1450) (by decide +kernel)
theorem ml_L_54 : Cond.methodLink RL 54 yX12_fit ∈ gtbl := List.mem_of_getElem? (i := 1453) (by decide +kernel)
theorem ml_L_58 : Cond.methodLink RL 58 yX12_round ∈ gtbl := List.mem_of_getElem? (i := 1457) (by decide +kernel)
theorem ml_X12_388 : Cond.methodLink RX12 388 yX12_standingNow ∈ gtbl := List.mem_of_getElem? (i := 1461) (by decide +kernel)
theorem ml_L_62 : Cond.methodLink RL 62 yX12_shortest ∈ gtbl := List.mem_of_getElem? (i := 1465) (by decide +kernel)
theorem ml_X12_401 : Cond.methodLink RX12 401 yX12_canGoThrough ∈ gtbl := List.mem_of_getElem? (i := 1469) (by decide +kernel)
theorem ml_X12_398 : Cond.methodLink RX12 398 yX12_standingOf ∈ gtbl := List.mem_of_getElem? (i := 1472) (by decide +kernel)
theorem ml_X12_404 : Cond.methodLink RX12 404 yX12_goesThrough ∈ gtbl := List.mem_of_getElem? (i := 1475) (by decide +kernel)
theorem ml_X12_392 : Cond.methodLink RX12 392 yX12_standsAt ∈ gtbl := List.mem_of_getElem? (i := 1478) (by decide +kernel)
theorem ml_X12_395 : Cond.methodLink RX12 395 yX12_acts ∈ gtbl := List.mem_of_getElem? (i := 1481) (by decide +kernel)
theorem ml_L_66 : Cond.methodLink RL 66 yX12_slips ∈ gtbl := List.mem_of_getElem? (i := 1484) (by decide +kernel)
theorem ml_X12_410 : Cond.methodLink RX12 410 yX12_isNotFelt ∈ gtbl := List.mem_of_getElem? (i := 1488) (by decide +kernel)
theorem ml_X12_407 : Cond.methodLink RX12 407 yX12_isActAt ∈ gtbl := List.mem_of_getElem? (i := 1491) (by decide +kernel)
theorem ml_L_70 : Cond.methodLink RL 70 yX12_sum ∈ gtbl := List.mem_of_getElem? (i := 1494) (by decide +kernel)
theorem ml_X12_417 : Cond.methodLink RX12 417 yX12_takesNow ∈ gtbl := List.mem_of_getElem? (i := 1498) (by decide +kernel)
theorem ml_L_74 : Cond.methodLink RL 74 yX12_order ∈ gtbl := List.mem_of_getElem? (i := 1501) (by decide +kernel)
theorem ml_X12_421 : Cond.methodLink RX12 421 yX12_priceBy ∈ gtbl := List.mem_of_getElem? (i := 1506) (by decide +kernel)
theorem ml_L_79 : Cond.methodLink RL 79 yX12_seed ∈ gtbl := List.mem_of_getElem? (i := 1509) (by decide +kernel)
theorem ml_L_83 : Cond.methodLink RL 83 yX12_night ∈ gtbl := List.mem_of_getElem? (i := 1514) (by decide +kernel)
theorem ml_L_88 : Cond.methodLink RL 88 yX12_keep ∈ gtbl := List.mem_of_getElem? (i := 1519) (by decide +kernel)
theorem ml_X12_442 : Cond.methodLink RX12 442 yX12_together ∈ gtbl := List.mem_of_getElem? (i := 1523) (by decide +kernel)
theorem ml_L_93 : Cond.methodLink RL 93 yX12_undo ∈ gtbl := List.mem_of_getElem? (i := 1526) (by decide +kernel)
theorem ml_L_97 : Cond.methodLink RL 97 yX12_check ∈ gtbl := List.mem_of_getElem? (i := 1530) (by decide +kernel)
theorem ml_X12_445 : Cond.methodLink RX12 445 yX12_tapeNumber ∈ gtbl := List.mem_of_getElem? (i := 1534) (by decide +kernel)
theorem ml_L_101 : Cond.methodLink RL 101 yX12_count ∈ gtbl := List.mem_of_getElem? (i := 1537) (by decide +kernel)
theorem ml_X11_9 : (RX11, 9, yX9_init, "DyeVats") ∈ nestM := List.mem_of_getElem? (i := 0) rfl
theorem ml_X11_29 : (RX11, 29, yX4_init, "DyeVats") ∈ nestM := List.mem_of_getElem? (i := 1) rfl
theorem ml_X11_36 : (RX11, 36, yX6_init, "DyeVats") ∈ nestM := List.mem_of_getElem? (i := 2) rfl
theorem ml_X11_99 : (RX11, 99, yX1_init, "DyeVats") ∈ nestM := List.mem_of_getElem? (i := 3) rfl
theorem ml_X4_51 : (RX4, 51, yX11_within, "DyeVats") ∈ nestM := List.mem_of_getElem? (i := 4) rfl
theorem ml_X7_59 : (RX7, 59, yX11_within, "DyeVats") ∈ nestM := List.mem_of_getElem? (i := 5) rfl
theorem ml_X0_25 : (RX0, 25, yX11_copyMeasures, "DyeVats") ∈ nestM := List.mem_of_getElem? (i := 6) rfl
theorem ml_X0_93 : (RX0, 93, yX11_within, "DyeVats") ∈ nestM := List.mem_of_getElem? (i := 7) rfl
theorem ml_X9_19 : (RX9, 19, yX11_within, "DyeVats") ∈ nestM := List.mem_of_getElem? (i := 8) rfl
theorem ml_X3_108 : (RX3, 108, yX11_copyMeasures, "DyeVats") ∈ nestM := List.mem_of_getElem? (i := 9) rfl
theorem ml_X3_122 : (RX3, 122, yX11_within, "DyeVats") ∈ nestM := List.mem_of_getElem? (i := 10) rfl
theorem ml_X1_15 : (RX1, 15, yX11_copyMeasures, "DyeVats") ∈ nestM := List.mem_of_getElem? (i := 11) rfl
theorem cd_J6_bitCount_0f7a4 : CD yJ6_bitCount_0f7a4 cJ6_bitCount_0f7a4 1 (some .int) 1 := ⟨List.mem_of_getElem? (i := 811) (by decide +kernel), List.mem_of_getElem? (i := 127) (by decide +kernel), by decide, by decide, by decide +kernel⟩
theorem st_J6_bitCount_0f7a4 : Cond.static yJ6_bitCount_0f7a4 ∈ gtbl := List.mem_of_getElem? (i := 810) (by decide +kernel)
theorem cd_J7_fill_53178 : CD yJ7_fill_53178 cJ7_fill_53178 4 none 2 := ⟨List.mem_of_getElem? (i := 168) (by decide +kernel), List.mem_of_getElem? (i := 114) (by decide +kernel), by decide, by decide, by decide +kernel⟩
theorem st_J7_fill_53178 : Cond.static yJ7_fill_53178 ∈ gtbl := List.mem_of_getElem? (i := 167) (by decide +kernel)
theorem cd_J7_fill_fda19 : CD yJ7_fill_fda19 cJ7_fill_fda19 5 none 4 := ⟨List.mem_of_getElem? (i := 911) (by decide +kernel), List.mem_of_getElem? (i := 114) (by decide +kernel), by decide, by decide, by decide +kernel⟩
theorem st_J7_fill_fda19 : Cond.static yJ7_fill_fda19 ∈ gtbl := List.mem_of_getElem? (i := 910) (by decide +kernel)
theorem cd_J7_rangeCheck_23922 : CD yJ7_rangeCheck_23922 cJ7_rangeCheck_23922 3 none 3 := ⟨List.mem_of_getElem? (i := 914) (by decide +kernel), List.mem_of_getElem? (i := 114) (by decide +kernel), by decide, by decide, by decide +kernel⟩
theorem st_J7_rangeCheck_23922 : Cond.static yJ7_rangeCheck_23922 ∈ gtbl := List.mem_of_getElem? (i := 913) (by decide +kernel)
theorem cd_J9_floorMod_7cf53 : CD yJ9_floorMod_7cf53 cJ9_floorMod_7cf53 3 (some .int) 2 := ⟨List.mem_of_getElem? (i := 775) (by decide +kernel), List.mem_of_getElem? (i := 122) (by decide +kernel), by decide, by decide, by decide +kernel⟩
theorem st_J9_floorMod_7cf53 : Cond.static yJ9_floorMod_7cf53 ∈ gtbl := List.mem_of_getElem? (i := 774) (by decide +kernel)
theorem cd_J9_max_7cf53 : CD yJ9_max_7cf53 cJ9_max_7cf53 2 (some .int) 2 := ⟨List.mem_of_getElem? (i := 396) (by decide +kernel), List.mem_of_getElem? (i := 122) (by decide +kernel), by decide, by decide, by decide +kernel⟩
theorem st_J9_max_7cf53 : Cond.static yJ9_max_7cf53 ∈ gtbl := List.mem_of_getElem? (i := 395) (by decide +kernel)
theorem cd_J9_min_7cf53 : CD yJ9_min_7cf53 cJ9_min_7cf53 2 (some .int) 2 := ⟨List.mem_of_getElem? (i := 759) (by decide +kernel), List.mem_of_getElem? (i := 122) (by decide +kernel), by decide, by decide, by decide +kernel⟩
theorem st_J9_min_7cf53 : Cond.static yJ9_min_7cf53 ∈ gtbl := List.mem_of_getElem? (i := 758) (by decide +kernel)
theorem cd_X0_act : CD yX0_act cX0_act 6 none 3 := ⟨List.mem_of_getElem? (i := 750) (by decide +kernel), List.mem_of_getElem? (i := 118) (by decide +kernel), by decide, by decide, by decide +kernel⟩
theorem cv_X0_act : CV yX0_act := ⟨List.mem_of_getElem? (i := 748) (by decide +kernel), List.mem_of_getElem? (i := 749) (by decide +kernel)⟩
theorem cd_X0_copy : CD yX0_copy cX0_copy 2 none 1 := ⟨List.mem_of_getElem? (i := 879) (by decide +kernel), List.mem_of_getElem? (i := 118) (by decide +kernel), by decide, by decide, by decide +kernel⟩
theorem cv_X0_copy : CV yX0_copy := ⟨List.mem_of_getElem? (i := 877) (by decide +kernel), List.mem_of_getElem? (i := 878) (by decide +kernel)⟩
theorem cd_X0_dip : CD yX0_dip cX0_dip 2 none 1 := ⟨List.mem_of_getElem? (i := 753) (by decide +kernel), List.mem_of_getElem? (i := 118) (by decide +kernel), by decide, by decide, by decide +kernel⟩
theorem cv_X0_dip : CV yX0_dip := ⟨List.mem_of_getElem? (i := 752) (by decide +kernel), List.mem_of_getElem? (i := 23) (by decide +kernel)⟩
theorem cd_X0_findsEmpty : CD yX0_findsEmpty cX0_findsEmpty 2 (some .boolean) 1 := ⟨List.mem_of_getElem? (i := 746) (by decide +kernel), List.mem_of_getElem? (i := 118) (by decide +kernel), by decide, by decide, by decide +kernel⟩
theorem cv_X0_findsEmpty : CV yX0_findsEmpty := ⟨List.mem_of_getElem? (i := 745) (by decide +kernel), List.mem_of_getElem? (i := 22) (by decide +kernel)⟩
theorem cd_X0_flow : CD yX0_flow cX0_flow 3 none 2 := ⟨List.mem_of_getElem? (i := 766) (by decide +kernel), List.mem_of_getElem? (i := 118) (by decide +kernel), by decide, by decide, by decide +kernel⟩
theorem cv_X0_flow : CV yX0_flow := ⟨List.mem_of_getElem? (i := 765) (by decide +kernel), List.mem_of_getElem? (i := 25) (by decide +kernel)⟩
theorem cd_X0_go : CD yX0_go cX0_go 5 none 2 := ⟨List.mem_of_getElem? (i := 736) (by decide +kernel), List.mem_of_getElem? (i := 118) (by decide +kernel), by decide, by decide, by decide +kernel⟩
theorem cv_X0_go : CV yX0_go := ⟨List.mem_of_getElem? (i := 734) (by decide +kernel), List.mem_of_getElem? (i := 735) (by decide +kernel)⟩
theorem cd_X0_hasMeasuresOf : CD yX0_hasMeasuresOf cX0_hasMeasuresOf 3 (some .boolean) 1 := ⟨List.mem_of_getElem? (i := 844) (by decide +kernel), List.mem_of_getElem? (i := 118) (by decide +kernel), by decide, by decide, by decide +kernel⟩
theorem cv_X0_hasMeasuresOf : CV yX0_hasMeasuresOf := ⟨List.mem_of_getElem? (i := 842) (by decide +kernel), List.mem_of_getElem? (i := 843) (by decide +kernel)⟩
theorem cd_X0_init : CD yX0_init cX0_init 2 none 1 := ⟨List.mem_of_getElem? (i := 275) (by decide +kernel), List.mem_of_getElem? (i := 118) (by decide +kernel), by decide, by decide, by decide +kernel⟩
theorem cd_X0_isAtMark : CD yX0_isAtMark cX0_isAtMark 2 (some .boolean) 0 := ⟨List.mem_of_getElem? (i := 769) (by decide +kernel), List.mem_of_getElem? (i := 118) (by decide +kernel), by decide, by decide, by decide +kernel⟩
theorem cv_X0_isAtMark : CV yX0_isAtMark := ⟨List.mem_of_getElem? (i := 768) (by decide +kernel), List.mem_of_getElem? (i := 26) (by decide +kernel)⟩
theorem cd_X0_isOver : CD yX0_isOver cX0_isOver 2 (some .boolean) 1 := ⟨List.mem_of_getElem? (i := 869) (by decide +kernel), List.mem_of_getElem? (i := 118) (by decide +kernel), by decide, by decide, by decide +kernel⟩
theorem cv_X0_isOver : CV yX0_isOver := ⟨List.mem_of_getElem? (i := 867) (by decide +kernel), List.mem_of_getElem? (i := 868) (by decide +kernel)⟩
theorem cd_X0_kindsWork : CD yX0_kindsWork cX0_kindsWork 2 none 0 := ⟨List.mem_of_getElem? (i := 763) (by decide +kernel), List.mem_of_getElem? (i := 118) (by decide +kernel), by decide, by decide, by decide +kernel⟩
theorem cv_X0_kindsWork : CV yX0_kindsWork := ⟨List.mem_of_getElem? (i := 761) (by decide +kernel), List.mem_of_getElem? (i := 762) (by decide +kernel)⟩
theorem cd_X0_known : CD yX0_known cX0_known 2 (some .int) 1 := ⟨List.mem_of_getElem? (i := 789) (by decide +kernel), List.mem_of_getElem? (i := 118) (by decide +kernel), by decide, by decide, by decide +kernel⟩
theorem cv_X0_known : CV yX0_known := ⟨List.mem_of_getElem? (i := 787) (by decide +kernel), List.mem_of_getElem? (i := 788) (by decide +kernel)⟩
theorem cd_X0_leap : CD yX0_leap cX0_leap 8 none 1 := ⟨List.mem_of_getElem? (i := 772) (by decide +kernel), List.mem_of_getElem? (i := 118) (by decide +kernel), by decide, by decide, by decide +kernel⟩
theorem cv_X0_leap : CV yX0_leap := ⟨List.mem_of_getElem? (i := 771) (by decide +kernel), List.mem_of_getElem? (i := 27) (by decide +kernel)⟩
theorem cd_X0_mark : CD yX0_mark cX0_mark 1 none 0 := ⟨List.mem_of_getElem? (i := 739) (by decide +kernel), List.mem_of_getElem? (i := 118) (by decide +kernel), by decide, by decide, by decide +kernel⟩
theorem cv_X0_mark : CV yX0_mark := ⟨List.mem_of_getElem? (i := 738) (by decide +kernel), List.mem_of_getElem? (i := 21) (by decide +kernel)⟩
theorem cd_X0_standsWith : CD yX0_standsWith cX0_standsWith 2 (some .boolean) 1 := ⟨List.mem_of_getElem? (i := 874) (by decide +kernel), List.mem_of_getElem? (i := 118) (by decide +kernel), by decide, by decide, by decide +kernel⟩
theorem cv_X0_standsWith : CV yX0_standsWith := ⟨List.mem_of_getElem? (i := 872) (by decide +kernel), List.mem_of_getElem? (i := 873) (by decide +kernel)⟩
theorem cd_X0_start : CD yX0_start cX0_start 3 none 2 := ⟨List.mem_of_getElem? (i := 727) (by decide +kernel), List.mem_of_getElem? (i := 118) (by decide +kernel), by decide, by decide, by decide +kernel⟩
theorem cv_X0_start : CV yX0_start := ⟨List.mem_of_getElem? (i := 725) (by decide +kernel), List.mem_of_getElem? (i := 726) (by decide +kernel)⟩
theorem cd_X0_step : CD yX0_step cX0_step 6 none 2 := ⟨List.mem_of_getElem? (i := 743) (by decide +kernel), List.mem_of_getElem? (i := 118) (by decide +kernel), by decide, by decide, by decide +kernel⟩
theorem cv_X0_step : CV yX0_step := ⟨List.mem_of_getElem? (i := 741) (by decide +kernel), List.mem_of_getElem? (i := 742) (by decide +kernel)⟩
theorem cd_X0_take : CD yX0_take cX0_take 2 none 1 := ⟨List.mem_of_getElem? (i := 756) (by decide +kernel), List.mem_of_getElem? (i := 118) (by decide +kernel), by decide, by decide, by decide +kernel⟩
theorem cv_X0_take : CV yX0_take := ⟨List.mem_of_getElem? (i := 755) (by decide +kernel), List.mem_of_getElem? (i := 24) (by decide +kernel)⟩
theorem cd_X10_hold : CD yX10_hold cX10_hold 3 (some .boolean) 1 := ⟨List.mem_of_getElem? (i := 904) (by decide +kernel), List.mem_of_getElem? (i := 113) (by decide +kernel), by decide, by decide, by decide +kernel⟩
theorem cv_X10_hold : CV yX10_hold := ⟨List.mem_of_getElem? (i := 902) (by decide +kernel), List.mem_of_getElem? (i := 903) (by decide +kernel)⟩
theorem cd_X10_init : CD yX10_init cX10_init 1 none 0 := ⟨List.mem_of_getElem? (i := 164) (by decide +kernel), List.mem_of_getElem? (i := 113) (by decide +kernel), by decide, by decide, by decide +kernel⟩
theorem cd_X10_put : CD yX10_put cX10_put 6 none 4 := ⟨List.mem_of_getElem? (i := 565) (by decide +kernel), List.mem_of_getElem? (i := 113) (by decide +kernel), by decide, by decide, by decide +kernel⟩
theorem cv_X10_put : CV yX10_put := ⟨List.mem_of_getElem? (i := 563) (by decide +kernel), List.mem_of_getElem? (i := 564) (by decide +kernel)⟩
theorem cd_X10_together : CD yX10_together cX10_together 3 (some .int) 0 := ⟨List.mem_of_getElem? (i := 1013) (by decide +kernel), List.mem_of_getElem? (i := 113) (by decide +kernel), by decide, by decide, by decide +kernel⟩
theorem cv_X10_together : CV yX10_together := ⟨List.mem_of_getElem? (i := 1011) (by decide +kernel), List.mem_of_getElem? (i := 1012) (by decide +kernel)⟩
theorem cd_X11_alike : CD yX11_alike cX11_alike 6 (some .int) 5 := ⟨List.mem_of_getElem? (i := 836) (by decide +kernel), List.mem_of_getElem? (i := 111) (by decide +kernel), by decide, by decide, by decide +kernel⟩
theorem cv_X11_alike : CV yX11_alike := ⟨List.mem_of_getElem? (i := 834) (by decide +kernel), List.mem_of_getElem? (i := 835) (by decide +kernel)⟩
theorem cd_X11_check : CD yX11_check cX11_check 3 (some .int) 1 := ⟨List.mem_of_getElem? (i := 1022) (by decide +kernel), List.mem_of_getElem? (i := 111) (by decide +kernel), by decide, by decide, by decide +kernel⟩
theorem cv_X11_check : CV yX11_check := ⟨List.mem_of_getElem? (i := 1020) (by decide +kernel), List.mem_of_getElem? (i := 1021) (by decide +kernel)⟩
theorem cd_X11_copyMeasures : CD yX11_copyMeasures cX11_copyMeasures 2 none 2 := ⟨List.mem_of_getElem? (i := 729) (by decide +kernel), List.mem_of_getElem? (i := 111) (by decide +kernel), by decide, by decide, by decide +kernel⟩
theorem st_X11_copyMeasures : Cond.static yX11_copyMeasures ∈ gtbl := List.mem_of_getElem? (i := 728) (by decide +kernel)
theorem cd_X11_count : CD yX11_count cX11_count 2 (some .int) 1 := ⟨List.mem_of_getElem? (i := 1033) (by decide +kernel), List.mem_of_getElem? (i := 111) (by decide +kernel), by decide, by decide, by decide +kernel⟩
theorem cv_X11_count : CV yX11_count := ⟨List.mem_of_getElem? (i := 1031) (by decide +kernel), List.mem_of_getElem? (i := 1032) (by decide +kernel)⟩
theorem cd_X11_done : CD yX11_done cX11_done 3 (some .int) 2 := ⟨List.mem_of_getElem? (i := 800) (by decide +kernel), List.mem_of_getElem? (i := 111) (by decide +kernel), by decide, by decide, by decide +kernel⟩
theorem cv_X11_done : CV yX11_done := ⟨List.mem_of_getElem? (i := 798) (by decide +kernel), List.mem_of_getElem? (i := 799) (by decide +kernel)⟩
theorem cd_X11_feed : CD yX11_feed cX11_feed 6 (some .int) 5 := ⟨List.mem_of_getElem? (i := 569) (by decide +kernel), List.mem_of_getElem? (i := 111) (by decide +kernel), by decide, by decide, by decide +kernel⟩
theorem cv_X11_feed : CV yX11_feed := ⟨List.mem_of_getElem? (i := 567) (by decide +kernel), List.mem_of_getElem? (i := 568) (by decide +kernel)⟩
theorem cd_X11_firstWrong : CD yX11_firstWrong cX11_firstWrong 3 (some .int) 1 := ⟨List.mem_of_getElem? (i := 1025) (by decide +kernel), List.mem_of_getElem? (i := 111) (by decide +kernel), by decide, by decide, by decide +kernel⟩
theorem cv_X11_firstWrong : CV yX11_firstWrong := ⟨List.mem_of_getElem? (i := 1024) (by decide +kernel), List.mem_of_getElem? (i := 48) (by decide +kernel)⟩
theorem cd_X11_fit : CD yX11_fit cX11_fit 6 (some .int) 5 := ⟨List.mem_of_getElem? (i := 848) (by decide +kernel), List.mem_of_getElem? (i := 111) (by decide +kernel), by decide, by decide, by decide +kernel⟩
theorem cv_X11_fit : CV yX11_fit := ⟨List.mem_of_getElem? (i := 846) (by decide +kernel), List.mem_of_getElem? (i := 847) (by decide +kernel)⟩
theorem cd_X11_hasText : CD yX11_hasText cX11_hasText 2 (some .boolean) 1 := ⟨List.mem_of_getElem? (i := 587) (by decide +kernel), List.mem_of_getElem? (i := 111) (by decide +kernel), by decide, by decide, by decide +kernel⟩
theorem cv_X11_hasText : CV yX11_hasText := ⟨List.mem_of_getElem? (i := 586) (by decide +kernel), List.mem_of_getElem? (i := 0) (by decide +kernel)⟩
theorem cd_X11_init : CD yX11_init cX11_init 2 none 0 := ⟨List.mem_of_getElem? (i := 132) (by decide +kernel), List.mem_of_getElem? (i := 111) (by decide +kernel), by decide, by decide, by decide +kernel⟩
theorem cd_X11_isRecipe : CD yX11_isRecipe cX11_isRecipe 1 (some .boolean) 1 := ⟨List.mem_of_getElem? (i := 584) (by decide +kernel), List.mem_of_getElem? (i := 111) (by decide +kernel), by decide, by decide, by decide +kernel⟩
theorem st_X11_isRecipe : Cond.static yX11_isRecipe ∈ gtbl := List.mem_of_getElem? (i := 583) (by decide +kernel)
theorem cd_X11_isSurvey : CD yX11_isSurvey cX11_isSurvey 3 (some .boolean) 3 := ⟨List.mem_of_getElem? (i := 808) (by decide +kernel), List.mem_of_getElem? (i := 111) (by decide +kernel), by decide, by decide, by decide +kernel⟩
theorem st_X11_isSurvey : Cond.static yX11_isSurvey ∈ gtbl := List.mem_of_getElem? (i := 807) (by decide +kernel)
theorem cd_X11_keep : CD yX11_keep cX11_keep 1 (some .int) 0 := ⟨List.mem_of_getElem? (i := 1005) (by decide +kernel), List.mem_of_getElem? (i := 111) (by decide +kernel), by decide, by decide, by decide +kernel⟩
theorem cv_X11_keep : CV yX11_keep := ⟨List.mem_of_getElem? (i := 1003) (by decide +kernel), List.mem_of_getElem? (i := 1004) (by decide +kernel)⟩
theorem cd_X11_night : CD yX11_night cX11_night 4 (some .int) 1 := ⟨List.mem_of_getElem? (i := 997) (by decide +kernel), List.mem_of_getElem? (i := 111) (by decide +kernel), by decide, by decide, by decide +kernel⟩
theorem cv_X11_night : CV yX11_night := ⟨List.mem_of_getElem? (i := 995) (by decide +kernel), List.mem_of_getElem? (i := 996) (by decide +kernel)⟩
theorem cd_X11_order : CD yX11_order cX11_order 4 (some .int) 2 := ⟨List.mem_of_getElem? (i := 973) (by decide +kernel), List.mem_of_getElem? (i := 111) (by decide +kernel), by decide, by decide, by decide +kernel⟩
theorem cv_X11_order : CV yX11_order := ⟨List.mem_of_getElem? (i := 971) (by decide +kernel), List.mem_of_getElem? (i := 972) (by decide +kernel)⟩
theorem cd_X11_pourAtNight : CD yX11_pourAtNight cX11_pourAtNight 3 (some .int) 2 := ⟨List.mem_of_getElem? (i := 1001) (by decide +kernel), List.mem_of_getElem? (i := 111) (by decide +kernel), by decide, by decide, by decide +kernel⟩
theorem cv_X11_pourAtNight : CV yX11_pourAtNight := ⟨List.mem_of_getElem? (i := 1000) (by decide +kernel), List.mem_of_getElem? (i := 47) (by decide +kernel)⟩
theorem cd_X11_proved : CD yX11_proved cX11_proved 5 (some .int) 4 := ⟨List.mem_of_getElem? (i := 805) (by decide +kernel), List.mem_of_getElem? (i := 111) (by decide +kernel), by decide, by decide, by decide +kernel⟩
theorem cv_X11_proved : CV yX11_proved := ⟨List.mem_of_getElem? (i := 803) (by decide +kernel), List.mem_of_getElem? (i := 804) (by decide +kernel)⟩
theorem cd_X11_recipe : CD yX11_recipe cX11_recipe 5 (some .int) 2 := ⟨List.mem_of_getElem? (i := 581) (by decide +kernel), List.mem_of_getElem? (i := 111) (by decide +kernel), by decide, by decide, by decide +kernel⟩
theorem cv_X11_recipe : CV yX11_recipe := ⟨List.mem_of_getElem? (i := 579) (by decide +kernel), List.mem_of_getElem? (i := 580) (by decide +kernel)⟩
theorem cd_X11_round : CD yX11_round cX11_round 3 (some .int) 2 := ⟨List.mem_of_getElem? (i := 856) (by decide +kernel), List.mem_of_getElem? (i := 111) (by decide +kernel), by decide, by decide, by decide +kernel⟩
theorem cv_X11_round : CV yX11_round := ⟨List.mem_of_getElem? (i := 854) (by decide +kernel), List.mem_of_getElem? (i := 855) (by decide +kernel)⟩
theorem cd_X11_run : CD yX11_run cX11_run 5 (some .int) 3 := ⟨List.mem_of_getElem? (i := 723) (by decide +kernel), List.mem_of_getElem? (i := 111) (by decide +kernel), by decide, by decide, by decide +kernel⟩
theorem cv_X11_run : CV yX11_run := ⟨List.mem_of_getElem? (i := 721) (by decide +kernel), List.mem_of_getElem? (i := 722) (by decide +kernel)⟩
theorem cd_X11_seed : CD yX11_seed cX11_seed 2 (some .boolean) 1 := ⟨List.mem_of_getElem? (i := 992) (by decide +kernel), List.mem_of_getElem? (i := 111) (by decide +kernel), by decide, by decide, by decide +kernel⟩
theorem cv_X11_seed : CV yX11_seed := ⟨List.mem_of_getElem? (i := 990) (by decide +kernel), List.mem_of_getElem? (i := 991) (by decide +kernel)⟩
theorem cd_X11_shortest : CD yX11_shortest cX11_shortest 3 (some .int) 1 := ⟨List.mem_of_getElem? (i := 886) (by decide +kernel), List.mem_of_getElem? (i := 111) (by decide +kernel), by decide, by decide, by decide +kernel⟩
theorem cv_X11_shortest : CV yX11_shortest := ⟨List.mem_of_getElem? (i := 884) (by decide +kernel), List.mem_of_getElem? (i := 885) (by decide +kernel)⟩
theorem cd_X11_slips : CD yX11_slips cX11_slips 5 (some .int) 3 := ⟨List.mem_of_getElem? (i := 939) (by decide +kernel), List.mem_of_getElem? (i := 111) (by decide +kernel), by decide, by decide, by decide +kernel⟩
theorem cv_X11_slips : CV yX11_slips := ⟨List.mem_of_getElem? (i := 937) (by decide +kernel), List.mem_of_getElem? (i := 938) (by decide +kernel)⟩
theorem cd_X11_spec : CD yX11_spec cX11_spec 4 (some .int) 1 := ⟨List.mem_of_getElem? (i := 668) (by decide +kernel), List.mem_of_getElem? (i := 111) (by decide +kernel), by decide, by decide, by decide +kernel⟩
theorem cv_X11_spec : CV yX11_spec := ⟨List.mem_of_getElem? (i := 666) (by decide +kernel), List.mem_of_getElem? (i := 667) (by decide +kernel)⟩
theorem cd_X11_sum : CD yX11_sum cX11_sum 5 (some .int) 4 := ⟨List.mem_of_getElem? (i := 953) (by decide +kernel), List.mem_of_getElem? (i := 111) (by decide +kernel), by decide, by decide, by decide +kernel⟩
theorem cv_X11_sum : CV yX11_sum := ⟨List.mem_of_getElem? (i := 951) (by decide +kernel), List.mem_of_getElem? (i := 952) (by decide +kernel)⟩
theorem cd_X11_undo : CD yX11_undo cX11_undo 1 (some .boolean) 0 := ⟨List.mem_of_getElem? (i := 1017) (by decide +kernel), List.mem_of_getElem? (i := 111) (by decide +kernel), by decide, by decide, by decide +kernel⟩
theorem cv_X11_undo : CV yX11_undo := ⟨List.mem_of_getElem? (i := 1015) (by decide +kernel), List.mem_of_getElem? (i := 1016) (by decide +kernel)⟩
theorem cd_X11_unfelt : CD yX11_unfelt cX11_unfelt 7 (some .int) 4 := ⟨List.mem_of_getElem? (i := 942) (by decide +kernel), List.mem_of_getElem? (i := 111) (by decide +kernel), by decide, by decide, by decide +kernel⟩
theorem cv_X11_unfelt : CV yX11_unfelt := ⟨List.mem_of_getElem? (i := 941) (by decide +kernel), List.mem_of_getElem? (i := 44) (by decide +kernel)⟩
theorem cd_X11_vat : CD yX11_vat cX11_vat 5 (some .boolean) 4 := ⟨List.mem_of_getElem? (i := 558) (by decide +kernel), List.mem_of_getElem? (i := 111) (by decide +kernel), by decide, by decide, by decide +kernel⟩
theorem cv_X11_vat : CV yX11_vat := ⟨List.mem_of_getElem? (i := 556) (by decide +kernel), List.mem_of_getElem? (i := 557) (by decide +kernel)⟩
theorem cd_X11_within : CD yX11_within cX11_within 3 (some .boolean) 3 := ⟨List.mem_of_getElem? (i := 561) (by decide +kernel), List.mem_of_getElem? (i := 111) (by decide +kernel), by decide, by decide, by decide +kernel⟩
theorem st_X11_within : Cond.static yX11_within ∈ gtbl := List.mem_of_getElem? (i := 560) (by decide +kernel)
theorem cd_X12_acts : CD yX12_acts cX12_acts 2 none 1 := ⟨List.mem_of_getElem? (i := 1483) (by decide +kernel), List.mem_of_getElem? (i := 125) (by decide +kernel), by decide, by decide, by decide +kernel⟩
theorem cv_X12_acts : CV yX12_acts := ⟨List.mem_of_getElem? (i := 1482) (by decide +kernel), List.mem_of_getElem? (i := 103) (by decide +kernel)⟩
theorem cd_X12_alike : CD yX12_alike cX12_alike 7 (some .int) 5 := ⟨List.mem_of_getElem? (i := 1449) (by decide +kernel), List.mem_of_getElem? (i := 125) (by decide +kernel), by decide, by decide, by decide +kernel⟩
theorem cv_X12_alike : CV yX12_alike := ⟨List.mem_of_getElem? (i := 1447) (by decide +kernel), List.mem_of_getElem? (i := 1448) (by decide +kernel)⟩
theorem cd_X12_areVats : CD yX12_areVats cX12_areVats 3 (some .boolean) 2 := ⟨List.mem_of_getElem? (i := 1427) (by decide +kernel), List.mem_of_getElem? (i := 125) (by decide +kernel), by decide, by decide, by decide +kernel⟩
theorem cv_X12_areVats : CV yX12_areVats := ⟨List.mem_of_getElem? (i := 1426) (by decide +kernel), List.mem_of_getElem? (i := 91) (by decide +kernel)⟩
theorem cd_X12_begins : CD yX12_begins cX12_begins 2 none 1 := ⟨List.mem_of_getElem? (i := 1272) (by decide +kernel), List.mem_of_getElem? (i := 125) (by decide +kernel), by decide, by decide, by decide +kernel⟩
theorem cv_X12_begins : CV yX12_begins := ⟨List.mem_of_getElem? (i := 1271) (by decide +kernel), List.mem_of_getElem? (i := 51) (by decide +kernel)⟩
theorem cd_X12_bits : CD yX12_bits cX12_bits 3 (some .int) 1 := ⟨List.mem_of_getElem? (i := 1430) (by decide +kernel), List.mem_of_getElem? (i := 125) (by decide +kernel), by decide, by decide, by decide +kernel⟩
theorem st_X12_bits : Cond.static yX12_bits ∈ gtbl := List.mem_of_getElem? (i := 1429) (by decide +kernel)
theorem cd_X12_canGoThrough : CD yX12_canGoThrough cX12_canGoThrough 3 (some .boolean) 0 := ⟨List.mem_of_getElem? (i := 1471) (by decide +kernel), List.mem_of_getElem? (i := 125) (by decide +kernel), by decide, by decide, by decide +kernel⟩
theorem cv_X12_canGoThrough : CV yX12_canGoThrough := ⟨List.mem_of_getElem? (i := 1470) (by decide +kernel), List.mem_of_getElem? (i := 99) (by decide +kernel)⟩
theorem cd_X12_check : CD yX12_check cX12_check 3 (some .int) 1 := ⟨List.mem_of_getElem? (i := 1533) (by decide +kernel), List.mem_of_getElem? (i := 125) (by decide +kernel), by decide, by decide, by decide +kernel⟩
theorem cv_X12_check : CV yX12_check := ⟨List.mem_of_getElem? (i := 1531) (by decide +kernel), List.mem_of_getElem? (i := 1532) (by decide +kernel)⟩
theorem cd_X12_closes : CD yX12_closes cX12_closes 2 none 0 := ⟨List.mem_of_getElem? (i := 1361) (by decide +kernel), List.mem_of_getElem? (i := 125) (by decide +kernel), by decide, by decide, by decide +kernel⟩
theorem cv_X12_closes : CV yX12_closes := ⟨List.mem_of_getElem? (i := 1360) (by decide +kernel), List.mem_of_getElem? (i := 77) (by decide +kernel)⟩
theorem cd_X12_closesSums : CD yX12_closesSums cX12_closesSums 2 none 1 := ⟨List.mem_of_getElem? (i := 1312) (by decide +kernel), List.mem_of_getElem? (i := 125) (by decide +kernel), by decide, by decide, by decide +kernel⟩
theorem cv_X12_closesSums : CV yX12_closesSums := ⟨List.mem_of_getElem? (i := 1311) (by decide +kernel), List.mem_of_getElem? (i := 62) (by decide +kernel)⟩
theorem cd_X12_comesTo : CD yX12_comesTo cX12_comesTo 8 (some .int) 2 := ⟨List.mem_of_getElem? (i := 1413) (by decide +kernel), List.mem_of_getElem? (i := 125) (by decide +kernel), by decide, by decide, by decide +kernel⟩
theorem cv_X12_comesTo : CV yX12_comesTo := ⟨List.mem_of_getElem? (i := 1412) (by decide +kernel), List.mem_of_getElem? (i := 90) (by decide +kernel)⟩
theorem cd_X12_count : CD yX12_count cX12_count 2 (some .int) 1 := ⟨List.mem_of_getElem? (i := 1540) (by decide +kernel), List.mem_of_getElem? (i := 125) (by decide +kernel), by decide, by decide, by decide +kernel⟩
theorem cv_X12_count : CV yX12_count := ⟨List.mem_of_getElem? (i := 1538) (by decide +kernel), List.mem_of_getElem? (i := 1539) (by decide +kernel)⟩
theorem cd_X12_dips : CD yX12_dips cX12_dips 2 none 1 := ⟨List.mem_of_getElem? (i := 1395) (by decide +kernel), List.mem_of_getElem? (i := 125) (by decide +kernel), by decide, by decide, by decide +kernel⟩
theorem cv_X12_dips : CV yX12_dips := ⟨List.mem_of_getElem? (i := 1394) (by decide +kernel), List.mem_of_getElem? (i := 85) (by decide +kernel)⟩
theorem cd_X12_does : CD yX12_does cX12_does 4 none 3 := ⟨List.mem_of_getElem? (i := 1392) (by decide +kernel), List.mem_of_getElem? (i := 125) (by decide +kernel), by decide, by decide, by decide +kernel⟩
theorem cv_X12_does : CV yX12_does := ⟨List.mem_of_getElem? (i := 1391) (by decide +kernel), List.mem_of_getElem? (i := 84) (by decide +kernel)⟩
theorem cd_X12_done : CD yX12_done cX12_done 4 (some .int) 2 := ⟨List.mem_of_getElem? (i := 1420) (by decide +kernel), List.mem_of_getElem? (i := 125) (by decide +kernel), by decide, by decide, by decide +kernel⟩
theorem cv_X12_done : CV yX12_done := ⟨List.mem_of_getElem? (i := 1418) (by decide +kernel), List.mem_of_getElem? (i := 1419) (by decide +kernel)⟩
theorem cd_X12_endOtherwise : CD yX12_endOtherwise cX12_endOtherwise 6 (some .boolean) 2 := ⟨List.mem_of_getElem? (i := 1452) (by decide +kernel), List.mem_of_getElem? (i := 125) (by decide +kernel), by decide, by decide, by decide +kernel⟩
theorem cv_X12_endOtherwise : CV yX12_endOtherwise := ⟨List.mem_of_getElem? (i := 1451) (by decide +kernel), List.mem_of_getElem? (i := 97) (by decide +kernel)⟩
theorem cd_X12_endsPiece : CD yX12_endsPiece cX12_endsPiece 1 none 0 := ⟨List.mem_of_getElem? (i := 1321) (by decide +kernel), List.mem_of_getElem? (i := 125) (by decide +kernel), by decide, by decide, by decide +kernel⟩
theorem cv_X12_endsPiece : CV yX12_endsPiece := ⟨List.mem_of_getElem? (i := 1320) (by decide +kernel), List.mem_of_getElem? (i := 65) (by decide +kernel)⟩
theorem cd_X12_factOf : CD yX12_factOf cX12_factOf 1 (some .int) 1 := ⟨List.mem_of_getElem? (i := 1306) (by decide +kernel), List.mem_of_getElem? (i := 125) (by decide +kernel), by decide, by decide, by decide +kernel⟩
theorem st_X12_factOf : Cond.static yX12_factOf ∈ gtbl := List.mem_of_getElem? (i := 1305) (by decide +kernel)
theorem cd_X12_feed : CD yX12_feed cX12_feed 6 (some .int) 5 := ⟨List.mem_of_getElem? (i := 1259) (by decide +kernel), List.mem_of_getElem? (i := 125) (by decide +kernel), by decide, by decide, by decide +kernel⟩
theorem cv_X12_feed : CV yX12_feed := ⟨List.mem_of_getElem? (i := 1257) (by decide +kernel), List.mem_of_getElem? (i := 1258) (by decide +kernel)⟩
theorem cd_X12_finds : CD yX12_finds cX12_finds 3 none 1 := ⟨List.mem_of_getElem? (i := 1439) (by decide +kernel), List.mem_of_getElem? (i := 125) (by decide +kernel), by decide, by decide, by decide +kernel⟩
theorem cv_X12_finds : CV yX12_finds := ⟨List.mem_of_getElem? (i := 1438) (by decide +kernel), List.mem_of_getElem? (i := 94) (by decide +kernel)⟩
theorem cd_X12_fit : CD yX12_fit cX12_fit 7 (some .int) 5 := ⟨List.mem_of_getElem? (i := 1456) (by decide +kernel), List.mem_of_getElem? (i := 125) (by decide +kernel), by decide, by decide, by decide +kernel⟩
theorem cv_X12_fit : CV yX12_fit := ⟨List.mem_of_getElem? (i := 1454) (by decide +kernel), List.mem_of_getElem? (i := 1455) (by decide +kernel)⟩
theorem cd_X12_frameNow : CD yX12_frameNow cX12_frameNow 1 (some .int) 0 := ⟨List.mem_of_getElem? (i := 1358) (by decide +kernel), List.mem_of_getElem? (i := 125) (by decide +kernel), by decide, by decide, by decide +kernel⟩
theorem cv_X12_frameNow : CV yX12_frameNow := ⟨List.mem_of_getElem? (i := 1357) (by decide +kernel), List.mem_of_getElem? (i := 76) (by decide +kernel)⟩
theorem cd_X12_goesOn : CD yX12_goesOn cX12_goesOn 2 none 1 := ⟨List.mem_of_getElem? (i := 1383) (by decide +kernel), List.mem_of_getElem? (i := 125) (by decide +kernel), by decide, by decide, by decide +kernel⟩
theorem cv_X12_goesOn : CV yX12_goesOn := ⟨List.mem_of_getElem? (i := 1382) (by decide +kernel), List.mem_of_getElem? (i := 81) (by decide +kernel)⟩
theorem cd_X12_goesThrough : CD yX12_goesThrough cX12_goesThrough 7 (some .int) 2 := ⟨List.mem_of_getElem? (i := 1477) (by decide +kernel), List.mem_of_getElem? (i := 125) (by decide +kernel), by decide, by decide, by decide +kernel⟩
theorem cv_X12_goesThrough : CV yX12_goesThrough := ⟨List.mem_of_getElem? (i := 1476) (by decide +kernel), List.mem_of_getElem? (i := 101) (by decide +kernel)⟩
theorem cd_X12_goesToNext : CD yX12_goesToNext cX12_goesToNext 4 (some .boolean) 2 := ⟨List.mem_of_getElem? (i := 1442) (by decide +kernel), List.mem_of_getElem? (i := 125) (by decide +kernel), by decide, by decide, by decide +kernel⟩
theorem cv_X12_goesToNext : CV yX12_goesToNext := ⟨List.mem_of_getElem? (i := 1441) (by decide +kernel), List.mem_of_getElem? (i := 95) (by decide +kernel)⟩
theorem cd_X12_hasNext : CD yX12_hasNext cX12_hasNext 2 (some .boolean) 1 := ⟨List.mem_of_getElem? (i := 1386) (by decide +kernel), List.mem_of_getElem? (i := 125) (by decide +kernel), by decide, by decide, by decide +kernel⟩
theorem cv_X12_hasNext : CV yX12_hasNext := ⟨List.mem_of_getElem? (i := 1385) (by decide +kernel), List.mem_of_getElem? (i := 82) (by decide +kernel)⟩
theorem cd_X12_hasOpen : CD yX12_hasOpen cX12_hasOpen 2 (some .boolean) 0 := ⟨List.mem_of_getElem? (i := 1324) (by decide +kernel), List.mem_of_getElem? (i := 125) (by decide +kernel), by decide, by decide, by decide +kernel⟩
theorem cv_X12_hasOpen : CV yX12_hasOpen := ⟨List.mem_of_getElem? (i := 1323) (by decide +kernel), List.mem_of_getElem? (i := 66) (by decide +kernel)⟩
theorem cd_X12_hasOpenSum : CD yX12_hasOpenSum cX12_hasOpenSum 3 (some .boolean) 1 := ⟨List.mem_of_getElem? (i := 1318) (by decide +kernel), List.mem_of_getElem? (i := 125) (by decide +kernel), by decide, by decide, by decide +kernel⟩
theorem cv_X12_hasOpenSum : CV yX12_hasOpenSum := ⟨List.mem_of_getElem? (i := 1317) (by decide +kernel), List.mem_of_getElem? (i := 64) (by decide +kernel)⟩
theorem cd_X12_here : CD yX12_here cX12_here 1 (some .int) 0 := ⟨List.mem_of_getElem? (i := 1278) (by decide +kernel), List.mem_of_getElem? (i := 125) (by decide +kernel), by decide, by decide, by decide +kernel⟩
theorem cv_X12_here : CV yX12_here := ⟨List.mem_of_getElem? (i := 1277) (by decide +kernel), List.mem_of_getElem? (i := 53) (by decide +kernel)⟩
theorem cd_X12_in : CD yX12_in cX12_in 3 (some .boolean) 3 := ⟨List.mem_of_getElem? (i := 1255) (by decide +kernel), List.mem_of_getElem? (i := 125) (by decide +kernel), by decide, by decide, by decide +kernel⟩
theorem st_X12_in : Cond.static yX12_in ∈ gtbl := List.mem_of_getElem? (i := 1254) (by decide +kernel)
theorem cd_X12_init : CD yX12_init cX12_init 2 none 0 := ⟨List.mem_of_getElem? (i := 1038) (by decide +kernel), List.mem_of_getElem? (i := 125) (by decide +kernel), by decide, by decide, by decide +kernel⟩
theorem cd_X12_isActAt : CD yX12_isActAt cX12_isActAt 2 (some .boolean) 1 := ⟨List.mem_of_getElem? (i := 1493) (by decide +kernel), List.mem_of_getElem? (i := 125) (by decide +kernel), by decide, by decide, by decide +kernel⟩
theorem cv_X12_isActAt : CV yX12_isActAt := ⟨List.mem_of_getElem? (i := 1492) (by decide +kernel), List.mem_of_getElem? (i := 105) (by decide +kernel)⟩
theorem cd_X12_isDigit : CD yX12_isDigit cX12_isDigit 1 (some .boolean) 0 := ⟨List.mem_of_getElem? (i := 1297) (by decide +kernel), List.mem_of_getElem? (i := 125) (by decide +kernel), by decide, by decide, by decide +kernel⟩
theorem cv_X12_isDigit : CV yX12_isDigit := ⟨List.mem_of_getElem? (i := 1296) (by decide +kernel), List.mem_of_getElem? (i := 59) (by decide +kernel)⟩
theorem cd_X12_isLimit : CD yX12_isLimit cX12_isLimit 1 (some .boolean) 1 := ⟨List.mem_of_getElem? (i := 1374) (by decide +kernel), List.mem_of_getElem? (i := 125) (by decide +kernel), by decide, by decide, by decide +kernel⟩
theorem st_X12_isLimit : Cond.static yX12_isLimit ∈ gtbl := List.mem_of_getElem? (i := 1373) (by decide +kernel)
theorem cd_X12_isNotFelt : CD yX12_isNotFelt cX12_isNotFelt 5 (some .boolean) 4 := ⟨List.mem_of_getElem? (i := 1490) (by decide +kernel), List.mem_of_getElem? (i := 125) (by decide +kernel), by decide, by decide, by decide +kernel⟩
theorem cv_X12_isNotFelt : CV yX12_isNotFelt := ⟨List.mem_of_getElem? (i := 1489) (by decide +kernel), List.mem_of_getElem? (i := 104) (by decide +kernel)⟩
theorem cd_X12_isRecipe : CD yX12_isRecipe cX12_isRecipe 1 (some .boolean) 1 := ⟨List.mem_of_getElem? (i := 1371) (by decide +kernel), List.mem_of_getElem? (i := 125) (by decide +kernel), by decide, by decide, by decide +kernel⟩
theorem st_X12_isRecipe : Cond.static yX12_isRecipe ∈ gtbl := List.mem_of_getElem? (i := 1370) (by decide +kernel)
theorem cd_X12_isText : CD yX12_isText cX12_isText 2 (some .boolean) 1 := ⟨List.mem_of_getElem? (i := 1269) (by decide +kernel), List.mem_of_getElem? (i := 125) (by decide +kernel), by decide, by decide, by decide +kernel⟩
theorem cv_X12_isText : CV yX12_isText := ⟨List.mem_of_getElem? (i := 1268) (by decide +kernel), List.mem_of_getElem? (i := 50) (by decide +kernel)⟩
theorem cd_X12_isVat : CD yX12_isVat cX12_isVat 1 (some .boolean) 1 := ⟨List.mem_of_getElem? (i := 1252) (by decide +kernel), List.mem_of_getElem? (i := 125) (by decide +kernel), by decide, by decide, by decide +kernel⟩
theorem st_X12_isVat : Cond.static yX12_isVat ∈ gtbl := List.mem_of_getElem? (i := 1251) (by decide +kernel)
theorem cd_X12_jumps : CD yX12_jumps cX12_jumps 2 none 1 := ⟨List.mem_of_getElem? (i := 1330) (by decide +kernel), List.mem_of_getElem? (i := 125) (by decide +kernel), by decide, by decide, by decide +kernel⟩
theorem cv_X12_jumps : CV yX12_jumps := ⟨List.mem_of_getElem? (i := 1329) (by decide +kernel), List.mem_of_getElem? (i := 68) (by decide +kernel)⟩
theorem cd_X12_keep : CD yX12_keep cX12_keep 2 (some .int) 0 := ⟨List.mem_of_getElem? (i := 1522) (by decide +kernel), List.mem_of_getElem? (i := 125) (by decide +kernel), by decide, by decide, by decide +kernel⟩
theorem cv_X12_keep : CV yX12_keep := ⟨List.mem_of_getElem? (i := 1520) (by decide +kernel), List.mem_of_getElem? (i := 1521) (by decide +kernel)⟩
theorem cd_X12_kindsWork : CD yX12_kindsWork cX12_kindsWork 3 none 0 := ⟨List.mem_of_getElem? (i := 1407) (by decide +kernel), List.mem_of_getElem? (i := 125) (by decide +kernel), by decide, by decide, by decide +kernel⟩
theorem cv_X12_kindsWork : CV yX12_kindsWork := ⟨List.mem_of_getElem? (i := 1406) (by decide +kernel), List.mem_of_getElem? (i := 88) (by decide +kernel)⟩
theorem cd_X12_lands : CD yX12_lands cX12_lands 3 none 1 := ⟨List.mem_of_getElem? (i := 1327) (by decide +kernel), List.mem_of_getElem? (i := 125) (by decide +kernel), by decide, by decide, by decide +kernel⟩
theorem cv_X12_lands : CV yX12_lands := ⟨List.mem_of_getElem? (i := 1326) (by decide +kernel), List.mem_of_getElem? (i := 67) (by decide +kernel)⟩
theorem cd_X12_min : CD yX12_min cX12_min 2 (some .int) 2 := ⟨List.mem_of_getElem? (i := 1404) (by decide +kernel), List.mem_of_getElem? (i := 125) (by decide +kernel), by decide, by decide, by decide +kernel⟩
theorem st_X12_min : Cond.static yX12_min ∈ gtbl := List.mem_of_getElem? (i := 1403) (by decide +kernel)
theorem cd_X12_night : CD yX12_night cX12_night 6 (some .int) 1 := ⟨List.mem_of_getElem? (i := 1517) (by decide +kernel), List.mem_of_getElem? (i := 125) (by decide +kernel), by decide, by decide, by decide +kernel⟩
theorem cv_X12_night : CV yX12_night := ⟨List.mem_of_getElem? (i := 1515) (by decide +kernel), List.mem_of_getElem? (i := 1516) (by decide +kernel)⟩
theorem cd_X12_notes : CD yX12_notes cX12_notes 3 none 2 := ⟨List.mem_of_getElem? (i := 1303) (by decide +kernel), List.mem_of_getElem? (i := 125) (by decide +kernel), by decide, by decide, by decide +kernel⟩
theorem cv_X12_notes : CV yX12_notes := ⟨List.mem_of_getElem? (i := 1302) (by decide +kernel), List.mem_of_getElem? (i := 61) (by decide +kernel)⟩
theorem cd_X12_opens : CD yX12_opens cX12_opens 2 (some .boolean) 1 := ⟨List.mem_of_getElem? (i := 1281) (by decide +kernel), List.mem_of_getElem? (i := 125) (by decide +kernel), by decide, by decide, by decide +kernel⟩
theorem cv_X12_opens : CV yX12_opens := ⟨List.mem_of_getElem? (i := 1280) (by decide +kernel), List.mem_of_getElem? (i := 54) (by decide +kernel)⟩
theorem cd_X12_opensActs : CD yX12_opensActs cX12_opensActs 3 (some .boolean) 1 := ⟨List.mem_of_getElem? (i := 1343) (by decide +kernel), List.mem_of_getElem? (i := 125) (by decide +kernel), by decide, by decide, by decide +kernel⟩
theorem cv_X12_opensActs : CV yX12_opensActs := ⟨List.mem_of_getElem? (i := 1342) (by decide +kernel), List.mem_of_getElem? (i := 71) (by decide +kernel)⟩
theorem cd_X12_order : CD yX12_order cX12_order 6 (some .int) 2 := ⟨List.mem_of_getElem? (i := 1504) (by decide +kernel), List.mem_of_getElem? (i := 125) (by decide +kernel), by decide, by decide, by decide +kernel⟩
theorem cv_X12_order : CV yX12_order := ⟨List.mem_of_getElem? (i := 1502) (by decide +kernel), List.mem_of_getElem? (i := 1503) (by decide +kernel)⟩
theorem cd_X12_pours : CD yX12_pours cX12_pours 5 none 3 := ⟨List.mem_of_getElem? (i := 1401) (by decide +kernel), List.mem_of_getElem? (i := 125) (by decide +kernel), by decide, by decide, by decide +kernel⟩
theorem cv_X12_pours : CV yX12_pours := ⟨List.mem_of_getElem? (i := 1400) (by decide +kernel), List.mem_of_getElem? (i := 87) (by decide +kernel)⟩
theorem cd_X12_priceBy : CD yX12_priceBy cX12_priceBy 5 (some .int) 2 := ⟨List.mem_of_getElem? (i := 1508) (by decide +kernel), List.mem_of_getElem? (i := 125) (by decide +kernel), by decide, by decide, by decide +kernel⟩
theorem cv_X12_priceBy : CV yX12_priceBy := ⟨List.mem_of_getElem? (i := 1507) (by decide +kernel), List.mem_of_getElem? (i := 107) (by decide +kernel)⟩
theorem cd_X12_proved : CD yX12_proved cX12_proved 6 (some .int) 4 := ⟨List.mem_of_getElem? (i := 1424) (by decide +kernel), List.mem_of_getElem? (i := 125) (by decide +kernel), by decide, by decide, by decide +kernel⟩
theorem cv_X12_proved : CV yX12_proved := ⟨List.mem_of_getElem? (i := 1422) (by decide +kernel), List.mem_of_getElem? (i := 1423) (by decide +kernel)⟩
theorem cd_X12_puts : CD yX12_puts cX12_puts 4 none 3 := ⟨List.mem_of_getElem? (i := 1349) (by decide +kernel), List.mem_of_getElem? (i := 125) (by decide +kernel), by decide, by decide, by decide +kernel⟩
theorem cv_X12_puts : CV yX12_puts := ⟨List.mem_of_getElem? (i := 1348) (by decide +kernel), List.mem_of_getElem? (i := 73) (by decide +kernel)⟩
theorem cd_X12_readsAct : CD yX12_readsAct cX12_readsAct 2 (some .boolean) 0 := ⟨List.mem_of_getElem? (i := 1340) (by decide +kernel), List.mem_of_getElem? (i := 125) (by decide +kernel), by decide, by decide, by decide +kernel⟩
theorem cv_X12_readsAct : CV yX12_readsAct := ⟨List.mem_of_getElem? (i := 1339) (by decide +kernel), List.mem_of_getElem? (i := 70) (by decide +kernel)⟩
theorem cd_X12_readsCompared : CD yX12_readsCompared cX12_readsCompared 2 (some .boolean) 0 := ⟨List.mem_of_getElem? (i := 1288) (by decide +kernel), List.mem_of_getElem? (i := 125) (by decide +kernel), by decide, by decide, by decide +kernel⟩
theorem cv_X12_readsCompared : CV yX12_readsCompared := ⟨List.mem_of_getElem? (i := 1287) (by decide +kernel), List.mem_of_getElem? (i := 56) (by decide +kernel)⟩
theorem cd_X12_readsFactor : CD yX12_readsFactor cX12_readsFactor 2 (some .boolean) 0 := ⟨List.mem_of_getElem? (i := 1294) (by decide +kernel), List.mem_of_getElem? (i := 125) (by decide +kernel), by decide, by decide, by decide +kernel⟩
theorem cv_X12_readsFactor : CV yX12_readsFactor := ⟨List.mem_of_getElem? (i := 1293) (by decide +kernel), List.mem_of_getElem? (i := 58) (by decide +kernel)⟩
theorem cd_X12_readsNumber : CD yX12_readsNumber cX12_readsNumber 2 (some .boolean) 0 := ⟨List.mem_of_getElem? (i := 1300) (by decide +kernel), List.mem_of_getElem? (i := 125) (by decide +kernel), by decide, by decide, by decide +kernel⟩
theorem cv_X12_readsNumber : CV yX12_readsNumber := ⟨List.mem_of_getElem? (i := 1299) (by decide +kernel), List.mem_of_getElem? (i := 60) (by decide +kernel)⟩
theorem cd_X12_readsOne : CD yX12_readsOne cX12_readsOne 2 (some .boolean) 1 := ⟨List.mem_of_getElem? (i := 1352) (by decide +kernel), List.mem_of_getElem? (i := 125) (by decide +kernel), by decide, by decide, by decide +kernel⟩
theorem cv_X12_readsOne : CV yX12_readsOne := ⟨List.mem_of_getElem? (i := 1351) (by decide +kernel), List.mem_of_getElem? (i := 74) (by decide +kernel)⟩
theorem cd_X12_readsRecipe : CD yX12_readsRecipe cX12_readsRecipe 1 (some .boolean) 0 := ⟨List.mem_of_getElem? (i := 1337) (by decide +kernel), List.mem_of_getElem? (i := 125) (by decide +kernel), by decide, by decide, by decide +kernel⟩
theorem cv_X12_readsRecipe : CV yX12_readsRecipe := ⟨List.mem_of_getElem? (i := 1336) (by decide +kernel), List.mem_of_getElem? (i := 69) (by decide +kernel)⟩
theorem cd_X12_readsSpec : CD yX12_readsSpec cX12_readsSpec 1 (some .boolean) 0 := ⟨List.mem_of_getElem? (i := 1275) (by decide +kernel), List.mem_of_getElem? (i := 125) (by decide +kernel), by decide, by decide, by decide +kernel⟩
theorem cv_X12_readsSpec : CV yX12_readsSpec := ⟨List.mem_of_getElem? (i := 1274) (by decide +kernel), List.mem_of_getElem? (i := 52) (by decide +kernel)⟩
theorem cd_X12_readsSum : CD yX12_readsSum cX12_readsSum 3 (some .boolean) 0 := ⟨List.mem_of_getElem? (i := 1291) (by decide +kernel), List.mem_of_getElem? (i := 125) (by decide +kernel), by decide, by decide, by decide +kernel⟩
theorem cv_X12_readsSum : CV yX12_readsSum := ⟨List.mem_of_getElem? (i := 1290) (by decide +kernel), List.mem_of_getElem? (i := 57) (by decide +kernel)⟩
theorem cd_X12_readsTwo : CD yX12_readsTwo cX12_readsTwo 3 (some .boolean) 1 := ⟨List.mem_of_getElem? (i := 1355) (by decide +kernel), List.mem_of_getElem? (i := 125) (by decide +kernel), by decide, by decide, by decide +kernel⟩
theorem cv_X12_readsTwo : CV yX12_readsTwo := ⟨List.mem_of_getElem? (i := 1354) (by decide +kernel), List.mem_of_getElem? (i := 75) (by decide +kernel)⟩
theorem cd_X12_recipe : CD yX12_recipe cX12_recipe 5 (some .int) 2 := ⟨List.mem_of_getElem? (i := 1334) (by decide +kernel), List.mem_of_getElem? (i := 125) (by decide +kernel), by decide, by decide, by decide +kernel⟩
theorem cv_X12_recipe : CV yX12_recipe := ⟨List.mem_of_getElem? (i := 1332) (by decide +kernel), List.mem_of_getElem? (i := 1333) (by decide +kernel)⟩
theorem cd_X12_reckon : CD yX12_reckon cX12_reckon 3 (some .int) 3 := ⟨List.mem_of_getElem? (i := 1416) (by decide +kernel), List.mem_of_getElem? (i := 125) (by decide +kernel), by decide, by decide, by decide +kernel⟩
theorem st_X12_reckon : Cond.static yX12_reckon ∈ gtbl := List.mem_of_getElem? (i := 1415) (by decide +kernel)
theorem cd_X12_round : CD yX12_round cX12_round 6 (some .int) 2 := ⟨List.mem_of_getElem? (i := 1460) (by decide +kernel), List.mem_of_getElem? (i := 125) (by decide +kernel), by decide, by decide, by decide +kernel⟩
theorem cv_X12_round : CV yX12_round := ⟨List.mem_of_getElem? (i := 1458) (by decide +kernel), List.mem_of_getElem? (i := 1459) (by decide +kernel)⟩
theorem cd_X12_run : CD yX12_run cX12_run 4 (some .int) 3 := ⟨List.mem_of_getElem? (i := 1368) (by decide +kernel), List.mem_of_getElem? (i := 125) (by decide +kernel), by decide, by decide, by decide +kernel⟩
theorem cv_X12_run : CV yX12_run := ⟨List.mem_of_getElem? (i := 1366) (by decide +kernel), List.mem_of_getElem? (i := 1367) (by decide +kernel)⟩
theorem cd_X12_runsFrom : CD yX12_runsFrom cX12_runsFrom 2 none 1 := ⟨List.mem_of_getElem? (i := 1436) (by decide +kernel), List.mem_of_getElem? (i := 125) (by decide +kernel), by decide, by decide, by decide +kernel⟩
theorem cv_X12_runsFrom : CV yX12_runsFrom := ⟨List.mem_of_getElem? (i := 1435) (by decide +kernel), List.mem_of_getElem? (i := 93) (by decide +kernel)⟩
theorem cd_X12_runsOn : CD yX12_runsOn cX12_runsOn 3 none 2 := ⟨List.mem_of_getElem? (i := 1380) (by decide +kernel), List.mem_of_getElem? (i := 125) (by decide +kernel), by decide, by decide, by decide +kernel⟩
theorem cv_X12_runsOn : CV yX12_runsOn := ⟨List.mem_of_getElem? (i := 1379) (by decide +kernel), List.mem_of_getElem? (i := 80) (by decide +kernel)⟩
theorem cd_X12_seed : CD yX12_seed cX12_seed 2 (some .boolean) 1 := ⟨List.mem_of_getElem? (i := 1512) (by decide +kernel), List.mem_of_getElem? (i := 125) (by decide +kernel), by decide, by decide, by decide +kernel⟩
theorem cv_X12_seed : CV yX12_seed := ⟨List.mem_of_getElem? (i := 1510) (by decide +kernel), List.mem_of_getElem? (i := 1511) (by decide +kernel)⟩
theorem cd_X12_shortest : CD yX12_shortest cX12_shortest 6 (some .int) 1 := ⟨List.mem_of_getElem? (i := 1468) (by decide +kernel), List.mem_of_getElem? (i := 125) (by decide +kernel), by decide, by decide, by decide +kernel⟩
theorem cv_X12_shortest : CV yX12_shortest := ⟨List.mem_of_getElem? (i := 1466) (by decide +kernel), List.mem_of_getElem? (i := 1467) (by decide +kernel)⟩
theorem cd_X12_slips : CD yX12_slips cX12_slips 8 (some .int) 3 := ⟨List.mem_of_getElem? (i := 1487) (by decide +kernel), List.mem_of_getElem? (i := 125) (by decide +kernel), by decide, by decide, by decide +kernel⟩
theorem cv_X12_slips : CV yX12_slips := ⟨List.mem_of_getElem? (i := 1485) (by decide +kernel), List.mem_of_getElem? (i := 1486) (by decide +kernel)⟩
theorem cd_X12_spec : CD yX12_spec cX12_spec 4 (some .int) 1 := ⟨List.mem_of_getElem? (i := 1266) (by decide +kernel), List.mem_of_getElem? (i := 125) (by decide +kernel), by decide, by decide, by decide +kernel⟩
theorem cv_X12_spec : CV yX12_spec := ⟨List.mem_of_getElem? (i := 1264) (by decide +kernel), List.mem_of_getElem? (i := 1265) (by decide +kernel)⟩
theorem cd_X12_specHolds : CD yX12_specHolds cX12_specHolds 2 (some .boolean) 0 := ⟨List.mem_of_getElem? (i := 1410) (by decide +kernel), List.mem_of_getElem? (i := 125) (by decide +kernel), by decide, by decide, by decide +kernel⟩
theorem cv_X12_specHolds : CV yX12_specHolds := ⟨List.mem_of_getElem? (i := 1409) (by decide +kernel), List.mem_of_getElem? (i := 89) (by decide +kernel)⟩
theorem cd_X12_standingNow : CD yX12_standingNow cX12_standingNow 4 (some .long) 0 := ⟨List.mem_of_getElem? (i := 1463) (by decide +kernel), List.mem_of_getElem? (i := 125) (by decide +kernel), by decide, by decide, by decide +kernel⟩
theorem cv_X12_standingNow : CV yX12_standingNow := ⟨List.mem_of_getElem? (i := 1462) (by decide +kernel), List.mem_of_getElem? (i := 98) (by decide +kernel)⟩
theorem cd_X12_standingOf : CD yX12_standingOf cX12_standingOf 3 (some .int) 0 := ⟨List.mem_of_getElem? (i := 1474) (by decide +kernel), List.mem_of_getElem? (i := 125) (by decide +kernel), by decide, by decide, by decide +kernel⟩
theorem cv_X12_standingOf : CV yX12_standingOf := ⟨List.mem_of_getElem? (i := 1473) (by decide +kernel), List.mem_of_getElem? (i := 100) (by decide +kernel)⟩
theorem cd_X12_standsAt : CD yX12_standsAt cX12_standsAt 4 none 1 := ⟨List.mem_of_getElem? (i := 1480) (by decide +kernel), List.mem_of_getElem? (i := 125) (by decide +kernel), by decide, by decide, by decide +kernel⟩
theorem cv_X12_standsAt : CV yX12_standsAt := ⟨List.mem_of_getElem? (i := 1479) (by decide +kernel), List.mem_of_getElem? (i := 102) (by decide +kernel)⟩
theorem cd_X12_startsBeginnings : CD yX12_startsBeginnings cX12_startsBeginnings 3 none 1 := ⟨List.mem_of_getElem? (i := 1433) (by decide +kernel), List.mem_of_getElem? (i := 125) (by decide +kernel), by decide, by decide, by decide +kernel⟩
theorem cv_X12_startsBeginnings : CV yX12_startsBeginnings := ⟨List.mem_of_getElem? (i := 1432) (by decide +kernel), List.mem_of_getElem? (i := 92) (by decide +kernel)⟩
theorem cd_X12_startsFrom : CD yX12_startsFrom cX12_startsFrom 3 none 1 := ⟨List.mem_of_getElem? (i := 1377) (by decide +kernel), List.mem_of_getElem? (i := 125) (by decide +kernel), by decide, by decide, by decide +kernel⟩
theorem cv_X12_startsFrom : CV yX12_startsFrom := ⟨List.mem_of_getElem? (i := 1376) (by decide +kernel), List.mem_of_getElem? (i := 79) (by decide +kernel)⟩
theorem cd_X12_steps : CD yX12_steps cX12_steps 6 none 2 := ⟨List.mem_of_getElem? (i := 1389) (by decide +kernel), List.mem_of_getElem? (i := 125) (by decide +kernel), by decide, by decide, by decide +kernel⟩
theorem cv_X12_steps : CV yX12_steps := ⟨List.mem_of_getElem? (i := 1388) (by decide +kernel), List.mem_of_getElem? (i := 83) (by decide +kernel)⟩
theorem cd_X12_sum : CD yX12_sum cX12_sum 6 (some .int) 4 := ⟨List.mem_of_getElem? (i := 1497) (by decide +kernel), List.mem_of_getElem? (i := 125) (by decide +kernel), by decide, by decide, by decide +kernel⟩
theorem cv_X12_sum : CV yX12_sum := ⟨List.mem_of_getElem? (i := 1495) (by decide +kernel), List.mem_of_getElem? (i := 1496) (by decide +kernel)⟩
theorem cd_X12_sumSign : CD yX12_sumSign cX12_sumSign 1 (some .int) 1 := ⟨List.mem_of_getElem? (i := 1309) (by decide +kernel), List.mem_of_getElem? (i := 125) (by decide +kernel), by decide, by decide, by decide +kernel⟩
theorem st_X12_sumSign : Cond.static yX12_sumSign ∈ gtbl := List.mem_of_getElem? (i := 1308) (by decide +kernel)
theorem cd_X12_takesNow : CD yX12_takesNow cX12_takesNow 3 (some .int) 1 := ⟨List.mem_of_getElem? (i := 1500) (by decide +kernel), List.mem_of_getElem? (i := 125) (by decide +kernel), by decide, by decide, by decide +kernel⟩
theorem cv_X12_takesNow : CV yX12_takesNow := ⟨List.mem_of_getElem? (i := 1499) (by decide +kernel), List.mem_of_getElem? (i := 106) (by decide +kernel)⟩
theorem cd_X12_takesOut : CD yX12_takesOut cX12_takesOut 2 none 1 := ⟨List.mem_of_getElem? (i := 1398) (by decide +kernel), List.mem_of_getElem? (i := 125) (by decide +kernel), by decide, by decide, by decide +kernel⟩
theorem cv_X12_takesOut : CV yX12_takesOut := ⟨List.mem_of_getElem? (i := 1397) (by decide +kernel), List.mem_of_getElem? (i := 86) (by decide +kernel)⟩
theorem cd_X12_takesVat : CD yX12_takesVat cX12_takesVat 1 (some .boolean) 0 := ⟨List.mem_of_getElem? (i := 1346) (by decide +kernel), List.mem_of_getElem? (i := 125) (by decide +kernel), by decide, by decide, by decide +kernel⟩
theorem cv_X12_takesVat : CV yX12_takesVat := ⟨List.mem_of_getElem? (i := 1345) (by decide +kernel), List.mem_of_getElem? (i := 72) (by decide +kernel)⟩
theorem cd_X12_tapeNumber : CD yX12_tapeNumber cX12_tapeNumber 4 (some .int) 1 := ⟨List.mem_of_getElem? (i := 1536) (by decide +kernel), List.mem_of_getElem? (i := 125) (by decide +kernel), by decide, by decide, by decide +kernel⟩
theorem cv_X12_tapeNumber : CV yX12_tapeNumber := ⟨List.mem_of_getElem? (i := 1535) (by decide +kernel), List.mem_of_getElem? (i := 109) (by decide +kernel)⟩
theorem cd_X12_tellsFound : CD yX12_tellsFound cX12_tellsFound 2 (some .int) 1 := ⟨List.mem_of_getElem? (i := 1445) (by decide +kernel), List.mem_of_getElem? (i := 125) (by decide +kernel), by decide, by decide, by decide +kernel⟩
theorem cv_X12_tellsFound : CV yX12_tellsFound := ⟨List.mem_of_getElem? (i := 1444) (by decide +kernel), List.mem_of_getElem? (i := 96) (by decide +kernel)⟩
theorem cd_X12_together : CD yX12_together cX12_together 3 (some .int) 0 := ⟨List.mem_of_getElem? (i := 1525) (by decide +kernel), List.mem_of_getElem? (i := 125) (by decide +kernel), by decide, by decide, by decide +kernel⟩
theorem cv_X12_together : CV yX12_together := ⟨List.mem_of_getElem? (i := 1524) (by decide +kernel), List.mem_of_getElem? (i := 108) (by decide +kernel)⟩
theorem cd_X12_top : CD yX12_top cX12_top 1 (some .int) 0 := ⟨List.mem_of_getElem? (i := 1315) (by decide +kernel), List.mem_of_getElem? (i := 125) (by decide +kernel), by decide, by decide, by decide +kernel⟩
theorem cv_X12_top : CV yX12_top := ⟨List.mem_of_getElem? (i := 1314) (by decide +kernel), List.mem_of_getElem? (i := 63) (by decide +kernel)⟩
theorem cd_X12_turns : CD yX12_turns cX12_turns 2 none 0 := ⟨List.mem_of_getElem? (i := 1364) (by decide +kernel), List.mem_of_getElem? (i := 125) (by decide +kernel), by decide, by decide, by decide +kernel⟩
theorem cv_X12_turns : CV yX12_turns := ⟨List.mem_of_getElem? (i := 1363) (by decide +kernel), List.mem_of_getElem? (i := 78) (by decide +kernel)⟩
theorem cd_X12_types : CD yX12_types cX12_types 3 none 1 := ⟨List.mem_of_getElem? (i := 1262) (by decide +kernel), List.mem_of_getElem? (i := 125) (by decide +kernel), by decide, by decide, by decide +kernel⟩
theorem cv_X12_types : CV yX12_types := ⟨List.mem_of_getElem? (i := 1261) (by decide +kernel), List.mem_of_getElem? (i := 49) (by decide +kernel)⟩
theorem cd_X12_undo : CD yX12_undo cX12_undo 2 (some .boolean) 0 := ⟨List.mem_of_getElem? (i := 1529) (by decide +kernel), List.mem_of_getElem? (i := 125) (by decide +kernel), by decide, by decide, by decide +kernel⟩
theorem cv_X12_undo : CV yX12_undo := ⟨List.mem_of_getElem? (i := 1527) (by decide +kernel), List.mem_of_getElem? (i := 1528) (by decide +kernel)⟩
theorem cd_X12_vat : CD yX12_vat cX12_vat 5 (some .boolean) 4 := ⟨List.mem_of_getElem? (i := 1249) (by decide +kernel), List.mem_of_getElem? (i := 125) (by decide +kernel), by decide, by decide, by decide +kernel⟩
theorem cv_X12_vat : CV yX12_vat := ⟨List.mem_of_getElem? (i := 1247) (by decide +kernel), List.mem_of_getElem? (i := 1248) (by decide +kernel)⟩
theorem cd_X12_wrongAt : CD yX12_wrongAt cX12_wrongAt 3 (some .boolean) 2 := ⟨List.mem_of_getElem? (i := 1284) (by decide +kernel), List.mem_of_getElem? (i := 125) (by decide +kernel), by decide, by decide, by decide +kernel⟩
theorem cv_X12_wrongAt : CV yX12_wrongAt := ⟨List.mem_of_getElem? (i := 1283) (by decide +kernel), List.mem_of_getElem? (i := 55) (by decide +kernel)⟩
theorem cd_X1_copy : CD yX1_copy cX1_copy 2 none 1 := ⟨List.mem_of_getElem? (i := 1009) (by decide +kernel), List.mem_of_getElem? (i := 124) (by decide +kernel), by decide, by decide, by decide +kernel⟩
theorem cv_X1_copy : CV yX1_copy := ⟨List.mem_of_getElem? (i := 1007) (by decide +kernel), List.mem_of_getElem? (i := 1008) (by decide +kernel)⟩
theorem cd_X1_init : CD yX1_init cX1_init 1 none 0 := ⟨List.mem_of_getElem? (i := 483) (by decide +kernel), List.mem_of_getElem? (i := 124) (by decide +kernel), by decide, by decide, by decide +kernel⟩
theorem cd_X2_firstBest : CD yX2_firstBest cX2_firstBest 7 (some .int) 2 := ⟨List.mem_of_getElem? (i := 980) (by decide +kernel), List.mem_of_getElem? (i := 123) (by decide +kernel), by decide, by decide, by decide +kernel⟩
theorem cv_X2_firstBest : CV yX2_firstBest := ⟨List.mem_of_getElem? (i := 979) (by decide +kernel), List.mem_of_getElem? (i := 45) (by decide +kernel)⟩
theorem cd_X2_init : CD yX2_init cX2_init 3 none 2 := ⟨List.mem_of_getElem? (i := 440) (by decide +kernel), List.mem_of_getElem? (i := 123) (by decide +kernel), by decide, by decide, by decide +kernel⟩
theorem cd_X2_isOfferGood : CD yX2_isOfferGood cX2_isOfferGood 2 (some .boolean) 0 := ⟨List.mem_of_getElem? (i := 957) (by decide +kernel), List.mem_of_getElem? (i := 123) (by decide +kernel), by decide, by decide, by decide +kernel⟩
theorem cv_X2_isOfferGood : CV yX2_isOfferGood := ⟨List.mem_of_getElem? (i := 955) (by decide +kernel), List.mem_of_getElem? (i := 956) (by decide +kernel)⟩
theorem cd_X2_placed : CD yX2_placed cX2_placed 6 (some .int) 2 := ⟨List.mem_of_getElem? (i := 988) (by decide +kernel), List.mem_of_getElem? (i := 123) (by decide +kernel), by decide, by decide, by decide +kernel⟩
theorem cv_X2_placed : CV yX2_placed := ⟨List.mem_of_getElem? (i := 986) (by decide +kernel), List.mem_of_getElem? (i := 987) (by decide +kernel)⟩
theorem cd_X2_pricesBy : CD yX2_pricesBy cX2_pricesBy 5 (some .int) 2 := ⟨List.mem_of_getElem? (i := 983) (by decide +kernel), List.mem_of_getElem? (i := 123) (by decide +kernel), by decide, by decide, by decide +kernel⟩
theorem cv_X2_pricesBy : CV yX2_pricesBy := ⟨List.mem_of_getElem? (i := 982) (by decide +kernel), List.mem_of_getElem? (i := 46) (by decide +kernel)⟩
theorem cd_X2_stepsOf : CD yX2_stepsOf cX2_stepsOf 4 (some .int) 2 := ⟨List.mem_of_getElem? (i := 966) (by decide +kernel), List.mem_of_getElem? (i := 123) (by decide +kernel), by decide, by decide, by decide +kernel⟩
theorem cv_X2_stepsOf : CV yX2_stepsOf := ⟨List.mem_of_getElem? (i := 964) (by decide +kernel), List.mem_of_getElem? (i := 965) (by decide +kernel)⟩
theorem cd_X2_take : CD yX2_take cX2_take 5 none 4 := ⟨List.mem_of_getElem? (i := 961) (by decide +kernel), List.mem_of_getElem? (i := 123) (by decide +kernel), by decide, by decide, by decide +kernel⟩
theorem cv_X2_take : CV yX2_take := ⟨List.mem_of_getElem? (i := 959) (by decide +kernel), List.mem_of_getElem? (i := 960) (by decide +kernel)⟩
theorem cd_X2_weigh : CD yX2_weigh cX2_weigh 4 none 1 := ⟨List.mem_of_getElem? (i := 977) (by decide +kernel), List.mem_of_getElem? (i := 123) (by decide +kernel), by decide, by decide, by decide +kernel⟩
theorem cv_X2_weigh : CV yX2_weigh := ⟨List.mem_of_getElem? (i := 975) (by decide +kernel), List.mem_of_getElem? (i := 976) (by decide +kernel)⟩
theorem cd_X3_canSeek : CD yX3_canSeek cX3_canSeek 1 (some .boolean) 0 := ⟨List.mem_of_getElem? (i := 897) (by decide +kernel), List.mem_of_getElem? (i := 121) (by decide +kernel), by decide, by decide, by decide +kernel⟩
theorem cv_X3_canSeek : CV yX3_canSeek := ⟨List.mem_of_getElem? (i := 895) (by decide +kernel), List.mem_of_getElem? (i := 896) (by decide +kernel)⟩
theorem cd_X3_comeTo : CD yX3_comeTo cX3_comeTo 3 (some .boolean) 2 := ⟨List.mem_of_getElem? (i := 932) (by decide +kernel), List.mem_of_getElem? (i := 121) (by decide +kernel), by decide, by decide, by decide +kernel⟩
theorem cv_X3_comeTo : CV yX3_comeTo := ⟨List.mem_of_getElem? (i := 931) (by decide +kernel), List.mem_of_getElem? (i := 42) (by decide +kernel)⟩
theorem cd_X3_goFrom : CD yX3_goFrom cX3_goFrom 6 (some .boolean) 2 := ⟨List.mem_of_getElem? (i := 921) (by decide +kernel), List.mem_of_getElem? (i := 121) (by decide +kernel), by decide, by decide, by decide +kernel⟩
theorem cv_X3_goFrom : CV yX3_goFrom := ⟨List.mem_of_getElem? (i := 920) (by decide +kernel), List.mem_of_getElem? (i := 39) (by decide +kernel)⟩
theorem cd_X3_indexOf : CD yX3_indexOf cX3_indexOf 4 (some .int) 1 := ⟨List.mem_of_getElem? (i := 917) (by decide +kernel), List.mem_of_getElem? (i := 121) (by decide +kernel), by decide, by decide, by decide +kernel⟩
theorem cv_X3_indexOf : CV yX3_indexOf := ⟨List.mem_of_getElem? (i := 916) (by decide +kernel), List.mem_of_getElem? (i := 38) (by decide +kernel)⟩
theorem cd_X3_init : CD yX3_init cX3_init 5 none 2 := ⟨List.mem_of_getElem? (i := 392) (by decide +kernel), List.mem_of_getElem? (i := 121) (by decide +kernel), by decide, by decide, by decide +kernel⟩
theorem cd_X3_isIdle : CD yX3_isIdle cX3_isIdle 4 (some .boolean) 3 := ⟨List.mem_of_getElem? (i := 927) (by decide +kernel), List.mem_of_getElem? (i := 121) (by decide +kernel), by decide, by decide, by decide +kernel⟩
theorem cv_X3_isIdle : CV yX3_isIdle := ⟨List.mem_of_getElem? (i := 926) (by decide +kernel), List.mem_of_getElem? (i := 41) (by decide +kernel)⟩
theorem cd_X3_retrace : CD yX3_retrace cX3_retrace 6 none 2 := ⟨List.mem_of_getElem? (i := 935) (by decide +kernel), List.mem_of_getElem? (i := 121) (by decide +kernel), by decide, by decide, by decide +kernel⟩
theorem cv_X3_retrace : CV yX3_retrace := ⟨List.mem_of_getElem? (i := 934) (by decide +kernel), List.mem_of_getElem? (i := 43) (by decide +kernel)⟩
theorem cd_X3_seek : CD yX3_seek cX3_seek 7 (some .int) 0 := ⟨List.mem_of_getElem? (i := 908) (by decide +kernel), List.mem_of_getElem? (i := 121) (by decide +kernel), by decide, by decide, by decide +kernel⟩
theorem cv_X3_seek : CV yX3_seek := ⟨List.mem_of_getElem? (i := 906) (by decide +kernel), List.mem_of_getElem? (i := 907) (by decide +kernel)⟩
theorem cd_X3_standings : CD yX3_standings cX3_standings 3 (some .int) 0 := ⟨List.mem_of_getElem? (i := 900) (by decide +kernel), List.mem_of_getElem? (i := 121) (by decide +kernel), by decide, by decide, by decide +kernel⟩
theorem cv_X3_standings : CV yX3_standings := ⟨List.mem_of_getElem? (i := 899) (by decide +kernel), List.mem_of_getElem? (i := 37) (by decide +kernel)⟩
theorem cd_X3_unfold : CD yX3_unfold cX3_unfold 5 none 1 := ⟨List.mem_of_getElem? (i := 924) (by decide +kernel), List.mem_of_getElem? (i := 121) (by decide +kernel), by decide, by decide, by decide +kernel⟩
theorem cv_X3_unfold : CV yX3_unfold := ⟨List.mem_of_getElem? (i := 923) (by decide +kernel), List.mem_of_getElem? (i := 40) (by decide +kernel)⟩
theorem cd_X4_add : CD yX4_add cX4_add 5 (some .int) 3 := ⟨List.mem_of_getElem? (i := 625) (by decide +kernel), List.mem_of_getElem? (i := 115) (by decide +kernel), by decide, by decide, by decide +kernel⟩
theorem cv_X4_add : CV yX4_add := ⟨List.mem_of_getElem? (i := 624) (by decide +kernel), List.mem_of_getElem? (i := 4) (by decide +kernel)⟩
theorem cd_X4_beginsAct : CD yX4_beginsAct cX4_beginsAct 1 (some .boolean) 1 := ⟨List.mem_of_getElem? (i := 608) (by decide +kernel), List.mem_of_getElem? (i := 115) (by decide +kernel), by decide, by decide, by decide +kernel⟩
theorem st_X4_beginsAct : Cond.static yX4_beginsAct ∈ gtbl := List.mem_of_getElem? (i := 607) (by decide +kernel)
theorem cd_X4_behindJumps : CD yX4_behindJumps cX4_behindJumps 4 (some .int) 1 := ⟨List.mem_of_getElem? (i := 660) (by decide +kernel), List.mem_of_getElem? (i := 115) (by decide +kernel), by decide, by decide, by decide +kernel⟩
theorem cv_X4_behindJumps : CV yX4_behindJumps := ⟨List.mem_of_getElem? (i := 659) (by decide +kernel), List.mem_of_getElem? (i := 11) (by decide +kernel)⟩
theorem cd_X4_init : CD yX4_init cX4_init 1 none 0 := ⟨List.mem_of_getElem? (i := 198) (by decide +kernel), List.mem_of_getElem? (i := 115) (by decide +kernel), by decide, by decide, by decide +kernel⟩
theorem cd_X4_lead : CD yX4_lead cX4_lead 3 none 2 := ⟨List.mem_of_getElem? (i := 647) (by decide +kernel), List.mem_of_getElem? (i := 115) (by decide +kernel), by decide, by decide, by decide +kernel⟩
theorem cv_X4_lead : CV yX4_lead := ⟨List.mem_of_getElem? (i := 646) (by decide +kernel), List.mem_of_getElem? (i := 8) (by decide +kernel)⟩
theorem cd_X4_maySlip : CD yX4_maySlip cX4_maySlip 2 (some .boolean) 1 := ⟨List.mem_of_getElem? (i := 947) (by decide +kernel), List.mem_of_getElem? (i := 115) (by decide +kernel), by decide, by decide, by decide +kernel⟩
theorem cv_X4_maySlip : CV yX4_maySlip := ⟨List.mem_of_getElem? (i := 945) (by decide +kernel), List.mem_of_getElem? (i := 946) (by decide +kernel)⟩
theorem cd_X4_read : CD yX4_read cX4_read 3 (some .boolean) 2 := ⟨List.mem_of_getElem? (i := 591) (by decide +kernel), List.mem_of_getElem? (i := 115) (by decide +kernel), by decide, by decide, by decide +kernel⟩
theorem cv_X4_read : CV yX4_read := ⟨List.mem_of_getElem? (i := 589) (by decide +kernel), List.mem_of_getElem? (i := 590) (by decide +kernel)⟩
theorem cd_X4_readAct : CD yX4_readAct cX4_readAct 4 (some .boolean) 2 := ⟨List.mem_of_getElem? (i := 601) (by decide +kernel), List.mem_of_getElem? (i := 115) (by decide +kernel), by decide, by decide, by decide +kernel⟩
theorem cv_X4_readAct : CV yX4_readAct := ⟨List.mem_of_getElem? (i := 600) (by decide +kernel), List.mem_of_getElem? (i := 2) (by decide +kernel)⟩
theorem cd_X4_readActs : CD yX4_readActs cX4_readActs 5 (some .boolean) 2 := ⟨List.mem_of_getElem? (i := 598) (by decide +kernel), List.mem_of_getElem? (i := 115) (by decide +kernel), by decide, by decide, by decide +kernel⟩
theorem cv_X4_readActs : CV yX4_readActs := ⟨List.mem_of_getElem? (i := 597) (by decide +kernel), List.mem_of_getElem? (i := 1) (by decide +kernel)⟩
theorem cd_X4_readDouble : CD yX4_readDouble cX4_readDouble 5 (some .boolean) 2 := ⟨List.mem_of_getElem? (i := 628) (by decide +kernel), List.mem_of_getElem? (i := 115) (by decide +kernel), by decide, by decide, by decide +kernel⟩
theorem cv_X4_readDouble : CV yX4_readDouble := ⟨List.mem_of_getElem? (i := 627) (by decide +kernel), List.mem_of_getElem? (i := 5) (by decide +kernel)⟩
theorem cd_X4_readIf : CD yX4_readIf cX4_readIf 5 (some .boolean) 2 := ⟨List.mem_of_getElem? (i := 650) (by decide +kernel), List.mem_of_getElem? (i := 115) (by decide +kernel), by decide, by decide, by decide +kernel⟩
theorem cv_X4_readIf : CV yX4_readIf := ⟨List.mem_of_getElem? (i := 649) (by decide +kernel), List.mem_of_getElem? (i := 9) (by decide +kernel)⟩
theorem cd_X4_readSingle : CD yX4_readSingle cX4_readSingle 4 (some .boolean) 2 := ⟨List.mem_of_getElem? (i := 619) (by decide +kernel), List.mem_of_getElem? (i := 115) (by decide +kernel), by decide, by decide, by decide +kernel⟩
theorem cv_X4_readSingle : CV yX4_readSingle := ⟨List.mem_of_getElem? (i := 618) (by decide +kernel), List.mem_of_getElem? (i := 3) (by decide +kernel)⟩
theorem cd_X4_readTest : CD yX4_readTest cX4_readTest 4 (some .int) 2 := ⟨List.mem_of_getElem? (i := 634) (by decide +kernel), List.mem_of_getElem? (i := 115) (by decide +kernel), by decide, by decide, by decide +kernel⟩
theorem cv_X4_readTest : CV yX4_readTest := ⟨List.mem_of_getElem? (i := 633) (by decide +kernel), List.mem_of_getElem? (i := 7) (by decide +kernel)⟩
theorem cd_X4_readVat : CD yX4_readVat cX4_readVat 2 (some .int) 1 := ⟨List.mem_of_getElem? (i := 622) (by decide +kernel), List.mem_of_getElem? (i := 115) (by decide +kernel), by decide, by decide, by decide +kernel⟩
theorem st_X4_readVat : Cond.static yX4_readVat ∈ gtbl := List.mem_of_getElem? (i := 621) (by decide +kernel)
theorem cd_X4_readWhile : CD yX4_readWhile cX4_readWhile 4 (some .boolean) 2 := ⟨List.mem_of_getElem? (i := 631) (by decide +kernel), List.mem_of_getElem? (i := 115) (by decide +kernel), by decide, by decide, by decide +kernel⟩
theorem cv_X4_readWhile : CV yX4_readWhile := ⟨List.mem_of_getElem? (i := 630) (by decide +kernel), List.mem_of_getElem? (i := 6) (by decide +kernel)⟩
theorem cd_X4_straighten : CD yX4_straighten cX4_straighten 2 none 0 := ⟨List.mem_of_getElem? (i := 657) (by decide +kernel), List.mem_of_getElem? (i := 115) (by decide +kernel), by decide, by decide, by decide +kernel⟩
theorem cv_X4_straighten : CV yX4_straighten := ⟨List.mem_of_getElem? (i := 656) (by decide +kernel), List.mem_of_getElem? (i := 10) (by decide +kernel)⟩
theorem cd_X5_findAhead : CD yX5_findAhead cX5_findAhead 3 none 1 := ⟨List.mem_of_getElem? (i := 882) (by decide +kernel), List.mem_of_getElem? (i := 120) (by decide +kernel), by decide, by decide, by decide +kernel⟩
theorem cv_X5_findAhead : CV yX5_findAhead := ⟨List.mem_of_getElem? (i := 881) (by decide +kernel), List.mem_of_getElem? (i := 35) (by decide +kernel)⟩
theorem cd_X5_findLength : CD yX5_findLength cX5_findLength 4 (some .boolean) 1 := ⟨List.mem_of_getElem? (i := 863) (by decide +kernel), List.mem_of_getElem? (i := 120) (by decide +kernel), by decide, by decide, by decide +kernel⟩
theorem cv_X5_findLength : CV yX5_findLength := ⟨List.mem_of_getElem? (i := 862) (by decide +kernel), List.mem_of_getElem? (i := 34) (by decide +kernel)⟩
theorem cd_X5_init : CD yX5_init cX5_init 4 none 3 := ⟨List.mem_of_getElem? (i := 364) (by decide +kernel), List.mem_of_getElem? (i := 120) (by decide +kernel), by decide, by decide, by decide +kernel⟩
theorem cd_X5_seek : CD yX5_seek cX5_seek 2 none 1 := ⟨List.mem_of_getElem? (i := 860) (by decide +kernel), List.mem_of_getElem? (i := 120) (by decide +kernel), by decide, by decide, by decide +kernel⟩
theorem cv_X5_seek : CV yX5_seek := ⟨List.mem_of_getElem? (i := 858) (by decide +kernel), List.mem_of_getElem? (i := 859) (by decide +kernel)⟩
theorem cd_X6_add : CD yX6_add cX6_add 4 (some .int) 2 := ⟨List.mem_of_getElem? (i := 689) (by decide +kernel), List.mem_of_getElem? (i := 116) (by decide +kernel), by decide, by decide, by decide +kernel⟩
theorem cv_X6_add : CV yX6_add := ⟨List.mem_of_getElem? (i := 687) (by decide +kernel), List.mem_of_getElem? (i := 688) (by decide +kernel)⟩
theorem cd_X6_holds : CD yX6_holds cX6_holds 6 (some .boolean) 1 := ⟨List.mem_of_getElem? (i := 779) (by decide +kernel), List.mem_of_getElem? (i := 116) (by decide +kernel), by decide, by decide, by decide +kernel⟩
theorem cv_X6_holds : CV yX6_holds := ⟨List.mem_of_getElem? (i := 777) (by decide +kernel), List.mem_of_getElem? (i := 778) (by decide +kernel)⟩
theorem cd_X6_init : CD yX6_init cX6_init 1 none 0 := ⟨List.mem_of_getElem? (i := 232) (by decide +kernel), List.mem_of_getElem? (i := 116) (by decide +kernel), by decide, by decide, by decide +kernel⟩
theorem cd_X6_obey : CD yX6_obey cX6_obey 6 none 3 := ⟨List.mem_of_getElem? (i := 782) (by decide +kernel), List.mem_of_getElem? (i := 116) (by decide +kernel), by decide, by decide, by decide +kernel⟩
theorem cv_X6_obey : CV yX6_obey := ⟨List.mem_of_getElem? (i := 781) (by decide +kernel), List.mem_of_getElem? (i := 28) (by decide +kernel)⟩
theorem cd_X6_pop : CD yX6_pop cX6_pop 1 (some .int) 0 := ⟨List.mem_of_getElem? (i := 792) (by decide +kernel), List.mem_of_getElem? (i := 116) (by decide +kernel), by decide, by decide, by decide +kernel⟩
theorem cv_X6_pop : CV yX6_pop := ⟨List.mem_of_getElem? (i := 791) (by decide +kernel), List.mem_of_getElem? (i := 30) (by decide +kernel)⟩
theorem cd_X6_push : CD yX6_push cX6_push 2 none 1 := ⟨List.mem_of_getElem? (i := 785) (by decide +kernel), List.mem_of_getElem? (i := 116) (by decide +kernel), by decide, by decide, by decide +kernel⟩
theorem cv_X6_push : CV yX6_push := ⟨List.mem_of_getElem? (i := 784) (by decide +kernel), List.mem_of_getElem? (i := 29) (by decide +kernel)⟩
theorem cd_X6_reckon : CD yX6_reckon cX6_reckon 4 (some .int) 3 := ⟨List.mem_of_getElem? (i := 795) (by decide +kernel), List.mem_of_getElem? (i := 116) (by decide +kernel), by decide, by decide, by decide +kernel⟩
theorem cv_X6_reckon : CV yX6_reckon := ⟨List.mem_of_getElem? (i := 794) (by decide +kernel), List.mem_of_getElem? (i := 31) (by decide +kernel)⟩
theorem cd_X7_init : CD yX7_init cX7_init 3 none 2 := ⟨List.mem_of_getElem? (i := 262) (by decide +kernel), List.mem_of_getElem? (i := 117) (by decide +kernel), by decide, by decide, by decide +kernel⟩
theorem cd_X7_isProduct : CD yX7_isProduct cX7_isProduct 1 (some .boolean) 1 := ⟨List.mem_of_getElem? (i := 712) (by decide +kernel), List.mem_of_getElem? (i := 117) (by decide +kernel), by decide, by decide, by decide +kernel⟩
theorem st_X7_isProduct : Cond.static yX7_isProduct ∈ gtbl := List.mem_of_getElem? (i := 711) (by decide +kernel)
theorem cd_X7_isSum : CD yX7_isSum cX7_isSum 1 (some .boolean) 1 := ⟨List.mem_of_getElem? (i := 715) (by decide +kernel), List.mem_of_getElem? (i := 117) (by decide +kernel), by decide, by decide, by decide +kernel⟩
theorem st_X7_isSum : Cond.static yX7_isSum ∈ gtbl := List.mem_of_getElem? (i := 714) (by decide +kernel)
theorem cd_X7_lead : CD yX7_lead cX7_lead 2 none 1 := ⟨List.mem_of_getElem? (i := 718) (by decide +kernel), List.mem_of_getElem? (i := 117) (by decide +kernel), by decide, by decide, by decide +kernel⟩
theorem cv_X7_lead : CV yX7_lead := ⟨List.mem_of_getElem? (i := 717) (by decide +kernel), List.mem_of_getElem? (i := 20) (by decide +kernel)⟩
theorem cd_X7_letterOf : CD yX7_letterOf cX7_letterOf 1 (some .int) 1 := ⟨List.mem_of_getElem? (i := 709) (by decide +kernel), List.mem_of_getElem? (i := 117) (by decide +kernel), by decide, by decide, by decide +kernel⟩
theorem st_X7_letterOf : Cond.static yX7_letterOf ∈ gtbl := List.mem_of_getElem? (i := 708) (by decide +kernel)
theorem cd_X7_read : CD yX7_read cX7_read 3 (some .boolean) 2 := ⟨List.mem_of_getElem? (i := 672) (by decide +kernel), List.mem_of_getElem? (i := 117) (by decide +kernel), by decide, by decide, by decide +kernel⟩
theorem cv_X7_read : CV yX7_read := ⟨List.mem_of_getElem? (i := 670) (by decide +kernel), List.mem_of_getElem? (i := 671) (by decide +kernel)⟩
theorem cd_X7_readChoice : CD yX7_readChoice cX7_readChoice 5 (some .boolean) 1 := ⟨List.mem_of_getElem? (i := 676) (by decide +kernel), List.mem_of_getElem? (i := 117) (by decide +kernel), by decide, by decide, by decide +kernel⟩
theorem cv_X7_readChoice : CV yX7_readChoice := ⟨List.mem_of_getElem? (i := 675) (by decide +kernel), List.mem_of_getElem? (i := 12) (by decide +kernel)⟩
theorem cd_X7_readComparison : CD yX7_readComparison cX7_readComparison 4 (some .boolean) 1 := ⟨List.mem_of_getElem? (i := 693) (by decide +kernel), List.mem_of_getElem? (i := 117) (by decide +kernel), by decide, by decide, by decide +kernel⟩
theorem cv_X7_readComparison : CV yX7_readComparison := ⟨List.mem_of_getElem? (i := 692) (by decide +kernel), List.mem_of_getElem? (i := 15) (by decide +kernel)⟩
theorem cd_X7_readFactor : CD yX7_readFactor cX7_readFactor 4 (some .boolean) 1 := ⟨List.mem_of_getElem? (i := 702) (by decide +kernel), List.mem_of_getElem? (i := 117) (by decide +kernel), by decide, by decide, by decide +kernel⟩
theorem cv_X7_readFactor : CV yX7_readFactor := ⟨List.mem_of_getElem? (i := 701) (by decide +kernel), List.mem_of_getElem? (i := 18) (by decide +kernel)⟩
theorem cd_X7_readFactors : CD yX7_readFactors cX7_readFactors 5 (some .boolean) 1 := ⟨List.mem_of_getElem? (i := 699) (by decide +kernel), List.mem_of_getElem? (i := 117) (by decide +kernel), by decide, by decide, by decide +kernel⟩
theorem cv_X7_readFactors : CV yX7_readFactors := ⟨List.mem_of_getElem? (i := 698) (by decide +kernel), List.mem_of_getElem? (i := 17) (by decide +kernel)⟩
theorem cd_X7_readNumber : CD yX7_readNumber cX7_readNumber 3 (some .boolean) 0 := ⟨List.mem_of_getElem? (i := 705) (by decide +kernel), List.mem_of_getElem? (i := 117) (by decide +kernel), by decide, by decide, by decide +kernel⟩
theorem cv_X7_readNumber : CV yX7_readNumber := ⟨List.mem_of_getElem? (i := 704) (by decide +kernel), List.mem_of_getElem? (i := 19) (by decide +kernel)⟩
theorem cd_X7_readPart : CD yX7_readPart cX7_readPart 5 (some .boolean) 1 := ⟨List.mem_of_getElem? (i := 679) (by decide +kernel), List.mem_of_getElem? (i := 117) (by decide +kernel), by decide, by decide, by decide +kernel⟩
theorem cv_X7_readPart : CV yX7_readPart := ⟨List.mem_of_getElem? (i := 678) (by decide +kernel), List.mem_of_getElem? (i := 13) (by decide +kernel)⟩
theorem cd_X7_readPiece : CD yX7_readPiece cX7_readPiece 4 (some .boolean) 1 := ⟨List.mem_of_getElem? (i := 682) (by decide +kernel), List.mem_of_getElem? (i := 117) (by decide +kernel), by decide, by decide, by decide +kernel⟩
theorem cv_X7_readPiece : CV yX7_readPiece := ⟨List.mem_of_getElem? (i := 681) (by decide +kernel), List.mem_of_getElem? (i := 14) (by decide +kernel)⟩
theorem cd_X7_readTerms : CD yX7_readTerms cX7_readTerms 5 (some .boolean) 1 := ⟨List.mem_of_getElem? (i := 696) (by decide +kernel), List.mem_of_getElem? (i := 117) (by decide +kernel), by decide, by decide, by decide +kernel⟩
theorem cv_X7_readTerms : CV yX7_readTerms := ⟨List.mem_of_getElem? (i := 695) (by decide +kernel), List.mem_of_getElem? (i := 16) (by decide +kernel)⟩
theorem cd_X8_coloured : CD yX8_coloured cX8_coloured 6 (some .int) 3 := ⟨List.mem_of_getElem? (i := 852) (by decide +kernel), List.mem_of_getElem? (i := 119) (by decide +kernel), by decide, by decide, by decide +kernel⟩
theorem cv_X8_coloured : CV yX8_coloured := ⟨List.mem_of_getElem? (i := 850) (by decide +kernel), List.mem_of_getElem? (i := 851) (by decide +kernel)⟩
theorem cd_X8_follow : CD yX8_follow cX8_follow 3 none 2 := ⟨List.mem_of_getElem? (i := 826) (by decide +kernel), List.mem_of_getElem? (i := 119) (by decide +kernel), by decide, by decide, by decide +kernel⟩
theorem cv_X8_follow : CV yX8_follow := ⟨List.mem_of_getElem? (i := 825) (by decide +kernel), List.mem_of_getElem? (i := 32) (by decide +kernel)⟩
theorem cd_X8_goOn : CD yX8_goOn cX8_goOn 2 none 0 := ⟨List.mem_of_getElem? (i := 832) (by decide +kernel), List.mem_of_getElem? (i := 119) (by decide +kernel), by decide, by decide, by decide +kernel⟩
theorem cv_X8_goOn : CV yX8_goOn := ⟨List.mem_of_getElem? (i := 831) (by decide +kernel), List.mem_of_getElem? (i := 33) (by decide +kernel)⟩
theorem cd_X8_init : CD yX8_init cX8_init 4 none 3 := ⟨List.mem_of_getElem? (i := 339) (by decide +kernel), List.mem_of_getElem? (i := 119) (by decide +kernel), by decide, by decide, by decide +kernel⟩
theorem cd_X8_lay : CD yX8_lay cX8_lay 5 none 2 := ⟨List.mem_of_getElem? (i := 818) (by decide +kernel), List.mem_of_getElem? (i := 119) (by decide +kernel), by decide, by decide, by decide +kernel⟩
theorem cv_X8_lay : CV yX8_lay := ⟨List.mem_of_getElem? (i := 816) (by decide +kernel), List.mem_of_getElem? (i := 817) (by decide +kernel)⟩
theorem cd_X8_unlike : CD yX8_unlike cX8_unlike 6 (some .int) 3 := ⟨List.mem_of_getElem? (i := 840) (by decide +kernel), List.mem_of_getElem? (i := 119) (by decide +kernel), by decide, by decide, by decide +kernel⟩
theorem cv_X8_unlike : CV yX8_unlike := ⟨List.mem_of_getElem? (i := 838) (by decide +kernel), List.mem_of_getElem? (i := 839) (by decide +kernel)⟩
theorem cd_X8_unproved : CD yX8_unproved cX8_unproved 6 (some .int) 3 := ⟨List.mem_of_getElem? (i := 823) (by decide +kernel), List.mem_of_getElem? (i := 119) (by decide +kernel), by decide, by decide, by decide +kernel⟩
theorem cv_X8_unproved : CV yX8_unproved := ⟨List.mem_of_getElem? (i := 821) (by decide +kernel), List.mem_of_getElem? (i := 822) (by decide +kernel)⟩
theorem cd_X9_add : CD yX9_add cX9_add 3 none 1 := ⟨List.mem_of_getElem? (i := 577) (by decide +kernel), List.mem_of_getElem? (i := 112) (by decide +kernel), by decide, by decide, by decide +kernel⟩
theorem cv_X9_add : CV yX9_add := ⟨List.mem_of_getElem? (i := 575) (by decide +kernel), List.mem_of_getElem? (i := 576) (by decide +kernel)⟩
theorem cd_X9_at : CD yX9_at cX9_at 2 (some .int) 1 := ⟨List.mem_of_getElem? (i := 893) (by decide +kernel), List.mem_of_getElem? (i := 112) (by decide +kernel), by decide, by decide, by decide +kernel⟩
theorem cv_X9_at : CV yX9_at := ⟨List.mem_of_getElem? (i := 892) (by decide +kernel), List.mem_of_getElem? (i := 36) (by decide +kernel)⟩
theorem cd_X9_canOpen : CD yX9_canOpen cX9_canOpen 2 (some .boolean) 1 := ⟨List.mem_of_getElem? (i := 638) (by decide +kernel), List.mem_of_getElem? (i := 112) (by decide +kernel), by decide, by decide, by decide +kernel⟩
theorem cv_X9_canOpen : CV yX9_canOpen := ⟨List.mem_of_getElem? (i := 636) (by decide +kernel), List.mem_of_getElem? (i := 637) (by decide +kernel)⟩
theorem cd_X9_clear : CD yX9_clear cX9_clear 1 none 0 := ⟨List.mem_of_getElem? (i := 664) (by decide +kernel), List.mem_of_getElem? (i := 112) (by decide +kernel), by decide, by decide, by decide +kernel⟩
theorem cv_X9_clear : CV yX9_clear := ⟨List.mem_of_getElem? (i := 662) (by decide +kernel), List.mem_of_getElem? (i := 663) (by decide +kernel)⟩
theorem cd_X9_hasRoom : CD yX9_hasRoom cX9_hasRoom 1 (some .boolean) 0 := ⟨List.mem_of_getElem? (i := 573) (by decide +kernel), List.mem_of_getElem? (i := 112) (by decide +kernel), by decide, by decide, by decide +kernel⟩
theorem cv_X9_hasRoom : CV yX9_hasRoom := ⟨List.mem_of_getElem? (i := 571) (by decide +kernel), List.mem_of_getElem? (i := 572) (by decide +kernel)⟩
theorem cd_X9_init : CD yX9_init cX9_init 1 none 0 := ⟨List.mem_of_getElem? (i := 139) (by decide +kernel), List.mem_of_getElem? (i := 112) (by decide +kernel), by decide, by decide, by decide +kernel⟩
theorem cd_X9_isRead : CD yX9_isRead cX9_isRead 1 (some .boolean) 0 := ⟨List.mem_of_getElem? (i := 654) (by decide +kernel), List.mem_of_getElem? (i := 112) (by decide +kernel), by decide, by decide, by decide +kernel⟩
theorem cv_X9_isRead : CV yX9_isRead := ⟨List.mem_of_getElem? (i := 652) (by decide +kernel), List.mem_of_getElem? (i := 653) (by decide +kernel)⟩
theorem cd_X9_number : CD yX9_number cX9_number 4 (some .int) 1 := ⟨List.mem_of_getElem? (i := 1029) (by decide +kernel), List.mem_of_getElem? (i := 112) (by decide +kernel), by decide, by decide, by decide +kernel⟩
theorem cv_X9_number : CV yX9_number := ⟨List.mem_of_getElem? (i := 1027) (by decide +kernel), List.mem_of_getElem? (i := 1028) (by decide +kernel)⟩
theorem cd_X9_open : CD yX9_open cX9_open 2 none 1 := ⟨List.mem_of_getElem? (i := 595) (by decide +kernel), List.mem_of_getElem? (i := 112) (by decide +kernel), by decide, by decide, by decide +kernel⟩
theorem cv_X9_open : CV yX9_open := ⟨List.mem_of_getElem? (i := 593) (by decide +kernel), List.mem_of_getElem? (i := 594) (by decide +kernel)⟩
theorem cd_X9_pass : CD yX9_pass cX9_pass 2 (some .boolean) 1 := ⟨List.mem_of_getElem? (i := 643) (by decide +kernel), List.mem_of_getElem? (i := 112) (by decide +kernel), by decide, by decide, by decide +kernel⟩
theorem cv_X9_pass : CV yX9_pass := ⟨List.mem_of_getElem? (i := 641) (by decide +kernel), List.mem_of_getElem? (i := 642) (by decide +kernel)⟩
theorem cd_X9_refuse : CD yX9_refuse cX9_refuse 2 (some .boolean) 1 := ⟨List.mem_of_getElem? (i := 612) (by decide +kernel), List.mem_of_getElem? (i := 112) (by decide +kernel), by decide, by decide, by decide +kernel⟩
theorem cv_X9_refuse : CV yX9_refuse := ⟨List.mem_of_getElem? (i := 610) (by decide +kernel), List.mem_of_getElem? (i := 611) (by decide +kernel)⟩
theorem cd_X9_sign : CD yX9_sign cX9_sign 1 (some .int) 0 := ⟨List.mem_of_getElem? (i := 605) (by decide +kernel), List.mem_of_getElem? (i := 112) (by decide +kernel), by decide, by decide, by decide +kernel⟩
theorem cv_X9_sign : CV yX9_sign := ⟨List.mem_of_getElem? (i := 603) (by decide +kernel), List.mem_of_getElem? (i := 604) (by decide +kernel)⟩
theorem cd_X9_skip : CD yX9_skip cX9_skip 1 none 0 := ⟨List.mem_of_getElem? (i := 616) (by decide +kernel), List.mem_of_getElem? (i := 112) (by decide +kernel), by decide, by decide, by decide +kernel⟩
theorem cv_X9_skip : CV yX9_skip := ⟨List.mem_of_getElem? (i := 614) (by decide +kernel), List.mem_of_getElem? (i := 615) (by decide +kernel)⟩
theorem cd_X9_takeMeasures : CD yX9_takeMeasures cX9_takeMeasures 3 none 1 := ⟨List.mem_of_getElem? (i := 890) (by decide +kernel), List.mem_of_getElem? (i := 112) (by decide +kernel), by decide, by decide, by decide +kernel⟩
theorem cv_X9_takeMeasures : CV yX9_takeMeasures := ⟨List.mem_of_getElem? (i := 888) (by decide +kernel), List.mem_of_getElem? (i := 889) (by decide +kernel)⟩
theorem kc_J6_265 : Cond.constant RJ6 265 1431655765 ∈ gtbl := List.mem_of_getElem? (i := 812) (by decide +kernel)
theorem kc_J6_266 : Cond.constant RJ6 266 858993459 ∈ gtbl := List.mem_of_getElem? (i := 813) (by decide +kernel)
theorem kc_J6_267 : Cond.constant RJ6 267 252645135 ∈ gtbl := List.mem_of_getElem? (i := 814) (by decide +kernel)
theorem kc_X5_56 : Cond.constant RX5 56 65536 ∈ gtbl := List.mem_of_getElem? (i := 865) (by decide +kernel)
theorem kc_X11_283 : Cond.constant RX11 283 65535 ∈ gtbl := List.mem_of_getElem? (i := 993) (by decide +kernel)
theorem kc_X11_284 : Cond.constant RX11 284 65536 ∈ gtbl := List.mem_of_getElem? (i := 998) (by decide +kernel)
theorem kc_X12_175 : Cond.constant RX12 175 1048576 ∈ gtbl := List.mem_of_getElem? (i := 1285) (by decide +kernel)
theorem kc_X12_386 : Cond.constantLong RX12 386 100 ∈ gtbl := List.mem_of_getElem? (i := 1464) (by decide +kernel)
theorem kc_X12_420 : Cond.constant RX12 420 1000000000 ∈ gtbl := List.mem_of_getElem? (i := 1505) (by decide +kernel)
theorem kc_X12_424 : Cond.constant RX12 424 65535 ∈ gtbl := List.mem_of_getElem? (i := 1513) (by decide +kernel)
theorem kc_X12_425 : Cond.constant RX12 425 65536 ∈ gtbl := List.mem_of_getElem? (i := 1518) (by decide +kernel)
theorem kn_arraycopy : Cond.native arraycopyName ∈ gtbl := List.mem_of_getElem? (i := 732) (by decide +kernel)
theorem ks_arraycopy : Cond.static arraycopyName ∈ gtbl := List.mem_of_getElem? (i := 731) (by decide +kernel)
theorem ki_System : Cond.initialized "java/lang/System" ∈ gtbl := List.mem_of_getElem? (i := 126) (by decide +kernel)
