theorem gt_of {w : Cond} (h : w ∈ tables_1) (hg : goodWord w = true) : w ∈ gtbl := List.mem_filter.mpr ⟨List.mem_append_right _ h, hg⟩
theorem gp_of {w : Cond} (h : w ∈ k2_sels lw_privs) (hg : goodWord w = true) : w ∈ gtbl := List.mem_filter.mpr ⟨List.mem_append_left _ h, hg⟩
theorem gt1 {w : Cond} (h : w ∈ tables_1_1) : w ∈ tables_1 := List.mem_append_left _ h
theorem gt2 {w : Cond} (h : w ∈ tables_1_2) : w ∈ tables_1 := List.mem_append_right _ (List.mem_append_left _ h)
theorem gt3 {w : Cond} (h : w ∈ tables_1_3) : w ∈ tables_1 := List.mem_append_right _ (List.mem_append_right _ (List.mem_append_left _ h))
theorem gt4 {w : Cond} (h : w ∈ tables_1_4) : w ∈ tables_1 := List.mem_append_right _ (List.mem_append_right _ (List.mem_append_right _ (List.mem_append_left _ h)))
theorem gt5 {w : Cond} (h : w ∈ tables_1_5) : w ∈ tables_1 := List.mem_append_right _ (List.mem_append_right _ (List.mem_append_right _ (List.mem_append_right _ (List.mem_append_left _ h))))
theorem gt6 {w : Cond} (h : w ∈ tables_1_6) : w ∈ tables_1 := List.mem_append_right _ (List.mem_append_right _ (List.mem_append_right _ (List.mem_append_right _ (List.mem_append_right _ (List.mem_append_left _ h)))))
theorem gt7 {w : Cond} (h : w ∈ tables_1_7) : w ∈ tables_1 := List.mem_append_right _ (List.mem_append_right _ (List.mem_append_right _ (List.mem_append_right _ (List.mem_append_right _ (List.mem_append_right _ h)))))
set_option maxRecDepth 100000 in
theorem inX0 : ∀ w ∈ u_ws RX0 TX0 15, w ∈ gtbl := List.forall_mem_cons.mpr ⟨gt_of (gt1 (List.mem_of_getElem? (i := 198) rfl)) rfl, List.forall_mem_cons.mpr ⟨gt_of (gt1 (List.mem_of_getElem? (i := 200) rfl)) rfl, List.forall_mem_cons.mpr ⟨gt_of (gt1 (List.mem_of_getElem? (i := 202) rfl)) rfl, List.forall_mem_cons.mpr ⟨gt_of (gt1 (List.mem_of_getElem? (i := 204) rfl)) rfl, List.forall_mem_cons.mpr ⟨gt_of (gt1 (List.mem_of_getElem? (i := 206) rfl)) rfl, List.forall_mem_cons.mpr ⟨gt_of (gt1 (List.mem_of_getElem? (i := 208) rfl)) rfl, List.forall_mem_cons.mpr ⟨gt_of (gt1 (List.mem_of_getElem? (i := 210) rfl)) rfl, List.forall_mem_cons.mpr ⟨gt_of (gt1 (List.mem_of_getElem? (i := 212) rfl)) rfl, List.forall_mem_cons.mpr ⟨gt_of (gt1 (List.mem_of_getElem? (i := 214) rfl)) rfl, List.forall_mem_cons.mpr ⟨gt_of (gt1 (List.mem_of_getElem? (i := 216) rfl)) rfl, List.forall_mem_cons.mpr ⟨gt_of (gt1 (List.mem_of_getElem? (i := 218) rfl)) rfl, List.forall_mem_cons.mpr ⟨gt_of (gt1 (List.mem_of_getElem? (i := 220) rfl)) rfl, List.forall_mem_cons.mpr ⟨gt_of (gt1 (List.mem_of_getElem? (i := 222) rfl)) rfl, List.forall_mem_cons.mpr ⟨gt_of (gt1 (List.mem_of_getElem? (i := 224) rfl)) rfl, List.forall_mem_cons.mpr ⟨gt_of (gt1 (List.mem_of_getElem? (i := 226) rfl)) rfl, fun _ h => absurd h List.not_mem_nil⟩⟩⟩⟩⟩⟩⟩⟩⟩⟩⟩⟩⟩⟩⟩
theorem ptX0 : PT TX0 15 tyX0 := ⟨tyX0_ok, nmX0⟩
set_option maxRecDepth 100000 in
theorem inX1 : ∀ w ∈ u_ws RX1 TX1 5, w ∈ gtbl := List.forall_mem_cons.mpr ⟨gt_of (gt2 (List.mem_of_getElem? (i := 150) rfl)) rfl, List.forall_mem_cons.mpr ⟨gt_of (gt2 (List.mem_of_getElem? (i := 152) rfl)) rfl, List.forall_mem_cons.mpr ⟨gt_of (gt2 (List.mem_of_getElem? (i := 154) rfl)) rfl, List.forall_mem_cons.mpr ⟨gt_of (gt2 (List.mem_of_getElem? (i := 156) rfl)) rfl, List.forall_mem_cons.mpr ⟨gt_of (gt2 (List.mem_of_getElem? (i := 158) rfl)) rfl, fun _ h => absurd h List.not_mem_nil⟩⟩⟩⟩⟩
theorem ptX1 : PT TX1 5 tyX1 := ⟨tyX1_ok, nmX1⟩
set_option maxRecDepth 100000 in
theorem inX2 : ∀ w ∈ u_ws RX2 TX2 11, w ∈ gtbl := List.forall_mem_cons.mpr ⟨gt_of (gt2 (List.mem_of_getElem? (i := 111) rfl)) rfl, List.forall_mem_cons.mpr ⟨gt_of (gt2 (List.mem_of_getElem? (i := 113) rfl)) rfl, List.forall_mem_cons.mpr ⟨gt_of (gt2 (List.mem_of_getElem? (i := 115) rfl)) rfl, List.forall_mem_cons.mpr ⟨gt_of (gt2 (List.mem_of_getElem? (i := 117) rfl)) rfl, List.forall_mem_cons.mpr ⟨gt_of (gt2 (List.mem_of_getElem? (i := 119) rfl)) rfl, List.forall_mem_cons.mpr ⟨gt_of (gt2 (List.mem_of_getElem? (i := 121) rfl)) rfl, List.forall_mem_cons.mpr ⟨gt_of (gt2 (List.mem_of_getElem? (i := 123) rfl)) rfl, List.forall_mem_cons.mpr ⟨gt_of (gt2 (List.mem_of_getElem? (i := 125) rfl)) rfl, List.forall_mem_cons.mpr ⟨gt_of (gt2 (List.mem_of_getElem? (i := 127) rfl)) rfl, List.forall_mem_cons.mpr ⟨gt_of (gt2 (List.mem_of_getElem? (i := 129) rfl)) rfl, List.forall_mem_cons.mpr ⟨gt_of (gt2 (List.mem_of_getElem? (i := 131) rfl)) rfl, fun _ h => absurd h List.not_mem_nil⟩⟩⟩⟩⟩⟩⟩⟩⟩⟩⟩
theorem ptX2 : PT TX2 11 tyX2 := ⟨tyX2_ok, nmX2⟩
set_option maxRecDepth 100000 in
theorem inX3 : ∀ w ∈ u_ws RX3 TX3 12, w ∈ gtbl := List.forall_mem_cons.mpr ⟨gt_of (gt2 (List.mem_of_getElem? (i := 65) rfl)) rfl, List.forall_mem_cons.mpr ⟨gt_of (gt2 (List.mem_of_getElem? (i := 67) rfl)) rfl, List.forall_mem_cons.mpr ⟨gt_of (gt2 (List.mem_of_getElem? (i := 69) rfl)) rfl, List.forall_mem_cons.mpr ⟨gt_of (gt2 (List.mem_of_getElem? (i := 71) rfl)) rfl, List.forall_mem_cons.mpr ⟨gt_of (gt2 (List.mem_of_getElem? (i := 73) rfl)) rfl, List.forall_mem_cons.mpr ⟨gt_of (gt2 (List.mem_of_getElem? (i := 75) rfl)) rfl, List.forall_mem_cons.mpr ⟨gt_of (gt2 (List.mem_of_getElem? (i := 77) rfl)) rfl, List.forall_mem_cons.mpr ⟨gt_of (gt2 (List.mem_of_getElem? (i := 79) rfl)) rfl, List.forall_mem_cons.mpr ⟨gt_of (gt2 (List.mem_of_getElem? (i := 81) rfl)) rfl, List.forall_mem_cons.mpr ⟨gt_of (gt2 (List.mem_of_getElem? (i := 83) rfl)) rfl, List.forall_mem_cons.mpr ⟨gt_of (gt2 (List.mem_of_getElem? (i := 85) rfl)) rfl, List.forall_mem_cons.mpr ⟨gt_of (gt2 (List.mem_of_getElem? (i := 87) rfl)) rfl, fun _ h => absurd h List.not_mem_nil⟩⟩⟩⟩⟩⟩⟩⟩⟩⟩⟩⟩
theorem ptX3 : PT TX3 12 tyX3 := ⟨tyX3_ok, nmX3⟩
set_option maxRecDepth 100000 in
theorem inX4 : ∀ w ∈ u_ws RX4 TX4 7, w ∈ gtbl := List.forall_mem_cons.mpr ⟨gt_of (gt1 (List.mem_of_getElem? (i := 107) rfl)) rfl, List.forall_mem_cons.mpr ⟨gt_of (gt1 (List.mem_of_getElem? (i := 109) rfl)) rfl, List.forall_mem_cons.mpr ⟨gt_of (gt1 (List.mem_of_getElem? (i := 111) rfl)) rfl, List.forall_mem_cons.mpr ⟨gt_of (gt1 (List.mem_of_getElem? (i := 113) rfl)) rfl, List.forall_mem_cons.mpr ⟨gt_of (gt1 (List.mem_of_getElem? (i := 115) rfl)) rfl, List.forall_mem_cons.mpr ⟨gt_of (gt1 (List.mem_of_getElem? (i := 117) rfl)) rfl, List.forall_mem_cons.mpr ⟨gt_of (gt1 (List.mem_of_getElem? (i := 119) rfl)) rfl, fun _ h => absurd h List.not_mem_nil⟩⟩⟩⟩⟩⟩⟩
theorem ptX4 : PT TX4 7 tyX4 := ⟨tyX4_ok, nmX4⟩
set_option maxRecDepth 100000 in
theorem inX5 : ∀ w ∈ u_ws RX5 TX5 6, w ∈ gtbl := List.forall_mem_cons.mpr ⟨gt_of (gt2 (List.mem_of_getElem? (i := 29) rfl)) rfl, List.forall_mem_cons.mpr ⟨gt_of (gt2 (List.mem_of_getElem? (i := 31) rfl)) rfl, List.forall_mem_cons.mpr ⟨gt_of (gt2 (List.mem_of_getElem? (i := 33) rfl)) rfl, List.forall_mem_cons.mpr ⟨gt_of (gt2 (List.mem_of_getElem? (i := 35) rfl)) rfl, List.forall_mem_cons.mpr ⟨gt_of (gt2 (List.mem_of_getElem? (i := 37) rfl)) rfl, List.forall_mem_cons.mpr ⟨gt_of (gt2 (List.mem_of_getElem? (i := 39) rfl)) rfl, fun _ h => absurd h List.not_mem_nil⟩⟩⟩⟩⟩⟩
theorem ptX5 : PT TX5 6 tyX5 := ⟨tyX5_ok, nmX5⟩
set_option maxRecDepth 100000 in
theorem inX6 : ∀ w ∈ u_ws RX6 TX6 7, w ∈ gtbl := List.forall_mem_cons.mpr ⟨gt_of (gt1 (List.mem_of_getElem? (i := 137) rfl)) rfl, List.forall_mem_cons.mpr ⟨gt_of (gt1 (List.mem_of_getElem? (i := 139) rfl)) rfl, List.forall_mem_cons.mpr ⟨gt_of (gt1 (List.mem_of_getElem? (i := 141) rfl)) rfl, List.forall_mem_cons.mpr ⟨gt_of (gt1 (List.mem_of_getElem? (i := 143) rfl)) rfl, List.forall_mem_cons.mpr ⟨gt_of (gt1 (List.mem_of_getElem? (i := 145) rfl)) rfl, List.forall_mem_cons.mpr ⟨gt_of (gt1 (List.mem_of_getElem? (i := 147) rfl)) rfl, List.forall_mem_cons.mpr ⟨gt_of (gt1 (List.mem_of_getElem? (i := 149) rfl)) rfl, fun _ h => absurd h List.not_mem_nil⟩⟩⟩⟩⟩⟩⟩
theorem ptX6 : PT TX6 7 tyX6 := ⟨tyX6_ok, nmX6⟩
set_option maxRecDepth 100000 in
theorem inX7 : ∀ w ∈ u_ws RX7 TX7 2, w ∈ gtbl := List.forall_mem_cons.mpr ⟨gt_of (gt1 (List.mem_of_getElem? (i := 160) rfl)) rfl, List.forall_mem_cons.mpr ⟨gt_of (gt1 (List.mem_of_getElem? (i := 162) rfl)) rfl, fun _ h => absurd h List.not_mem_nil⟩⟩
theorem ptX7 : PT TX7 2 tyX7 := ⟨tyX7_ok, nmX7⟩
set_option maxRecDepth 100000 in
theorem inX8 : ∀ w ∈ u_ws RX8 TX8 6, w ∈ gtbl := List.forall_mem_cons.mpr ⟨gt_of (gt2 (List.mem_of_getElem? (i := 1) rfl)) rfl, List.forall_mem_cons.mpr ⟨gt_of (gt2 (List.mem_of_getElem? (i := 3) rfl)) rfl, List.forall_mem_cons.mpr ⟨gt_of (gt2 (List.mem_of_getElem? (i := 5) rfl)) rfl, List.forall_mem_cons.mpr ⟨gt_of (gt2 (List.mem_of_getElem? (i := 7) rfl)) rfl, List.forall_mem_cons.mpr ⟨gt_of (gt2 (List.mem_of_getElem? (i := 9) rfl)) rfl, List.forall_mem_cons.mpr ⟨gt_of (gt2 (List.mem_of_getElem? (i := 11) rfl)) rfl, fun _ h => absurd h List.not_mem_nil⟩⟩⟩⟩⟩⟩
theorem ptX8 : PT TX8 6 tyX8 := ⟨tyX8_ok, nmX8⟩
set_option maxRecDepth 100000 in
theorem inX9 : ∀ w ∈ u_ws RX9 TX9 5, w ∈ gtbl := List.forall_mem_cons.mpr ⟨gt_of (gt1 (List.mem_of_getElem? (i := 39) rfl)) rfl, List.forall_mem_cons.mpr ⟨gt_of (gt1 (List.mem_of_getElem? (i := 41) rfl)) rfl, List.forall_mem_cons.mpr ⟨gt_of (gt1 (List.mem_of_getElem? (i := 43) rfl)) rfl, List.forall_mem_cons.mpr ⟨gt_of (gt1 (List.mem_of_getElem? (i := 45) rfl)) rfl, List.forall_mem_cons.mpr ⟨gt_of (gt1 (List.mem_of_getElem? (i := 47) rfl)) rfl, fun _ h => absurd h List.not_mem_nil⟩⟩⟩⟩⟩
theorem ptX9 : PT TX9 5 tyX9 := ⟨tyX9_ok, nmX9⟩
set_option maxRecDepth 100000 in
theorem inX10 : ∀ w ∈ u_ws RX10 TX10 4, w ∈ gtbl := List.forall_mem_cons.mpr ⟨gt_of (gt1 (List.mem_of_getElem? (i := 76) rfl)) rfl, List.forall_mem_cons.mpr ⟨gt_of (gt1 (List.mem_of_getElem? (i := 78) rfl)) rfl, List.forall_mem_cons.mpr ⟨gt_of (gt1 (List.mem_of_getElem? (i := 80) rfl)) rfl, List.forall_mem_cons.mpr ⟨gt_of (gt1 (List.mem_of_getElem? (i := 82) rfl)) rfl, fun _ h => absurd h List.not_mem_nil⟩⟩⟩⟩
theorem ptX10 : PT TX10 4 tyX10 := ⟨tyX10_ok, nmX10⟩
set_option maxRecDepth 100000 in
theorem inX11 : ∀ w ∈ u_ws RX11 TX11 16, w ∈ gtbl := List.forall_mem_cons.mpr ⟨gt_of (gt2 (List.mem_of_getElem? (i := 177) rfl)) rfl, List.forall_mem_cons.mpr ⟨gt_of (gt2 (List.mem_of_getElem? (i := 179) rfl)) rfl, List.forall_mem_cons.mpr ⟨gt_of (gt2 (List.mem_of_getElem? (i := 181) rfl)) rfl, List.forall_mem_cons.mpr ⟨gt_of (gt2 (List.mem_of_getElem? (i := 183) rfl)) rfl, List.forall_mem_cons.mpr ⟨gt_of (gt2 (List.mem_of_getElem? (i := 185) rfl)) rfl, List.forall_mem_cons.mpr ⟨gt_of (gt2 (List.mem_of_getElem? (i := 187) rfl)) rfl, List.forall_mem_cons.mpr ⟨gt_of (gt2 (List.mem_of_getElem? (i := 189) rfl)) rfl, List.forall_mem_cons.mpr ⟨gt_of (gt2 (List.mem_of_getElem? (i := 191) rfl)) rfl, List.forall_mem_cons.mpr ⟨gt_of (gt2 (List.mem_of_getElem? (i := 193) rfl)) rfl, List.forall_mem_cons.mpr ⟨gt_of (gt2 (List.mem_of_getElem? (i := 195) rfl)) rfl, List.forall_mem_cons.mpr ⟨gt_of (gt2 (List.mem_of_getElem? (i := 197) rfl)) rfl, List.forall_mem_cons.mpr ⟨gt_of (gt2 (List.mem_of_getElem? (i := 199) rfl)) rfl, List.forall_mem_cons.mpr ⟨gt_of (gt2 (List.mem_of_getElem? (i := 201) rfl)) rfl, List.forall_mem_cons.mpr ⟨gt_of (gt2 (List.mem_of_getElem? (i := 203) rfl)) rfl, List.forall_mem_cons.mpr ⟨gt_of (gt2 (List.mem_of_getElem? (i := 205) rfl)) rfl, List.forall_mem_cons.mpr ⟨gt_of (gt2 (List.mem_of_getElem? (i := 207) rfl)) rfl, fun _ h => absurd h List.not_mem_nil⟩⟩⟩⟩⟩⟩⟩⟩⟩⟩⟩⟩⟩⟩⟩⟩
theorem ptX11 : PT TX11 16 tyX11 := ⟨tyX11_ok, nmX11⟩
set_option maxRecDepth 100000 in
theorem inX12 : ∀ w ∈ u_ws RX12 TX12 68, w ∈ gtbl := List.forall_mem_cons.mpr ⟨gt_of (gt5 (List.mem_of_getElem? (i := 100) rfl)) rfl, List.forall_mem_cons.mpr ⟨gt_of (gt5 (List.mem_of_getElem? (i := 102) rfl)) rfl, List.forall_mem_cons.mpr ⟨gt_of (gt5 (List.mem_of_getElem? (i := 104) rfl)) rfl, List.forall_mem_cons.mpr ⟨gt_of (gt5 (List.mem_of_getElem? (i := 106) rfl)) rfl, List.forall_mem_cons.mpr ⟨gt_of (gt5 (List.mem_of_getElem? (i := 108) rfl)) rfl, List.forall_mem_cons.mpr ⟨gt_of (gt5 (List.mem_of_getElem? (i := 110) rfl)) rfl, List.forall_mem_cons.mpr ⟨gt_of (gt5 (List.mem_of_getElem? (i := 112) rfl)) rfl, List.forall_mem_cons.mpr ⟨gt_of (gt5 (List.mem_of_getElem? (i := 114) rfl)) rfl, List.forall_mem_cons.mpr ⟨gt_of (gt5 (List.mem_of_getElem? (i := 116) rfl)) rfl, List.forall_mem_cons.mpr ⟨gt_of (gt5 (List.mem_of_getElem? (i := 118) rfl)) rfl, List.forall_mem_cons.mpr ⟨gt_of (gt5 (List.mem_of_getElem? (i := 120) rfl)) rfl, List.forall_mem_cons.mpr ⟨gt_of (gt5 (List.mem_of_getElem? (i := 122) rfl)) rfl, List.forall_mem_cons.mpr ⟨gt_of (gt5 (List.mem_of_getElem? (i := 124) rfl)) rfl, List.forall_mem_cons.mpr ⟨gt_of (gt5 (List.mem_of_getElem? (i := 126) rfl)) rfl, List.forall_mem_cons.mpr ⟨gt_of (gt5 (List.mem_of_getElem? (i := 128) rfl)) rfl, List.forall_mem_cons.mpr ⟨gt_of (gt5 (List.mem_of_getElem? (i := 130) rfl)) rfl, List.forall_mem_cons.mpr ⟨gt_of (gt5 (List.mem_of_getElem? (i := 132) rfl)) rfl, List.forall_mem_cons.mpr ⟨gt_of (gt5 (List.mem_of_getElem? (i := 134) rfl)) rfl, List.forall_mem_cons.mpr ⟨gt_of (gt5 (List.mem_of_getElem? (i := 136) rfl)) rfl, List.forall_mem_cons.mpr ⟨gt_of (gt5 (List.mem_of_getElem? (i := 138) rfl)) rfl, List.forall_mem_cons.mpr ⟨gt_of (gt5 (List.mem_of_getElem? (i := 140) rfl)) rfl, List.forall_mem_cons.mpr ⟨gt_of (gt5 (List.mem_of_getElem? (i := 142) rfl)) rfl, List.forall_mem_cons.mpr ⟨gt_of (gt5 (List.mem_of_getElem? (i := 144) rfl)) rfl, List.forall_mem_cons.mpr ⟨gt_of (gt5 (List.mem_of_getElem? (i := 146) rfl)) rfl, List.forall_mem_cons.mpr ⟨gt_of (gt5 (List.mem_of_getElem? (i := 148) rfl)) rfl, List.forall_mem_cons.mpr ⟨gt_of (gt5 (List.mem_of_getElem? (i := 150) rfl)) rfl, List.forall_mem_cons.mpr ⟨gt_of (gt5 (List.mem_of_getElem? (i := 152) rfl)) rfl, List.forall_mem_cons.mpr ⟨gt_of (gt5 (List.mem_of_getElem? (i := 154) rfl)) rfl, List.forall_mem_cons.mpr ⟨gt_of (gt5 (List.mem_of_getElem? (i := 156) rfl)) rfl, List.forall_mem_cons.mpr ⟨gt_of (gt5 (List.mem_of_getElem? (i := 158) rfl)) rfl, List.forall_mem_cons.mpr ⟨gt_of (gt5 (List.mem_of_getElem? (i := 160) rfl)) rfl, List.forall_mem_cons.mpr ⟨gt_of (gt5 (List.mem_of_getElem? (i := 162) rfl)) rfl, List.forall_mem_cons.mpr ⟨gt_of (gt5 (List.mem_of_getElem? (i := 164) rfl)) rfl, List.forall_mem_cons.mpr ⟨gt_of (gt5 (List.mem_of_getElem? (i := 166) rfl)) rfl, List.forall_mem_cons.mpr ⟨gt_of (gt5 (List.mem_of_getElem? (i := 168) rfl)) rfl, List.forall_mem_cons.mpr ⟨gt_of (gt5 (List.mem_of_getElem? (i := 170) rfl)) rfl, List.forall_mem_cons.mpr ⟨gt_of (gt5 (List.mem_of_getElem? (i := 172) rfl)) rfl, List.forall_mem_cons.mpr ⟨gt_of (gt5 (List.mem_of_getElem? (i := 174) rfl)) rfl, List.forall_mem_cons.mpr ⟨gt_of (gt5 (List.mem_of_getElem? (i := 176) rfl)) rfl, List.forall_mem_cons.mpr ⟨gt_of (gt5 (List.mem_of_getElem? (i := 178) rfl)) rfl, List.forall_mem_cons.mpr ⟨gt_of (gt5 (List.mem_of_getElem? (i := 180) rfl)) rfl, List.forall_mem_cons.mpr ⟨gt_of (gt5 (List.mem_of_getElem? (i := 182) rfl)) rfl, List.forall_mem_cons.mpr ⟨gt_of (gt5 (List.mem_of_getElem? (i := 184) rfl)) rfl, List.forall_mem_cons.mpr ⟨gt_of (gt5 (List.mem_of_getElem? (i := 186) rfl)) rfl, List.forall_mem_cons.mpr ⟨gt_of (gt5 (List.mem_of_getElem? (i := 188) rfl)) rfl, List.forall_mem_cons.mpr ⟨gt_of (gt5 (List.mem_of_getElem? (i := 190) rfl)) rfl, List.forall_mem_cons.mpr ⟨gt_of (gt5 (List.mem_of_getElem? (i := 192) rfl)) rfl, List.forall_mem_cons.mpr ⟨gt_of (gt5 (List.mem_of_getElem? (i := 194) rfl)) rfl, List.forall_mem_cons.mpr ⟨gt_of (gt5 (List.mem_of_getElem? (i := 196) rfl)) rfl, List.forall_mem_cons.mpr ⟨gt_of (gt5 (List.mem_of_getElem? (i := 198) rfl)) rfl, List.forall_mem_cons.mpr ⟨gt_of (gt5 (List.mem_of_getElem? (i := 200) rfl)) rfl, List.forall_mem_cons.mpr ⟨gt_of (gt5 (List.mem_of_getElem? (i := 202) rfl)) rfl, List.forall_mem_cons.mpr ⟨gt_of (gt5 (List.mem_of_getElem? (i := 204) rfl)) rfl, List.forall_mem_cons.mpr ⟨gt_of (gt5 (List.mem_of_getElem? (i := 206) rfl)) rfl, List.forall_mem_cons.mpr ⟨gt_of (gt5 (List.mem_of_getElem? (i := 208) rfl)) rfl, List.forall_mem_cons.mpr ⟨gt_of (gt5 (List.mem_of_getElem? (i := 210) rfl)) rfl, List.forall_mem_cons.mpr ⟨gt_of (gt5 (List.mem_of_getElem? (i := 212) rfl)) rfl, List.forall_mem_cons.mpr ⟨gt_of (gt5 (List.mem_of_getElem? (i := 214) rfl)) rfl, List.forall_mem_cons.mpr ⟨gt_of (gt5 (List.mem_of_getElem? (i := 216) rfl)) rfl, List.forall_mem_cons.mpr ⟨gt_of (gt5 (List.mem_of_getElem? (i := 218) rfl)) rfl, List.forall_mem_cons.mpr ⟨gt_of (gt5 (List.mem_of_getElem? (i := 220) rfl)) rfl, List.forall_mem_cons.mpr ⟨gt_of (gt5 (List.mem_of_getElem? (i := 222) rfl)) rfl, List.forall_mem_cons.mpr ⟨gt_of (gt5 (List.mem_of_getElem? (i := 224) rfl)) rfl, List.forall_mem_cons.mpr ⟨gt_of (gt5 (List.mem_of_getElem? (i := 226) rfl)) rfl, List.forall_mem_cons.mpr ⟨gt_of (gt5 (List.mem_of_getElem? (i := 228) rfl)) rfl, List.forall_mem_cons.mpr ⟨gt_of (gt5 (List.mem_of_getElem? (i := 230) rfl)) rfl, List.forall_mem_cons.mpr ⟨gt_of (gt5 (List.mem_of_getElem? (i := 232) rfl)) rfl, List.forall_mem_cons.mpr ⟨gt_of (gt5 (List.mem_of_getElem? (i := 234) rfl)) rfl, fun _ h => absurd h List.not_mem_nil⟩⟩⟩⟩⟩⟩⟩⟩⟩⟩⟩⟩⟩⟩⟩⟩⟩⟩⟩⟩⟩⟩⟩⟩⟩⟩⟩⟩⟩⟩⟩⟩⟩⟩⟩⟩⟩⟩⟩⟩⟩⟩⟩⟩⟩⟩⟩⟩⟩⟩⟩⟩⟩⟩⟩⟩⟩⟩⟩⟩⟩⟩⟩⟩⟩⟩⟩⟩
theorem ptX12 : PT TX12 68 tyX12 := ⟨tyX12_ok, nmX12⟩
theorem fl_X9_11 : FL RX9 11 9 0 RX9 TX9 5 := ⟨rfl, by decide, inX9, gt_of (gt1 (List.mem_of_getElem? (i := 32) rfl)) rfl⟩
theorem fl_X9_15 : FL RX9 15 9 1 RX9 TX9 5 := ⟨rfl, by decide, inX9, gt_of (gt1 (List.mem_of_getElem? (i := 33) rfl)) rfl⟩
theorem fl_X11_131 : FL RX11 131 9 1 RX9 TX9 5 := ⟨rfl, by decide, inX9, gt_of (gt1 (List.mem_of_getElem? (i := 34) rfl)) rfl⟩
theorem fl_X9_27 : FL RX9 27 9 2 RX9 TX9 5 := ⟨rfl, by decide, inX9, gt_of (gt1 (List.mem_of_getElem? (i := 35) rfl)) rfl⟩
theorem fl_X9_30 : FL RX9 30 9 3 RX9 TX9 5 := ⟨rfl, by decide, inX9, gt_of (gt1 (List.mem_of_getElem? (i := 36) rfl)) rfl⟩
theorem fl_X11_148 : FL RX11 148 9 4 RX9 TX9 5 := ⟨rfl, by decide, inX9, gt_of (gt1 (List.mem_of_getElem? (i := 37) rfl)) rfl⟩
theorem fl_X9_33 : FL RX9 33 9 4 RX9 TX9 5 := ⟨rfl, by decide, inX9, gt_of (gt1 (List.mem_of_getElem? (i := 38) rfl)) rfl⟩
theorem fl_X10_9 : FL RX10 9 10 0 RX10 TX10 4 := ⟨rfl, by decide, inX10, gt_of (gt1 (List.mem_of_getElem? (i := 60) rfl)) rfl⟩
theorem fl_X0_137 : FL RX0 137 10 0 RX10 TX10 4 := ⟨rfl, by decide, inX10, gt_of (gt1 (List.mem_of_getElem? (i := 61) rfl)) rfl⟩
theorem fl_X11_307 : FL RX11 307 10 0 RX10 TX10 4 := ⟨rfl, by decide, inX10, gt_of (gt1 (List.mem_of_getElem? (i := 62) rfl)) rfl⟩
theorem fl_X10_15 : FL RX10 15 10 1 RX10 TX10 4 := ⟨rfl, by decide, inX10, gt_of (gt1 (List.mem_of_getElem? (i := 63) rfl)) rfl⟩
theorem fl_X8_33 : FL RX8 33 10 1 RX10 TX10 4 := ⟨rfl, by decide, inX10, gt_of (gt1 (List.mem_of_getElem? (i := 64) rfl)) rfl⟩
theorem fl_X3_63 : FL RX3 63 10 1 RX10 TX10 4 := ⟨rfl, by decide, inX10, gt_of (gt1 (List.mem_of_getElem? (i := 65) rfl)) rfl⟩
theorem fl_X2_54 : FL RX2 54 10 1 RX10 TX10 4 := ⟨rfl, by decide, inX10, gt_of (gt1 (List.mem_of_getElem? (i := 66) rfl)) rfl⟩
theorem fl_X0_129 : FL RX0 129 10 1 RX10 TX10 4 := ⟨rfl, by decide, inX10, gt_of (gt1 (List.mem_of_getElem? (i := 67) rfl)) rfl⟩
theorem fl_X11_304 : FL RX11 304 10 1 RX10 TX10 4 := ⟨rfl, by decide, inX10, gt_of (gt1 (List.mem_of_getElem? (i := 68) rfl)) rfl⟩
theorem fl_X10_18 : FL RX10 18 10 2 RX10 TX10 4 := ⟨rfl, by decide, inX10, gt_of (gt1 (List.mem_of_getElem? (i := 69) rfl)) rfl⟩
theorem fl_X8_44 : FL RX8 44 10 2 RX10 TX10 4 := ⟨rfl, by decide, inX10, gt_of (gt1 (List.mem_of_getElem? (i := 70) rfl)) rfl⟩
theorem fl_X5_46 : FL RX5 46 10 2 RX10 TX10 4 := ⟨rfl, by decide, inX10, gt_of (gt1 (List.mem_of_getElem? (i := 71) rfl)) rfl⟩
theorem fl_X3_72 : FL RX3 72 10 2 RX10 TX10 4 := ⟨rfl, by decide, inX10, gt_of (gt1 (List.mem_of_getElem? (i := 72) rfl)) rfl⟩
theorem fl_X11_157 : FL RX11 157 10 2 RX10 TX10 4 := ⟨rfl, by decide, inX10, gt_of (gt1 (List.mem_of_getElem? (i := 73) rfl)) rfl⟩
theorem fl_X10_27 : FL RX10 27 10 3 RX10 TX10 4 := ⟨rfl, by decide, inX10, gt_of (gt1 (List.mem_of_getElem? (i := 74) rfl)) rfl⟩
theorem fl_X0_140 : FL RX0 140 10 3 RX10 TX10 4 := ⟨rfl, by decide, inX10, gt_of (gt1 (List.mem_of_getElem? (i := 75) rfl)) rfl⟩
theorem fl_X4_9 : FL RX4 9 4 0 RX4 TX4 7 := ⟨rfl, by decide, inX4, gt_of (gt1 (List.mem_of_getElem? (i := 93) rfl)) rfl⟩
theorem fl_X0_97 : FL RX0 97 4 0 RX4 TX4 7 := ⟨rfl, by decide, inX4, gt_of (gt1 (List.mem_of_getElem? (i := 94) rfl)) rfl⟩
theorem fl_X4_15 : FL RX4 15 4 1 RX4 TX4 7 := ⟨rfl, by decide, inX4, gt_of (gt1 (List.mem_of_getElem? (i := 95) rfl)) rfl⟩
theorem fl_X0_103 : FL RX0 103 4 1 RX4 TX4 7 := ⟨rfl, by decide, inX4, gt_of (gt1 (List.mem_of_getElem? (i := 96) rfl)) rfl⟩
theorem fl_X4_18 : FL RX4 18 4 2 RX4 TX4 7 := ⟨rfl, by decide, inX4, gt_of (gt1 (List.mem_of_getElem? (i := 97) rfl)) rfl⟩
theorem fl_X0_113 : FL RX0 113 4 2 RX4 TX4 7 := ⟨rfl, by decide, inX4, gt_of (gt1 (List.mem_of_getElem? (i := 98) rfl)) rfl⟩
theorem fl_X4_21 : FL RX4 21 4 3 RX4 TX4 7 := ⟨rfl, by decide, inX4, gt_of (gt1 (List.mem_of_getElem? (i := 99) rfl)) rfl⟩
theorem fl_X0_100 : FL RX0 100 4 3 RX4 TX4 7 := ⟨rfl, by decide, inX4, gt_of (gt1 (List.mem_of_getElem? (i := 100) rfl)) rfl⟩
theorem fl_X4_24 : FL RX4 24 4 4 RX4 TX4 7 := ⟨rfl, by decide, inX4, gt_of (gt1 (List.mem_of_getElem? (i := 101) rfl)) rfl⟩
theorem fl_X0_110 : FL RX0 110 4 4 RX4 TX4 7 := ⟨rfl, by decide, inX4, gt_of (gt1 (List.mem_of_getElem? (i := 102) rfl)) rfl⟩
theorem fl_X4_27 : FL RX4 27 4 5 RX4 TX4 7 := ⟨rfl, by decide, inX4, gt_of (gt1 (List.mem_of_getElem? (i := 103) rfl)) rfl⟩
theorem fl_X0_48 : FL RX0 48 4 5 RX4 TX4 7 := ⟨rfl, by decide, inX4, gt_of (gt1 (List.mem_of_getElem? (i := 104) rfl)) rfl⟩
theorem fl_X4_31 : FL RX4 31 4 6 RX4 TX4 7 := ⟨rfl, by decide, inX4, gt_of (gt1 (List.mem_of_getElem? (i := 105) rfl)) rfl⟩
theorem fl_X11_151 : FL RX11 151 4 6 RX4 TX4 7 := ⟨rfl, by decide, inX4, gt_of (gt1 (List.mem_of_getElem? (i := 106) rfl)) rfl⟩
theorem fl_X6_9 : FL RX6 9 6 0 RX6 TX6 7 := ⟨rfl, by decide, inX6, gt_of (gt1 (List.mem_of_getElem? (i := 128) rfl)) rfl⟩
theorem fl_X6_15 : FL RX6 15 6 1 RX6 TX6 7 := ⟨rfl, by decide, inX6, gt_of (gt1 (List.mem_of_getElem? (i := 129) rfl)) rfl⟩
theorem fl_X7_63 : FL RX7 63 6 1 RX6 TX6 7 := ⟨rfl, by decide, inX6, gt_of (gt1 (List.mem_of_getElem? (i := 130) rfl)) rfl⟩
theorem fl_X6_21 : FL RX6 21 6 2 RX6 TX6 7 := ⟨rfl, by decide, inX6, gt_of (gt1 (List.mem_of_getElem? (i := 131) rfl)) rfl⟩
theorem fl_X7_19 : FL RX7 19 6 2 RX6 TX6 7 := ⟨rfl, by decide, inX6, gt_of (gt1 (List.mem_of_getElem? (i := 132) rfl)) rfl⟩
theorem fl_X6_18 : FL RX6 18 6 3 RX6 TX6 7 := ⟨rfl, by decide, inX6, gt_of (gt1 (List.mem_of_getElem? (i := 133) rfl)) rfl⟩
theorem fl_X6_25 : FL RX6 25 6 4 RX6 TX6 7 := ⟨rfl, by decide, inX6, gt_of (gt1 (List.mem_of_getElem? (i := 134) rfl)) rfl⟩
theorem fl_X6_28 : FL RX6 28 6 5 RX6 TX6 7 := ⟨rfl, by decide, inX6, gt_of (gt1 (List.mem_of_getElem? (i := 135) rfl)) rfl⟩
theorem fl_X6_32 : FL RX6 32 6 6 RX6 TX6 7 := ⟨rfl, by decide, inX6, gt_of (gt1 (List.mem_of_getElem? (i := 136) rfl)) rfl⟩
theorem fl_X7_9 : FL RX7 9 7 0 RX7 TX7 2 := ⟨rfl, by decide, inX7, gt_of (gt1 (List.mem_of_getElem? (i := 158) rfl)) rfl⟩
theorem fl_X7_15 : FL RX7 15 7 1 RX7 TX7 2 := ⟨rfl, by decide, inX7, gt_of (gt1 (List.mem_of_getElem? (i := 159) rfl)) rfl⟩
theorem fl_X0_21 : FL RX0 21 0 0 RX0 TX0 15 := ⟨rfl, by decide, inX0, gt_of (gt1 (List.mem_of_getElem? (i := 171) rfl)) rfl⟩
theorem fl_X0_9 : FL RX0 9 0 1 RX0 TX0 15 := ⟨rfl, by decide, inX0, gt_of (gt1 (List.mem_of_getElem? (i := 172) rfl)) rfl⟩
theorem fl_X0_15 : FL RX0 15 0 2 RX0 TX0 15 := ⟨rfl, by decide, inX0, gt_of (gt1 (List.mem_of_getElem? (i := 173) rfl)) rfl⟩
theorem fl_X11_188 : FL RX11 188 0 2 RX0 TX0 15 := ⟨rfl, by decide, inX0, gt_of (gt1 (List.mem_of_getElem? (i := 174) rfl)) rfl⟩
theorem fl_X3_105 : FL RX3 105 0 2 RX0 TX0 15 := ⟨rfl, by decide, inX0, gt_of (gt1 (List.mem_of_getElem? (i := 175) rfl)) rfl⟩
theorem fl_X0_29 : FL RX0 29 0 3 RX0 TX0 15 := ⟨rfl, by decide, inX0, gt_of (gt1 (List.mem_of_getElem? (i := 176) rfl)) rfl⟩
theorem fl_X11_175 : FL RX11 175 0 3 RX0 TX0 15 := ⟨rfl, by decide, inX0, gt_of (gt1 (List.mem_of_getElem? (i := 177) rfl)) rfl⟩
theorem fl_X0_33 : FL RX0 33 0 4 RX0 TX0 15 := ⟨rfl, by decide, inX0, gt_of (gt1 (List.mem_of_getElem? (i := 178) rfl)) rfl⟩
theorem fl_X11_178 : FL RX11 178 0 4 RX0 TX0 15 := ⟨rfl, by decide, inX0, gt_of (gt1 (List.mem_of_getElem? (i := 179) rfl)) rfl⟩
theorem fl_X0_36 : FL RX0 36 0 5 RX0 TX0 15 := ⟨rfl, by decide, inX0, gt_of (gt1 (List.mem_of_getElem? (i := 180) rfl)) rfl⟩
theorem fl_X8_68 : FL RX8 68 0 5 RX0 TX0 15 := ⟨rfl, by decide, inX0, gt_of (gt1 (List.mem_of_getElem? (i := 181) rfl)) rfl⟩
theorem fl_X11_181 : FL RX11 181 0 5 RX0 TX0 15 := ⟨rfl, by decide, inX0, gt_of (gt1 (List.mem_of_getElem? (i := 182) rfl)) rfl⟩
theorem fl_X5_33 : FL RX5 33 0 6 RX0 TX0 15 := ⟨rfl, by decide, inX0, gt_of (gt1 (List.mem_of_getElem? (i := 183) rfl)) rfl⟩
theorem fl_X0_39 : FL RX0 39 0 6 RX0 TX0 15 := ⟨rfl, by decide, inX0, gt_of (gt1 (List.mem_of_getElem? (i := 184) rfl)) rfl⟩
theorem fl_X2_75 : FL RX2 75 0 6 RX0 TX0 15 := ⟨rfl, by decide, inX0, gt_of (gt1 (List.mem_of_getElem? (i := 185) rfl)) rfl⟩
theorem fl_X11_172 : FL RX11 172 0 6 RX0 TX0 15 := ⟨rfl, by decide, inX0, gt_of (gt1 (List.mem_of_getElem? (i := 186) rfl)) rfl⟩
theorem fl_X0_42 : FL RX0 42 0 7 RX0 TX0 15 := ⟨rfl, by decide, inX0, gt_of (gt1 (List.mem_of_getElem? (i := 187) rfl)) rfl⟩
theorem fl_X11_323 : FL RX11 323 0 7 RX0 TX0 15 := ⟨rfl, by decide, inX0, gt_of (gt1 (List.mem_of_getElem? (i := 188) rfl)) rfl⟩
theorem fl_X0_45 : FL RX0 45 0 8 RX0 TX0 15 := ⟨rfl, by decide, inX0, gt_of (gt1 (List.mem_of_getElem? (i := 189) rfl)) rfl⟩
theorem fl_X8_60 : FL RX8 60 0 8 RX0 TX0 15 := ⟨rfl, by decide, inX0, gt_of (gt1 (List.mem_of_getElem? (i := 190) rfl)) rfl⟩
theorem fl_X11_169 : FL RX11 169 0 8 RX0 TX0 15 := ⟨rfl, by decide, inX0, gt_of (gt1 (List.mem_of_getElem? (i := 191) rfl)) rfl⟩
theorem fl_X0_18 : FL RX0 18 0 9 RX0 TX0 15 := ⟨rfl, by decide, inX0, gt_of (gt1 (List.mem_of_getElem? (i := 192) rfl)) rfl⟩
theorem fl_X0_64 : FL RX0 64 0 10 RX0 TX0 15 := ⟨rfl, by decide, inX0, gt_of (gt1 (List.mem_of_getElem? (i := 193) rfl)) rfl⟩
theorem fl_X0_75 : FL RX0 75 0 11 RX0 TX0 15 := ⟨rfl, by decide, inX0, gt_of (gt1 (List.mem_of_getElem? (i := 194) rfl)) rfl⟩
theorem fl_X0_78 : FL RX0 78 0 12 RX0 TX0 15 := ⟨rfl, by decide, inX0, gt_of (gt1 (List.mem_of_getElem? (i := 195) rfl)) rfl⟩
theorem fl_X0_81 : FL RX0 81 0 13 RX0 TX0 15 := ⟨rfl, by decide, inX0, gt_of (gt1 (List.mem_of_getElem? (i := 196) rfl)) rfl⟩
theorem fl_X0_84 : FL RX0 84 0 14 RX0 TX0 15 := ⟨rfl, by decide, inX0, gt_of (gt1 (List.mem_of_getElem? (i := 197) rfl)) rfl⟩
theorem fl_X8_18 : FL RX8 18 8 0 RX8 TX8 6 := ⟨rfl, by decide, inX8, gt_of (gt1 (List.mem_of_getElem? (i := 235) rfl)) rfl⟩
theorem fl_X8_22 : FL RX8 22 8 1 RX8 TX8 6 := ⟨rfl, by decide, inX8, gt_of (gt1 (List.mem_of_getElem? (i := 236) rfl)) rfl⟩
theorem fl_X8_26 : FL RX8 26 8 2 RX8 TX8 6 := ⟨rfl, by decide, inX8, gt_of (gt1 (List.mem_of_getElem? (i := 237) rfl)) rfl⟩
theorem fl_X8_9 : FL RX8 9 8 3 RX8 TX8 6 := ⟨rfl, by decide, inX8, gt_of (gt1 (List.mem_of_getElem? (i := 238) rfl)) rfl⟩
theorem fl_X8_15 : FL RX8 15 8 4 RX8 TX8 6 := ⟨rfl, by decide, inX8, gt_of (gt1 (List.mem_of_getElem? (i := 239) rfl)) rfl⟩
theorem fl_X8_29 : FL RX8 29 8 5 RX8 TX8 6 := ⟨rfl, by decide, inX8, gt_of (gt2 (List.mem_of_getElem? (i := 0) rfl)) rfl⟩
theorem fl_X5_7 : FL RX5 7 5 0 RX5 TX5 6 := ⟨rfl, by decide, inX5, gt_of (gt2 (List.mem_of_getElem? (i := 20) rfl)) rfl⟩
theorem fl_X5_13 : FL RX5 13 5 1 RX5 TX5 6 := ⟨rfl, by decide, inX5, gt_of (gt2 (List.mem_of_getElem? (i := 21) rfl)) rfl⟩
theorem fl_X5_17 : FL RX5 17 5 2 RX5 TX5 6 := ⟨rfl, by decide, inX5, gt_of (gt2 (List.mem_of_getElem? (i := 22) rfl)) rfl⟩
theorem fl_X5_20 : FL RX5 20 5 3 RX5 TX5 6 := ⟨rfl, by decide, inX5, gt_of (gt2 (List.mem_of_getElem? (i := 23) rfl)) rfl⟩
theorem fl_X11_221 : FL RX11 221 5 3 RX5 TX5 6 := ⟨rfl, by decide, inX5, gt_of (gt2 (List.mem_of_getElem? (i := 24) rfl)) rfl⟩
theorem fl_X5_43 : FL RX5 43 5 4 RX5 TX5 6 := ⟨rfl, by decide, inX5, gt_of (gt2 (List.mem_of_getElem? (i := 25) rfl)) rfl⟩
theorem fl_X11_224 : FL RX11 224 5 4 RX5 TX5 6 := ⟨rfl, by decide, inX5, gt_of (gt2 (List.mem_of_getElem? (i := 26) rfl)) rfl⟩
theorem fl_X5_36 : FL RX5 36 5 5 RX5 TX5 6 := ⟨rfl, by decide, inX5, gt_of (gt2 (List.mem_of_getElem? (i := 27) rfl)) rfl⟩
theorem fl_X11_227 : FL RX11 227 5 5 RX5 TX5 6 := ⟨rfl, by decide, inX5, gt_of (gt2 (List.mem_of_getElem? (i := 28) rfl)) rfl⟩
theorem fl_X3_39 : FL RX3 39 3 0 RX3 TX3 12 := ⟨rfl, by decide, inX3, gt_of (gt2 (List.mem_of_getElem? (i := 51) rfl)) rfl⟩
theorem fl_X3_43 : FL RX3 43 3 1 RX3 TX3 12 := ⟨rfl, by decide, inX3, gt_of (gt2 (List.mem_of_getElem? (i := 52) rfl)) rfl⟩
theorem fl_X3_9 : FL RX3 9 3 2 RX3 TX3 12 := ⟨rfl, by decide, inX3, gt_of (gt2 (List.mem_of_getElem? (i := 53) rfl)) rfl⟩
theorem fl_X11_228 : FL RX11 228 3 2 RX3 TX3 12 := ⟨rfl, by decide, inX3, gt_of (gt2 (List.mem_of_getElem? (i := 54) rfl)) rfl⟩
theorem fl_X3_15 : FL RX3 15 3 3 RX3 TX3 12 := ⟨rfl, by decide, inX3, gt_of (gt2 (List.mem_of_getElem? (i := 55) rfl)) rfl⟩
theorem fl_X11_241 : FL RX11 241 3 3 RX3 TX3 12 := ⟨rfl, by decide, inX3, gt_of (gt2 (List.mem_of_getElem? (i := 56) rfl)) rfl⟩
theorem fl_X3_18 : FL RX3 18 3 4 RX3 TX3 12 := ⟨rfl, by decide, inX3, gt_of (gt2 (List.mem_of_getElem? (i := 57) rfl)) rfl⟩
theorem fl_X3_21 : FL RX3 21 3 5 RX3 TX3 12 := ⟨rfl, by decide, inX3, gt_of (gt2 (List.mem_of_getElem? (i := 58) rfl)) rfl⟩
theorem fl_X3_24 : FL RX3 24 3 6 RX3 TX3 12 := ⟨rfl, by decide, inX3, gt_of (gt2 (List.mem_of_getElem? (i := 59) rfl)) rfl⟩
theorem fl_X3_27 : FL RX3 27 3 7 RX3 TX3 12 := ⟨rfl, by decide, inX3, gt_of (gt2 (List.mem_of_getElem? (i := 60) rfl)) rfl⟩
theorem fl_X3_30 : FL RX3 30 3 8 RX3 TX3 12 := ⟨rfl, by decide, inX3, gt_of (gt2 (List.mem_of_getElem? (i := 61) rfl)) rfl⟩
theorem fl_X3_33 : FL RX3 33 3 9 RX3 TX3 12 := ⟨rfl, by decide, inX3, gt_of (gt2 (List.mem_of_getElem? (i := 62) rfl)) rfl⟩
theorem fl_X3_36 : FL RX3 36 3 10 RX3 TX3 12 := ⟨rfl, by decide, inX3, gt_of (gt2 (List.mem_of_getElem? (i := 63) rfl)) rfl⟩
theorem fl_X3_79 : FL RX3 79 3 11 RX3 TX3 12 := ⟨rfl, by decide, inX3, gt_of (gt2 (List.mem_of_getElem? (i := 64) rfl)) rfl⟩
theorem fl_X2_36 : FL RX2 36 2 0 RX2 TX2 11 := ⟨rfl, by decide, inX2, gt_of (gt2 (List.mem_of_getElem? (i := 96) rfl)) rfl⟩
theorem fl_X2_40 : FL RX2 40 2 1 RX2 TX2 11 := ⟨rfl, by decide, inX2, gt_of (gt2 (List.mem_of_getElem? (i := 97) rfl)) rfl⟩
theorem fl_X2_9 : FL RX2 9 2 2 RX2 TX2 11 := ⟨rfl, by decide, inX2, gt_of (gt2 (List.mem_of_getElem? (i := 98) rfl)) rfl⟩
theorem fl_X11_248 : FL RX11 248 2 2 RX2 TX2 11 := ⟨rfl, by decide, inX2, gt_of (gt2 (List.mem_of_getElem? (i := 99) rfl)) rfl⟩
theorem fl_X2_15 : FL RX2 15 2 3 RX2 TX2 11 := ⟨rfl, by decide, inX2, gt_of (gt2 (List.mem_of_getElem? (i := 100) rfl)) rfl⟩
theorem fl_X11_270 : FL RX11 270 2 3 RX2 TX2 11 := ⟨rfl, by decide, inX2, gt_of (gt2 (List.mem_of_getElem? (i := 101) rfl)) rfl⟩
theorem fl_X2_18 : FL RX2 18 2 4 RX2 TX2 11 := ⟨rfl, by decide, inX2, gt_of (gt2 (List.mem_of_getElem? (i := 102) rfl)) rfl⟩
theorem fl_X2_21 : FL RX2 21 2 5 RX2 TX2 11 := ⟨rfl, by decide, inX2, gt_of (gt2 (List.mem_of_getElem? (i := 103) rfl)) rfl⟩
theorem fl_X2_24 : FL RX2 24 2 6 RX2 TX2 11 := ⟨rfl, by decide, inX2, gt_of (gt2 (List.mem_of_getElem? (i := 104) rfl)) rfl⟩
theorem fl_X2_27 : FL RX2 27 2 7 RX2 TX2 11 := ⟨rfl, by decide, inX2, gt_of (gt2 (List.mem_of_getElem? (i := 105) rfl)) rfl⟩
theorem fl_X2_30 : FL RX2 30 2 8 RX2 TX2 11 := ⟨rfl, by decide, inX2, gt_of (gt2 (List.mem_of_getElem? (i := 106) rfl)) rfl⟩
theorem fl_X2_33 : FL RX2 33 2 9 RX2 TX2 11 := ⟨rfl, by decide, inX2, gt_of (gt2 (List.mem_of_getElem? (i := 107) rfl)) rfl⟩
theorem fl_X11_276 : FL RX11 276 2 9 RX2 TX2 11 := ⟨rfl, by decide, inX2, gt_of (gt2 (List.mem_of_getElem? (i := 108) rfl)) rfl⟩
theorem fl_X2_50 : FL RX2 50 2 10 RX2 TX2 11 := ⟨rfl, by decide, inX2, gt_of (gt2 (List.mem_of_getElem? (i := 109) rfl)) rfl⟩
theorem fl_X11_267 : FL RX11 267 2 10 RX2 TX2 11 := ⟨rfl, by decide, inX2, gt_of (gt2 (List.mem_of_getElem? (i := 110) rfl)) rfl⟩
theorem fl_X1_9 : FL RX1 9 1 0 RX1 TX1 5 := ⟨rfl, by decide, inX1, gt_of (gt2 (List.mem_of_getElem? (i := 140) rfl)) rfl⟩
theorem fl_X11_289 : FL RX11 289 1 0 RX1 TX1 5 := ⟨rfl, by decide, inX1, gt_of (gt2 (List.mem_of_getElem? (i := 141) rfl)) rfl⟩
theorem fl_X1_19 : FL RX1 19 1 1 RX1 TX1 5 := ⟨rfl, by decide, inX1, gt_of (gt2 (List.mem_of_getElem? (i := 142) rfl)) rfl⟩
theorem fl_X11_196 : FL RX11 196 1 1 RX1 TX1 5 := ⟨rfl, by decide, inX1, gt_of (gt2 (List.mem_of_getElem? (i := 143) rfl)) rfl⟩
theorem fl_X1_23 : FL RX1 23 1 2 RX1 TX1 5 := ⟨rfl, by decide, inX1, gt_of (gt2 (List.mem_of_getElem? (i := 144) rfl)) rfl⟩
theorem fl_X11_197 : FL RX11 197 1 2 RX1 TX1 5 := ⟨rfl, by decide, inX1, gt_of (gt2 (List.mem_of_getElem? (i := 145) rfl)) rfl⟩
theorem fl_X1_26 : FL RX1 26 1 3 RX1 TX1 5 := ⟨rfl, by decide, inX1, gt_of (gt2 (List.mem_of_getElem? (i := 146) rfl)) rfl⟩
theorem fl_X11_191 : FL RX11 191 1 3 RX1 TX1 5 := ⟨rfl, by decide, inX1, gt_of (gt2 (List.mem_of_getElem? (i := 147) rfl)) rfl⟩
theorem fl_X11_104 : FL RX11 104 1 4 RX1 TX1 5 := ⟨rfl, by decide, inX1, gt_of (gt2 (List.mem_of_getElem? (i := 148) rfl)) rfl⟩
theorem fl_X1_29 : FL RX1 29 1 4 RX1 TX1 5 := ⟨rfl, by decide, inX1, gt_of (gt2 (List.mem_of_getElem? (i := 149) rfl)) rfl⟩
theorem fl_X11_10 : FL RX11 10 11 0 RX11 TX11 16 := ⟨rfl, by decide, inX11, gt_of (gt2 (List.mem_of_getElem? (i := 161) rfl)) rfl⟩
theorem fl_X11_19 : FL RX11 19 11 1 RX11 TX11 16 := ⟨rfl, by decide, inX11, gt_of (gt2 (List.mem_of_getElem? (i := 162) rfl)) rfl⟩
theorem fl_X11_25 : FL RX11 25 11 2 RX11 TX11 16 := ⟨rfl, by decide, inX11, gt_of (gt2 (List.mem_of_getElem? (i := 163) rfl)) rfl⟩
theorem fl_X11_30 : FL RX11 30 11 3 RX11 TX11 16 := ⟨rfl, by decide, inX11, gt_of (gt2 (List.mem_of_getElem? (i := 164) rfl)) rfl⟩
theorem fl_X11_37 : FL RX11 37 11 4 RX11 TX11 16 := ⟨rfl, by decide, inX11, gt_of (gt2 (List.mem_of_getElem? (i := 165) rfl)) rfl⟩
theorem fl_X11_41 : FL RX11 41 11 5 RX11 TX11 16 := ⟨rfl, by decide, inX11, gt_of (gt2 (List.mem_of_getElem? (i := 166) rfl)) rfl⟩
theorem fl_X11_49 : FL RX11 49 11 6 RX11 TX11 16 := ⟨rfl, by decide, inX11, gt_of (gt2 (List.mem_of_getElem? (i := 167) rfl)) rfl⟩
theorem fl_X11_58 : FL RX11 58 11 7 RX11 TX11 16 := ⟨rfl, by decide, inX11, gt_of (gt2 (List.mem_of_getElem? (i := 168) rfl)) rfl⟩
theorem fl_X11_62 : FL RX11 62 11 8 RX11 TX11 16 := ⟨rfl, by decide, inX11, gt_of (gt2 (List.mem_of_getElem? (i := 169) rfl)) rfl⟩
theorem fl_X11_70 : FL RX11 70 11 9 RX11 TX11 16 := ⟨rfl, by decide, inX11, gt_of (gt2 (List.mem_of_getElem? (i := 170) rfl)) rfl⟩
theorem fl_X11_77 : FL RX11 77 11 10 RX11 TX11 16 := ⟨rfl, by decide, inX11, gt_of (gt2 (List.mem_of_getElem? (i := 171) rfl)) rfl⟩
theorem fl_X11_86 : FL RX11 86 11 11 RX11 TX11 16 := ⟨rfl, by decide, inX11, gt_of (gt2 (List.mem_of_getElem? (i := 172) rfl)) rfl⟩
theorem fl_X11_93 : FL RX11 93 11 12 RX11 TX11 16 := ⟨rfl, by decide, inX11, gt_of (gt2 (List.mem_of_getElem? (i := 173) rfl)) rfl⟩
theorem fl_X11_100 : FL RX11 100 11 13 RX11 TX11 16 := ⟨rfl, by decide, inX11, gt_of (gt2 (List.mem_of_getElem? (i := 174) rfl)) rfl⟩
theorem fl_X11_108 : FL RX11 108 11 14 RX11 TX11 16 := ⟨rfl, by decide, inX11, gt_of (gt2 (List.mem_of_getElem? (i := 175) rfl)) rfl⟩
theorem fl_X11_111 : FL RX11 111 11 15 RX11 TX11 16 := ⟨rfl, by decide, inX11, gt_of (gt2 (List.mem_of_getElem? (i := 176) rfl)) rfl⟩
theorem fl_X12_129 : FL RX12 129 12 0 RX12 TX12 68 := ⟨rfl, by decide, inX12, gt_of (gt5 (List.mem_of_getElem? (i := 32) rfl)) rfl⟩
theorem fl_X12_353 : FL RX12 353 12 1 RX12 TX12 68 := ⟨rfl, by decide, inX12, gt_of (gt5 (List.mem_of_getElem? (i := 33) rfl)) rfl⟩
theorem fl_X12_356 : FL RX12 356 12 2 RX12 TX12 68 := ⟨rfl, by decide, inX12, gt_of (gt5 (List.mem_of_getElem? (i := 34) rfl)) rfl⟩
theorem fl_X12_350 : FL RX12 350 12 3 RX12 TX12 68 := ⟨rfl, by decide, inX12, gt_of (gt5 (List.mem_of_getElem? (i := 35) rfl)) rfl⟩
theorem fl_X12_7 : FL RX12 7 12 4 RX12 TX12 68 := ⟨rfl, by decide, inX12, gt_of (gt5 (List.mem_of_getElem? (i := 36) rfl)) rfl⟩
theorem fl_X12_13 : FL RX12 13 12 5 RX12 TX12 68 := ⟨rfl, by decide, inX12, gt_of (gt5 (List.mem_of_getElem? (i := 37) rfl)) rfl⟩
theorem fl_X12_16 : FL RX12 16 12 6 RX12 TX12 68 := ⟨rfl, by decide, inX12, gt_of (gt5 (List.mem_of_getElem? (i := 38) rfl)) rfl⟩
theorem fl_X12_19 : FL RX12 19 12 7 RX12 TX12 68 := ⟨rfl, by decide, inX12, gt_of (gt5 (List.mem_of_getElem? (i := 39) rfl)) rfl⟩
theorem fl_X12_141 : FL RX12 141 12 8 RX12 TX12 68 := ⟨rfl, by decide, inX12, gt_of (gt5 (List.mem_of_getElem? (i := 40) rfl)) rfl⟩
theorem fl_X12_148 : FL RX12 148 12 9 RX12 TX12 68 := ⟨rfl, by decide, inX12, gt_of (gt5 (List.mem_of_getElem? (i := 41) rfl)) rfl⟩
theorem fl_X12_151 : FL RX12 151 12 10 RX12 TX12 68 := ⟨rfl, by decide, inX12, gt_of (gt5 (List.mem_of_getElem? (i := 42) rfl)) rfl⟩
theorem fl_X12_158 : FL RX12 158 12 11 RX12 TX12 68 := ⟨rfl, by decide, inX12, gt_of (gt5 (List.mem_of_getElem? (i := 43) rfl)) rfl⟩
theorem fl_X12_176 : FL RX12 176 12 12 RX12 TX12 68 := ⟨rfl, by decide, inX12, gt_of (gt5 (List.mem_of_getElem? (i := 44) rfl)) rfl⟩
theorem fl_X12_172 : FL RX12 172 12 13 RX12 TX12 68 := ⟨rfl, by decide, inX12, gt_of (gt5 (List.mem_of_getElem? (i := 45) rfl)) rfl⟩
theorem fl_X12_179 : FL RX12 179 12 14 RX12 TX12 68 := ⟨rfl, by decide, inX12, gt_of (gt5 (List.mem_of_getElem? (i := 46) rfl)) rfl⟩
theorem fl_X12_165 : FL RX12 165 12 15 RX12 TX12 68 := ⟨rfl, by decide, inX12, gt_of (gt5 (List.mem_of_getElem? (i := 47) rfl)) rfl⟩
theorem fl_X12_239 : FL RX12 239 12 16 RX12 TX12 68 := ⟨rfl, by decide, inX12, gt_of (gt5 (List.mem_of_getElem? (i := 48) rfl)) rfl⟩
theorem fl_X12_23 : FL RX12 23 12 17 RX12 TX12 68 := ⟨rfl, by decide, inX12, gt_of (gt5 (List.mem_of_getElem? (i := 49) rfl)) rfl⟩
theorem fl_X12_26 : FL RX12 26 12 18 RX12 TX12 68 := ⟨rfl, by decide, inX12, gt_of (gt5 (List.mem_of_getElem? (i := 50) rfl)) rfl⟩
theorem fl_X12_29 : FL RX12 29 12 19 RX12 TX12 68 := ⟨rfl, by decide, inX12, gt_of (gt5 (List.mem_of_getElem? (i := 51) rfl)) rfl⟩
theorem fl_X12_32 : FL RX12 32 12 20 RX12 TX12 68 := ⟨rfl, by decide, inX12, gt_of (gt5 (List.mem_of_getElem? (i := 52) rfl)) rfl⟩
theorem fl_X12_35 : FL RX12 35 12 21 RX12 TX12 68 := ⟨rfl, by decide, inX12, gt_of (gt5 (List.mem_of_getElem? (i := 53) rfl)) rfl⟩
theorem fl_X12_38 : FL RX12 38 12 22 RX12 TX12 68 := ⟨rfl, by decide, inX12, gt_of (gt5 (List.mem_of_getElem? (i := 54) rfl)) rfl⟩
theorem fl_X12_41 : FL RX12 41 12 23 RX12 TX12 68 := ⟨rfl, by decide, inX12, gt_of (gt5 (List.mem_of_getElem? (i := 55) rfl)) rfl⟩
theorem fl_X12_44 : FL RX12 44 12 24 RX12 TX12 68 := ⟨rfl, by decide, inX12, gt_of (gt5 (List.mem_of_getElem? (i := 56) rfl)) rfl⟩
theorem fl_X12_47 : FL RX12 47 12 25 RX12 TX12 68 := ⟨rfl, by decide, inX12, gt_of (gt5 (List.mem_of_getElem? (i := 57) rfl)) rfl⟩
theorem fl_X12_50 : FL RX12 50 12 26 RX12 TX12 68 := ⟨rfl, by decide, inX12, gt_of (gt5 (List.mem_of_getElem? (i := 58) rfl)) rfl⟩
theorem fl_X12_53 : FL RX12 53 12 27 RX12 TX12 68 := ⟨rfl, by decide, inX12, gt_of (gt5 (List.mem_of_getElem? (i := 59) rfl)) rfl⟩
theorem fl_X12_56 : FL RX12 56 12 28 RX12 TX12 68 := ⟨rfl, by decide, inX12, gt_of (gt5 (List.mem_of_getElem? (i := 60) rfl)) rfl⟩
theorem fl_X12_59 : FL RX12 59 12 29 RX12 TX12 68 := ⟨rfl, by decide, inX12, gt_of (gt5 (List.mem_of_getElem? (i := 61) rfl)) rfl⟩
theorem fl_X12_62 : FL RX12 62 12 30 RX12 TX12 68 := ⟨rfl, by decide, inX12, gt_of (gt5 (List.mem_of_getElem? (i := 62) rfl)) rfl⟩
theorem fl_X12_65 : FL RX12 65 12 31 RX12 TX12 68 := ⟨rfl, by decide, inX12, gt_of (gt5 (List.mem_of_getElem? (i := 63) rfl)) rfl⟩
theorem fl_X12_252 : FL RX12 252 12 32 RX12 TX12 68 := ⟨rfl, by decide, inX12, gt_of (gt5 (List.mem_of_getElem? (i := 64) rfl)) rfl⟩
theorem fl_X12_259 : FL RX12 259 12 33 RX12 TX12 68 := ⟨rfl, by decide, inX12, gt_of (gt5 (List.mem_of_getElem? (i := 65) rfl)) rfl⟩
theorem fl_X12_246 : FL RX12 246 12 34 RX12 TX12 68 := ⟨rfl, by decide, inX12, gt_of (gt5 (List.mem_of_getElem? (i := 66) rfl)) rfl⟩
theorem fl_X12_68 : FL RX12 68 12 35 RX12 TX12 68 := ⟨rfl, by decide, inX12, gt_of (gt5 (List.mem_of_getElem? (i := 67) rfl)) rfl⟩
theorem fl_X12_71 : FL RX12 71 12 36 RX12 TX12 68 := ⟨rfl, by decide, inX12, gt_of (gt5 (List.mem_of_getElem? (i := 68) rfl)) rfl⟩
theorem fl_X12_286 : FL RX12 286 12 37 RX12 TX12 68 := ⟨rfl, by decide, inX12, gt_of (gt5 (List.mem_of_getElem? (i := 69) rfl)) rfl⟩
theorem fl_X12_289 : FL RX12 289 12 38 RX12 TX12 68 := ⟨rfl, by decide, inX12, gt_of (gt5 (List.mem_of_getElem? (i := 70) rfl)) rfl⟩
theorem fl_X12_292 : FL RX12 292 12 39 RX12 TX12 68 := ⟨rfl, by decide, inX12, gt_of (gt5 (List.mem_of_getElem? (i := 71) rfl)) rfl⟩
theorem fl_X12_295 : FL RX12 295 12 40 RX12 TX12 68 := ⟨rfl, by decide, inX12, gt_of (gt5 (List.mem_of_getElem? (i := 72) rfl)) rfl⟩
theorem fl_X12_298 : FL RX12 298 12 41 RX12 TX12 68 := ⟨rfl, by decide, inX12, gt_of (gt5 (List.mem_of_getElem? (i := 73) rfl)) rfl⟩
theorem fl_X12_301 : FL RX12 301 12 42 RX12 TX12 68 := ⟨rfl, by decide, inX12, gt_of (gt5 (List.mem_of_getElem? (i := 74) rfl)) rfl⟩
theorem fl_X12_74 : FL RX12 74 12 43 RX12 TX12 68 := ⟨rfl, by decide, inX12, gt_of (gt5 (List.mem_of_getElem? (i := 75) rfl)) rfl⟩
theorem fl_X12_77 : FL RX12 77 12 44 RX12 TX12 68 := ⟨rfl, by decide, inX12, gt_of (gt5 (List.mem_of_getElem? (i := 76) rfl)) rfl⟩
theorem fl_X12_80 : FL RX12 80 12 45 RX12 TX12 68 := ⟨rfl, by decide, inX12, gt_of (gt5 (List.mem_of_getElem? (i := 77) rfl)) rfl⟩
theorem fl_X12_362 : FL RX12 362 12 46 RX12 TX12 68 := ⟨rfl, by decide, inX12, gt_of (gt5 (List.mem_of_getElem? (i := 78) rfl)) rfl⟩
theorem fl_X12_83 : FL RX12 83 12 47 RX12 TX12 68 := ⟨rfl, by decide, inX12, gt_of (gt5 (List.mem_of_getElem? (i := 79) rfl)) rfl⟩
theorem fl_X12_87 : FL RX12 87 12 48 RX12 TX12 68 := ⟨rfl, by decide, inX12, gt_of (gt5 (List.mem_of_getElem? (i := 80) rfl)) rfl⟩
theorem fl_X12_90 : FL RX12 90 12 49 RX12 TX12 68 := ⟨rfl, by decide, inX12, gt_of (gt5 (List.mem_of_getElem? (i := 81) rfl)) rfl⟩
theorem fl_X12_93 : FL RX12 93 12 50 RX12 TX12 68 := ⟨rfl, by decide, inX12, gt_of (gt5 (List.mem_of_getElem? (i := 82) rfl)) rfl⟩
theorem fl_X12_96 : FL RX12 96 12 51 RX12 TX12 68 := ⟨rfl, by decide, inX12, gt_of (gt5 (List.mem_of_getElem? (i := 83) rfl)) rfl⟩
theorem fl_X12_99 : FL RX12 99 12 52 RX12 TX12 68 := ⟨rfl, by decide, inX12, gt_of (gt5 (List.mem_of_getElem? (i := 84) rfl)) rfl⟩
theorem fl_X12_102 : FL RX12 102 12 53 RX12 TX12 68 := ⟨rfl, by decide, inX12, gt_of (gt5 (List.mem_of_getElem? (i := 85) rfl)) rfl⟩
theorem fl_X12_105 : FL RX12 105 12 54 RX12 TX12 68 := ⟨rfl, by decide, inX12, gt_of (gt5 (List.mem_of_getElem? (i := 86) rfl)) rfl⟩
theorem fl_X12_414 : FL RX12 414 12 55 RX12 TX12 68 := ⟨rfl, by decide, inX12, gt_of (gt5 (List.mem_of_getElem? (i := 87) rfl)) rfl⟩
theorem fl_X12_108 : FL RX12 108 12 56 RX12 TX12 68 := ⟨rfl, by decide, inX12, gt_of (gt5 (List.mem_of_getElem? (i := 88) rfl)) rfl⟩
theorem fl_X12_111 : FL RX12 111 12 57 RX12 TX12 68 := ⟨rfl, by decide, inX12, gt_of (gt5 (List.mem_of_getElem? (i := 89) rfl)) rfl⟩
theorem fl_X12_114 : FL RX12 114 12 58 RX12 TX12 68 := ⟨rfl, by decide, inX12, gt_of (gt5 (List.mem_of_getElem? (i := 90) rfl)) rfl⟩
theorem fl_X12_117 : FL RX12 117 12 59 RX12 TX12 68 := ⟨rfl, by decide, inX12, gt_of (gt5 (List.mem_of_getElem? (i := 91) rfl)) rfl⟩
theorem fl_X12_120 : FL RX12 120 12 60 RX12 TX12 68 := ⟨rfl, by decide, inX12, gt_of (gt5 (List.mem_of_getElem? (i := 92) rfl)) rfl⟩
theorem fl_X12_123 : FL RX12 123 12 61 RX12 TX12 68 := ⟨rfl, by decide, inX12, gt_of (gt5 (List.mem_of_getElem? (i := 93) rfl)) rfl⟩
theorem fl_X12_426 : FL RX12 426 12 62 RX12 TX12 68 := ⟨rfl, by decide, inX12, gt_of (gt5 (List.mem_of_getElem? (i := 94) rfl)) rfl⟩
theorem fl_X12_430 : FL RX12 430 12 63 RX12 TX12 68 := ⟨rfl, by decide, inX12, gt_of (gt5 (List.mem_of_getElem? (i := 95) rfl)) rfl⟩
theorem fl_X12_433 : FL RX12 433 12 64 RX12 TX12 68 := ⟨rfl, by decide, inX12, gt_of (gt5 (List.mem_of_getElem? (i := 96) rfl)) rfl⟩
theorem fl_X12_436 : FL RX12 436 12 65 RX12 TX12 68 := ⟨rfl, by decide, inX12, gt_of (gt5 (List.mem_of_getElem? (i := 97) rfl)) rfl⟩
theorem fl_X12_439 : FL RX12 439 12 66 RX12 TX12 68 := ⟨rfl, by decide, inX12, gt_of (gt5 (List.mem_of_getElem? (i := 98) rfl)) rfl⟩
theorem fl_X12_126 : FL RX12 126 12 67 RX12 TX12 68 := ⟨rfl, by decide, inX12, gt_of (gt5 (List.mem_of_getElem? (i := 99) rfl)) rfl⟩
theorem ml_L_9 : Cond.methodLink RL 9 yX11_init ∈ gtbl := gt_of (gt1 (List.mem_of_getElem? (i := 20) rfl)) rfl
theorem ml_X11_1 : Cond.methodLink RX11 1 objectInit ∈ gtbl := gt_of (gt1 (List.mem_of_getElem? (i := 23) rfl)) rfl
theorem ml_X9_3 : Cond.methodLink RX9 3 objectInit ∈ gtbl := gt_of (gt1 (List.mem_of_getElem? (i := 31) rfl)) rfl
theorem ml_X11_18 : Cond.methodLink RX11 18 yX10_init ∈ gtbl := gt_of (gt1 (List.mem_of_getElem? (i := 53) rfl)) rfl
theorem ml_X10_3 : Cond.methodLink RX10 3 objectInit ∈ gtbl := gt_of (gt1 (List.mem_of_getElem? (i := 56) rfl)) rfl
theorem ml_X10_21 : Cond.methodLink RX10 21 yJ7_fill_53178 ∈ gtbl := gt_of (gt1 (List.mem_of_getElem? (i := 57) rfl)) rfl
theorem ml_X4_3 : Cond.methodLink RX4 3 objectInit ∈ gtbl := gt_of (gt1 (List.mem_of_getElem? (i := 92) rfl)) rfl
theorem ml_X6_3 : Cond.methodLink RX6 3 objectInit ∈ gtbl := gt_of (gt1 (List.mem_of_getElem? (i := 127) rfl)) rfl
theorem ml_X11_46 : Cond.methodLink RX11 46 yX7_init ∈ gtbl := gt_of (gt1 (List.mem_of_getElem? (i := 154) rfl)) rfl
theorem ml_X7_3 : Cond.methodLink RX7 3 objectInit ∈ gtbl := gt_of (gt1 (List.mem_of_getElem? (i := 157) rfl)) rfl
theorem ml_X11_55 : Cond.methodLink RX11 55 yX0_init ∈ gtbl := gt_of (gt1 (List.mem_of_getElem? (i := 167) rfl)) rfl
theorem ml_X0_3 : Cond.methodLink RX0 3 objectInit ∈ gtbl := gt_of (gt1 (List.mem_of_getElem? (i := 170) rfl)) rfl
theorem ml_X11_67 : Cond.methodLink RX11 67 yX8_init ∈ gtbl := gt_of (gt1 (List.mem_of_getElem? (i := 231) rfl)) rfl
theorem ml_X8_3 : Cond.methodLink RX8 3 objectInit ∈ gtbl := gt_of (gt1 (List.mem_of_getElem? (i := 234) rfl)) rfl
theorem ml_X11_76 : Cond.methodLink RX11 76 yX5_init ∈ gtbl := gt_of (gt2 (List.mem_of_getElem? (i := 16) rfl)) rfl
theorem ml_X5_1 : Cond.methodLink RX5 1 objectInit ∈ gtbl := gt_of (gt2 (List.mem_of_getElem? (i := 19) rfl)) rfl
theorem ml_X11_83 : Cond.methodLink RX11 83 yX3_init ∈ gtbl := gt_of (gt2 (List.mem_of_getElem? (i := 44) rfl)) rfl
theorem ml_X3_3 : Cond.methodLink RX3 3 objectInit ∈ gtbl := gt_of (gt2 (List.mem_of_getElem? (i := 47) rfl)) rfl
theorem ml_X3_47 : Cond.methodLink RX3 47 yJ9_max_7cf53 ∈ gtbl := gt_of (gt2 (List.mem_of_getElem? (i := 48) rfl)) rfl
theorem ml_X11_92 : Cond.methodLink RX11 92 yX2_init ∈ gtbl := gt_of (gt2 (List.mem_of_getElem? (i := 92) rfl)) rfl
theorem ml_X2_3 : Cond.methodLink RX2 3 objectInit ∈ gtbl := gt_of (gt2 (List.mem_of_getElem? (i := 95) rfl)) rfl
theorem ml_X1_3 : Cond.methodLink RX1 3 objectInit ∈ gtbl := gt_of (gt2 (List.mem_of_getElem? (i := 139) rfl)) rfl
theorem ml_L_13 : Cond.methodLink RL 13 yX11_vat ∈ gtbl := gt_of (gt2 (List.mem_of_getElem? (i := 210) rfl)) rfl
theorem ml_X11_115 : Cond.methodLink RX11 115 yX11_within ∈ gtbl := gt_of (gt2 (List.mem_of_getElem? (i := 214) rfl)) rfl
theorem ml_X11_119 : Cond.methodLink RX11 119 yX10_put ∈ gtbl := gt_of (gt2 (List.mem_of_getElem? (i := 217) rfl)) rfl
theorem ml_L_18 : Cond.methodLink RL 18 yX11_feed ∈ gtbl := gt_of (gt2 (List.mem_of_getElem? (i := 221) rfl)) rfl
theorem ml_X11_123 : Cond.methodLink RX11 123 yX9_hasRoom ∈ gtbl := gt_of (gt2 (List.mem_of_getElem? (i := 225) rfl)) rfl
theorem ml_X11_127 : Cond.methodLink RX11 127 yX9_add ∈ gtbl := gt_of (gt2 (List.mem_of_getElem? (i := 229) rfl)) rfl
theorem ml_L_23 : Cond.methodLink RL 23 yX11_recipe ∈ gtbl := gt_of (gt2 (List.mem_of_getElem? (i := 233) rfl)) rfl
theorem ml_X11_134 : Cond.methodLink RX11 134 yX11_isRecipe ∈ gtbl := gt_of (gt2 (List.mem_of_getElem? (i := 237) rfl)) rfl
theorem ml_X11_138 : Cond.methodLink RX11 138 yX11_hasText ∈ gtbl := gt_of (gt3 (List.mem_of_getElem? (i := 0) rfl)) rfl
theorem ml_X11_141 : Cond.methodLink RX11 141 yX4_read ∈ gtbl := gt_of (gt3 (List.mem_of_getElem? (i := 4) rfl)) rfl
theorem ml_X4_34 : Cond.methodLink RX4 34 yX9_open ∈ gtbl := gt_of (gt3 (List.mem_of_getElem? (i := 8) rfl)) rfl
theorem ml_X4_40 : Cond.methodLink RX4 40 yX4_readActs ∈ gtbl := gt_of (gt3 (List.mem_of_getElem? (i := 12) rfl)) rfl
theorem ml_X4_59 : Cond.methodLink RX4 59 yX4_readAct ∈ gtbl := gt_of (gt3 (List.mem_of_getElem? (i := 16) rfl)) rfl
theorem ml_X4_62 : Cond.methodLink RX4 62 yX9_sign ∈ gtbl := gt_of (gt3 (List.mem_of_getElem? (i := 20) rfl)) rfl
theorem ml_X4_66 : Cond.methodLink RX4 66 yX4_beginsAct ∈ gtbl := gt_of (gt3 (List.mem_of_getElem? (i := 24) rfl)) rfl
theorem ml_X4_70 : Cond.methodLink RX4 70 yX9_refuse ∈ gtbl := gt_of (gt3 (List.mem_of_getElem? (i := 27) rfl)) rfl
theorem ml_X4_73 : Cond.methodLink RX4 73 yX9_skip ∈ gtbl := gt_of (gt3 (List.mem_of_getElem? (i := 31) rfl)) rfl
theorem ml_X4_76 : Cond.methodLink RX4 76 yX4_readSingle ∈ gtbl := gt_of (gt3 (List.mem_of_getElem? (i := 35) rfl)) rfl
theorem ml_X4_92 : Cond.methodLink RX4 92 yX4_readVat ∈ gtbl := gt_of (gt3 (List.mem_of_getElem? (i := 39) rfl)) rfl
theorem ml_X4_88 : Cond.methodLink RX4 88 yX4_add ∈ gtbl := gt_of (gt3 (List.mem_of_getElem? (i := 43) rfl)) rfl
theorem ml_X4_79 : Cond.methodLink RX4 79 yX4_readDouble ∈ gtbl := gt_of (gt3 (List.mem_of_getElem? (i := 47) rfl)) rfl
theorem ml_X4_82 : Cond.methodLink RX4 82 yX4_readWhile ∈ gtbl := gt_of (gt3 (List.mem_of_getElem? (i := 51) rfl)) rfl
theorem ml_X4_102 : Cond.methodLink RX4 102 yX4_readTest ∈ gtbl := gt_of (gt3 (List.mem_of_getElem? (i := 55) rfl)) rfl
theorem ml_X4_96 : Cond.methodLink RX4 96 yX9_canOpen ∈ gtbl := gt_of (gt3 (List.mem_of_getElem? (i := 59) rfl)) rfl
theorem ml_X9_40 : Cond.methodLink RX9 40 yX9_refuse ∈ gtbl := gt_of (gt3 (List.mem_of_getElem? (i := 63) rfl)) rfl
theorem ml_X4_99 : Cond.methodLink RX4 99 yX9_pass ∈ gtbl := gt_of (gt3 (List.mem_of_getElem? (i := 64) rfl)) rfl
theorem ml_X9_36 : Cond.methodLink RX9 36 yX9_sign ∈ gtbl := gt_of (gt3 (List.mem_of_getElem? (i := 68) rfl)) rfl
theorem ml_X4_106 : Cond.methodLink RX4 106 yX4_lead ∈ gtbl := gt_of (gt3 (List.mem_of_getElem? (i := 69) rfl)) rfl
theorem ml_X4_85 : Cond.methodLink RX4 85 yX4_readIf ∈ gtbl := gt_of (gt3 (List.mem_of_getElem? (i := 73) rfl)) rfl
theorem ml_X4_44 : Cond.methodLink RX4 44 yX9_isRead ∈ gtbl := gt_of (gt3 (List.mem_of_getElem? (i := 77) rfl)) rfl
theorem ml_X4_48 : Cond.methodLink RX4 48 yX4_straighten ∈ gtbl := gt_of (gt3 (List.mem_of_getElem? (i := 81) rfl)) rfl
theorem ml_X4_55 : Cond.methodLink RX4 55 yX4_behindJumps ∈ gtbl := gt_of (gt3 (List.mem_of_getElem? (i := 85) rfl)) rfl
theorem ml_X11_145 : Cond.methodLink RX11 145 yX9_clear ∈ gtbl := gt_of (gt3 (List.mem_of_getElem? (i := 89) rfl)) rfl
theorem ml_L_28 : Cond.methodLink RL 28 yX11_spec ∈ gtbl := gt_of (gt3 (List.mem_of_getElem? (i := 93) rfl)) rfl
theorem ml_X11_154 : Cond.methodLink RX11 154 yX7_read ∈ gtbl := gt_of (gt3 (List.mem_of_getElem? (i := 97) rfl)) rfl
theorem ml_X7_25 : Cond.methodLink RX7 25 yX9_open ∈ gtbl := gt_of (gt3 (List.mem_of_getElem? (i := 101) rfl)) rfl
theorem ml_X7_31 : Cond.methodLink RX7 31 yX7_readChoice ∈ gtbl := gt_of (gt3 (List.mem_of_getElem? (i := 102) rfl)) rfl
theorem ml_X7_39 : Cond.methodLink RX7 39 yX7_readPart ∈ gtbl := gt_of (gt3 (List.mem_of_getElem? (i := 106) rfl)) rfl
theorem ml_X7_56 : Cond.methodLink RX7 56 yX7_readPiece ∈ gtbl := gt_of (gt3 (List.mem_of_getElem? (i := 110) rfl)) rfl
theorem ml_X7_42 : Cond.methodLink RX7 42 yX9_sign ∈ gtbl := gt_of (gt3 (List.mem_of_getElem? (i := 114) rfl)) rfl
theorem ml_X7_67 : Cond.methodLink RX7 67 yX9_canOpen ∈ gtbl := gt_of (gt3 (List.mem_of_getElem? (i := 115) rfl)) rfl
theorem ml_X7_53 : Cond.methodLink RX7 53 yX9_skip ∈ gtbl := gt_of (gt3 (List.mem_of_getElem? (i := 116) rfl)) rfl
theorem ml_X7_49 : Cond.methodLink RX7 49 yX6_add ∈ gtbl := gt_of (gt3 (List.mem_of_getElem? (i := 117) rfl)) rfl
theorem ml_X7_70 : Cond.methodLink RX7 70 yX9_pass ∈ gtbl := gt_of (gt3 (List.mem_of_getElem? (i := 121) rfl)) rfl
theorem ml_X7_73 : Cond.methodLink RX7 73 yX7_readComparison ∈ gtbl := gt_of (gt3 (List.mem_of_getElem? (i := 122) rfl)) rfl
theorem ml_X7_76 : Cond.methodLink RX7 76 yX7_readTerms ∈ gtbl := gt_of (gt3 (List.mem_of_getElem? (i := 126) rfl)) rfl
theorem ml_X7_82 : Cond.methodLink RX7 82 yX7_readFactors ∈ gtbl := gt_of (gt3 (List.mem_of_getElem? (i := 130) rfl)) rfl
theorem ml_X7_88 : Cond.methodLink RX7 88 yX7_readFactor ∈ gtbl := gt_of (gt3 (List.mem_of_getElem? (i := 134) rfl)) rfl
theorem ml_X7_94 : Cond.methodLink RX7 94 yX7_readNumber ∈ gtbl := gt_of (gt3 (List.mem_of_getElem? (i := 139) rfl)) rfl
theorem ml_X7_79 : Cond.methodLink RX7 79 yX9_refuse ∈ gtbl := gt_of (gt3 (List.mem_of_getElem? (i := 143) rfl)) rfl
theorem ml_X7_97 : Cond.methodLink RX7 97 yX7_letterOf ∈ gtbl := gt_of (gt3 (List.mem_of_getElem? (i := 144) rfl)) rfl
theorem ml_X7_91 : Cond.methodLink RX7 91 yX7_isProduct ∈ gtbl := gt_of (gt3 (List.mem_of_getElem? (i := 147) rfl)) rfl
theorem ml_X7_85 : Cond.methodLink RX7 85 yX7_isSum ∈ gtbl := gt_of (gt3 (List.mem_of_getElem? (i := 150) rfl)) rfl
theorem ml_X7_46 : Cond.methodLink RX7 46 yX7_lead ∈ gtbl := gt_of (gt3 (List.mem_of_getElem? (i := 153) rfl)) rfl
theorem ml_X7_35 : Cond.methodLink RX7 35 yX9_isRead ∈ gtbl := gt_of (gt3 (List.mem_of_getElem? (i := 157) rfl)) rfl
theorem ml_L_33 : Cond.methodLink RL 33 yX11_run ∈ gtbl := gt_of (gt3 (List.mem_of_getElem? (i := 158) rfl)) rfl
theorem ml_X11_161 : Cond.methodLink RX11 161 yX0_start ∈ gtbl := gt_of (gt3 (List.mem_of_getElem? (i := 162) rfl)) rfl
theorem ml_X11_310 : Cond.methodLink RX11 310 arraycopyName ∈ gtbl := gt_of (gt3 (List.mem_of_getElem? (i := 169) rfl)) rfl
theorem ml_X11_165 : Cond.methodLink RX11 165 yX0_go ∈ gtbl := gt_of (gt3 (List.mem_of_getElem? (i := 172) rfl)) rfl
theorem ml_X0_57 : Cond.methodLink RX0 57 yX0_mark ∈ gtbl := gt_of (gt3 (List.mem_of_getElem? (i := 176) rfl)) rfl
theorem ml_X0_60 : Cond.methodLink RX0 60 yX0_step ∈ gtbl := gt_of (gt3 (List.mem_of_getElem? (i := 180) rfl)) rfl
theorem ml_X0_106 : Cond.methodLink RX0 106 yX0_findsEmpty ∈ gtbl := gt_of (gt3 (List.mem_of_getElem? (i := 185) rfl)) rfl
theorem ml_X0_116 : Cond.methodLink RX0 116 yX0_act ∈ gtbl := gt_of (gt3 (List.mem_of_getElem? (i := 189) rfl)) rfl
theorem ml_X0_123 : Cond.methodLink RX0 123 yX0_dip ∈ gtbl := gt_of (gt3 (List.mem_of_getElem? (i := 193) rfl)) rfl
theorem ml_X0_126 : Cond.methodLink RX0 126 yX0_take ∈ gtbl := gt_of (gt3 (List.mem_of_getElem? (i := 197) rfl)) rfl
theorem ml_X0_134 : Cond.methodLink RX0 134 yJ9_min_7cf53 ∈ gtbl := gt_of (gt3 (List.mem_of_getElem? (i := 201) rfl)) rfl
theorem ml_X0_120 : Cond.methodLink RX0 120 yX0_kindsWork ∈ gtbl := gt_of (gt3 (List.mem_of_getElem? (i := 204) rfl)) rfl
theorem ml_X0_144 : Cond.methodLink RX0 144 yX0_flow ∈ gtbl := gt_of (gt3 (List.mem_of_getElem? (i := 208) rfl)) rfl
theorem ml_X0_67 : Cond.methodLink RX0 67 yX0_isAtMark ∈ gtbl := gt_of (gt3 (List.mem_of_getElem? (i := 212) rfl)) rfl
theorem ml_X0_71 : Cond.methodLink RX0 71 yX0_leap ∈ gtbl := gt_of (gt3 (List.mem_of_getElem? (i := 216) rfl)) rfl
theorem ml_X0_87 : Cond.methodLink RX0 87 yJ9_floorMod_7cf53 ∈ gtbl := gt_of (gt3 (List.mem_of_getElem? (i := 220) rfl)) rfl
theorem ml_X11_184 : Cond.methodLink RX11 184 yX6_holds ∈ gtbl := gt_of (gt3 (List.mem_of_getElem? (i := 223) rfl)) rfl
theorem ml_X6_35 : Cond.methodLink RX6 35 yX6_obey ∈ gtbl := gt_of (gt3 (List.mem_of_getElem? (i := 227) rfl)) rfl
theorem ml_X6_45 : Cond.methodLink RX6 45 yX6_push ∈ gtbl := gt_of (gt3 (List.mem_of_getElem? (i := 231) rfl)) rfl
theorem ml_X6_49 : Cond.methodLink RX6 49 yX0_known ∈ gtbl := gt_of (gt3 (List.mem_of_getElem? (i := 235) rfl)) rfl
theorem ml_X6_55 : Cond.methodLink RX6 55 yX6_pop ∈ gtbl := gt_of (gt3 (List.mem_of_getElem? (i := 239) rfl)) rfl
theorem ml_X6_59 : Cond.methodLink RX6 59 yX6_reckon ∈ gtbl := gt_of (gt4 (List.mem_of_getElem? (i := 3) rfl)) rfl
theorem ml_X6_39 : Cond.methodLink RX6 39 yJ9_max_7cf53 ∈ gtbl := gt_of (gt4 (List.mem_of_getElem? (i := 7) rfl)) rfl
theorem ml_L_38 : Cond.methodLink RL 38 yX11_done ∈ gtbl := gt_of (gt4 (List.mem_of_getElem? (i := 8) rfl)) rfl
theorem ml_X11_192 : Cond.methodLink RX11 192 yX11_copyMeasures ∈ gtbl := gt_of (gt4 (List.mem_of_getElem? (i := 12) rfl)) rfl
theorem ml_L_42 : Cond.methodLink RL 42 yX11_proved ∈ gtbl := gt_of (gt4 (List.mem_of_getElem? (i := 13) rfl)) rfl
theorem ml_X11_198 : Cond.methodLink RX11 198 yX11_isSurvey ∈ gtbl := gt_of (gt4 (List.mem_of_getElem? (i := 17) rfl)) rfl
theorem ml_X11_261 : Cond.methodLink RX11 261 yJ6_bitCount_0f7a4 ∈ gtbl := gt_of (gt4 (List.mem_of_getElem? (i := 20) rfl)) rfl
theorem ml_X11_201 : Cond.methodLink RX11 201 yX8_lay ∈ gtbl := gt_of (gt4 (List.mem_of_getElem? (i := 26) rfl)) rfl
theorem ml_X8_38 : Cond.methodLink RX8 38 yJ9_min_7cf53 ∈ gtbl := gt_of (gt4 (List.mem_of_getElem? (i := 30) rfl)) rfl
theorem ml_X11_205 : Cond.methodLink RX11 205 yX8_unproved ∈ gtbl := gt_of (gt4 (List.mem_of_getElem? (i := 31) rfl)) rfl
theorem ml_X8_47 : Cond.methodLink RX8 47 yX8_follow ∈ gtbl := gt_of (gt4 (List.mem_of_getElem? (i := 35) rfl)) rfl
theorem ml_X8_71 : Cond.methodLink RX8 71 yX0_start ∈ gtbl := gt_of (gt4 (List.mem_of_getElem? (i := 39) rfl)) rfl
theorem ml_X8_75 : Cond.methodLink RX8 75 yX0_go ∈ gtbl := gt_of (gt4 (List.mem_of_getElem? (i := 40) rfl)) rfl
theorem ml_X8_51 : Cond.methodLink RX8 51 yX6_holds ∈ gtbl := gt_of (gt4 (List.mem_of_getElem? (i := 41) rfl)) rfl
theorem ml_X8_57 : Cond.methodLink RX8 57 yX8_goOn ∈ gtbl := gt_of (gt4 (List.mem_of_getElem? (i := 42) rfl)) rfl
theorem ml_L_47 : Cond.methodLink RL 47 yX11_alike ∈ gtbl := gt_of (gt4 (List.mem_of_getElem? (i := 46) rfl)) rfl
theorem ml_X11_209 : Cond.methodLink RX11 209 yX8_unlike ∈ gtbl := gt_of (gt4 (List.mem_of_getElem? (i := 50) rfl)) rfl
theorem ml_X8_65 : Cond.methodLink RX8 65 yX0_hasMeasuresOf ∈ gtbl := gt_of (gt4 (List.mem_of_getElem? (i := 54) rfl)) rfl
theorem ml_L_51 : Cond.methodLink RL 51 yX11_fit ∈ gtbl := gt_of (gt4 (List.mem_of_getElem? (i := 58) rfl)) rfl
theorem ml_X11_213 : Cond.methodLink RX11 213 yX8_coloured ∈ gtbl := gt_of (gt4 (List.mem_of_getElem? (i := 62) rfl)) rfl
theorem ml_L_55 : Cond.methodLink RL 55 yX11_round ∈ gtbl := gt_of (gt4 (List.mem_of_getElem? (i := 66) rfl)) rfl
theorem ml_X11_217 : Cond.methodLink RX11 217 yX5_seek ∈ gtbl := gt_of (gt4 (List.mem_of_getElem? (i := 70) rfl)) rfl
theorem ml_X5_24 : Cond.methodLink RX5 24 yX5_findLength ∈ gtbl := gt_of (gt4 (List.mem_of_getElem? (i := 74) rfl)) rfl
theorem ml_X5_52 : Cond.methodLink RX5 52 yX0_start ∈ gtbl := gt_of (gt4 (List.mem_of_getElem? (i := 78) rfl)) rfl
theorem ml_X5_28 : Cond.methodLink RX5 28 yX0_isOver ∈ gtbl := gt_of (gt4 (List.mem_of_getElem? (i := 80) rfl)) rfl
theorem ml_X5_57 : Cond.methodLink RX5 57 yX0_step ∈ gtbl := gt_of (gt4 (List.mem_of_getElem? (i := 84) rfl)) rfl
theorem ml_X5_61 : Cond.methodLink RX5 61 yX0_standsWith ∈ gtbl := gt_of (gt4 (List.mem_of_getElem? (i := 85) rfl)) rfl
theorem ml_X0_53 : Cond.methodLink RX0 53 yX0_hasMeasuresOf ∈ gtbl := gt_of (gt4 (List.mem_of_getElem? (i := 89) rfl)) rfl
theorem ml_X5_65 : Cond.methodLink RX5 65 yX0_copy ∈ gtbl := gt_of (gt4 (List.mem_of_getElem? (i := 90) rfl)) rfl
theorem ml_X5_39 : Cond.methodLink RX5 39 yX5_findAhead ∈ gtbl := gt_of (gt4 (List.mem_of_getElem? (i := 94) rfl)) rfl
theorem ml_L_59 : Cond.methodLink RL 59 yX11_shortest ∈ gtbl := gt_of (gt4 (List.mem_of_getElem? (i := 98) rfl)) rfl
theorem ml_X11_231 : Cond.methodLink RX11 231 yX9_takeMeasures ∈ gtbl := gt_of (gt4 (List.mem_of_getElem? (i := 102) rfl)) rfl
theorem ml_X9_23 : Cond.methodLink RX9 23 yX9_at ∈ gtbl := gt_of (gt4 (List.mem_of_getElem? (i := 106) rfl)) rfl
theorem ml_X11_235 : Cond.methodLink RX11 235 yX3_canSeek ∈ gtbl := gt_of (gt4 (List.mem_of_getElem? (i := 111) rfl)) rfl
theorem ml_X3_53 : Cond.methodLink RX3 53 yX3_standings ∈ gtbl := gt_of (gt4 (List.mem_of_getElem? (i := 115) rfl)) rfl
theorem ml_X3_57 : Cond.methodLink RX3 57 yX10_hold ∈ gtbl := gt_of (gt4 (List.mem_of_getElem? (i := 119) rfl)) rfl
theorem ml_X11_238 : Cond.methodLink RX11 238 yX3_seek ∈ gtbl := gt_of (gt4 (List.mem_of_getElem? (i := 123) rfl)) rfl
theorem ml_X3_66 : Cond.methodLink RX3 66 yJ7_fill_fda19 ∈ gtbl := gt_of (gt4 (List.mem_of_getElem? (i := 127) rfl)) rfl
theorem ml_J7_13 : Cond.methodLink RJ7 13 yJ7_rangeCheck_23922 ∈ gtbl := gt_of (gt4 (List.mem_of_getElem? (i := 130) rfl)) rfl
theorem ml_X3_75 : Cond.methodLink RX3 75 yX3_indexOf ∈ gtbl := gt_of (gt4 (List.mem_of_getElem? (i := 133) rfl)) rfl
theorem ml_X3_83 : Cond.methodLink RX3 83 yX0_start ∈ gtbl := gt_of (gt4 (List.mem_of_getElem? (i := 137) rfl)) rfl
theorem ml_X3_89 : Cond.methodLink RX3 89 yX3_goFrom ∈ gtbl := gt_of (gt4 (List.mem_of_getElem? (i := 138) rfl)) rfl
theorem ml_X3_97 : Cond.methodLink RX3 97 yX3_unfold ∈ gtbl := gt_of (gt4 (List.mem_of_getElem? (i := 142) rfl)) rfl
theorem ml_X3_101 : Cond.methodLink RX3 101 yX3_isIdle ∈ gtbl := gt_of (gt4 (List.mem_of_getElem? (i := 146) rfl)) rfl
theorem ml_X3_112 : Cond.methodLink RX3 112 yX0_act ∈ gtbl := gt_of (gt4 (List.mem_of_getElem? (i := 151) rfl)) rfl
theorem ml_X3_116 : Cond.methodLink RX3 116 yX0_kindsWork ∈ gtbl := gt_of (gt4 (List.mem_of_getElem? (i := 152) rfl)) rfl
theorem ml_X3_119 : Cond.methodLink RX3 119 yX3_comeTo ∈ gtbl := gt_of (gt4 (List.mem_of_getElem? (i := 153) rfl)) rfl
theorem ml_X3_93 : Cond.methodLink RX3 93 yX3_retrace ∈ gtbl := gt_of (gt4 (List.mem_of_getElem? (i := 158) rfl)) rfl
theorem ml_L_63 : Cond.methodLink RL 63 yX11_slips ∈ gtbl := gt_of (gt4 (List.mem_of_getElem? (i := 162) rfl)) rfl
theorem ml_X11_244 : Cond.methodLink RX11 244 yX11_unfelt ∈ gtbl := gt_of (gt4 (List.mem_of_getElem? (i := 166) rfl)) rfl
theorem ml_X11_319 : Cond.methodLink RX11 319 yX0_isOver ∈ gtbl := gt_of (gt4 (List.mem_of_getElem? (i := 170) rfl)) rfl
theorem ml_X11_326 : Cond.methodLink RX11 326 yX4_maySlip ∈ gtbl := gt_of (gt4 (List.mem_of_getElem? (i := 171) rfl)) rfl
theorem ml_X11_329 : Cond.methodLink RX11 329 yX0_copy ∈ gtbl := gt_of (gt4 (List.mem_of_getElem? (i := 175) rfl)) rfl
theorem ml_X11_332 : Cond.methodLink RX11 332 yX0_step ∈ gtbl := gt_of (gt4 (List.mem_of_getElem? (i := 176) rfl)) rfl
theorem ml_L_67 : Cond.methodLink RL 67 yX11_sum ∈ gtbl := gt_of (gt4 (List.mem_of_getElem? (i := 177) rfl)) rfl
theorem ml_X11_251 : Cond.methodLink RX11 251 yX2_isOfferGood ∈ gtbl := gt_of (gt4 (List.mem_of_getElem? (i := 181) rfl)) rfl
theorem ml_X11_254 : Cond.methodLink RX11 254 yX2_take ∈ gtbl := gt_of (gt4 (List.mem_of_getElem? (i := 185) rfl)) rfl
theorem ml_X2_44 : Cond.methodLink RX2 44 arraycopyName ∈ gtbl := gt_of (gt4 (List.mem_of_getElem? (i := 189) rfl)) rfl
theorem ml_X11_257 : Cond.methodLink RX11 257 yX2_stepsOf ∈ gtbl := gt_of (gt4 (List.mem_of_getElem? (i := 190) rfl)) rfl
theorem ml_X2_59 : Cond.methodLink RX2 59 yJ9_min_7cf53 ∈ gtbl := gt_of (gt4 (List.mem_of_getElem? (i := 194) rfl)) rfl
theorem ml_X2_65 : Cond.methodLink RX2 65 yX0_start ∈ gtbl := gt_of (gt4 (List.mem_of_getElem? (i := 195) rfl)) rfl
theorem ml_X2_71 : Cond.methodLink RX2 71 yX0_go ∈ gtbl := gt_of (gt4 (List.mem_of_getElem? (i := 196) rfl)) rfl
theorem ml_L_71 : Cond.methodLink RL 71 yX11_order ∈ gtbl := gt_of (gt4 (List.mem_of_getElem? (i := 197) rfl)) rfl
theorem ml_X11_273 : Cond.methodLink RX11 273 yX2_weigh ∈ gtbl := gt_of (gt4 (List.mem_of_getElem? (i := 201) rfl)) rfl
theorem ml_X2_77 : Cond.methodLink RX2 77 yX2_firstBest ∈ gtbl := gt_of (gt4 (List.mem_of_getElem? (i := 205) rfl)) rfl
theorem ml_X2_80 : Cond.methodLink RX2 80 yX2_pricesBy ∈ gtbl := gt_of (gt4 (List.mem_of_getElem? (i := 209) rfl)) rfl
theorem ml_X2_83 : Cond.methodLink RX2 83 yJ9_max_7cf53 ∈ gtbl := gt_of (gt4 (List.mem_of_getElem? (i := 213) rfl)) rfl
theorem ml_X11_279 : Cond.methodLink RX11 279 yX2_placed ∈ gtbl := gt_of (gt4 (List.mem_of_getElem? (i := 214) rfl)) rfl
theorem ml_L_75 : Cond.methodLink RL 75 yX11_seed ∈ gtbl := gt_of (gt4 (List.mem_of_getElem? (i := 218) rfl)) rfl
theorem ml_L_80 : Cond.methodLink RL 80 yX11_night ∈ gtbl := gt_of (gt4 (List.mem_of_getElem? (i := 223) rfl)) rfl
theorem ml_X11_285 : Cond.methodLink RX11 285 yX11_pourAtNight ∈ gtbl := gt_of (gt4 (List.mem_of_getElem? (i := 228) rfl)) rfl
theorem ml_L_84 : Cond.methodLink RL 84 yX11_keep ∈ gtbl := gt_of (gt4 (List.mem_of_getElem? (i := 232) rfl)) rfl
theorem ml_X11_290 : Cond.methodLink RX11 290 yX1_copy ∈ gtbl := gt_of (gt4 (List.mem_of_getElem? (i := 236) rfl)) rfl
theorem ml_X11_294 : Cond.methodLink RX11 294 yX10_together ∈ gtbl := gt_of (gt5 (List.mem_of_getElem? (i := 1) rfl)) rfl
theorem ml_L_89 : Cond.methodLink RL 89 yX11_undo ∈ gtbl := gt_of (gt5 (List.mem_of_getElem? (i := 5) rfl)) rfl
theorem ml_X11_297 : Cond.methodLink RX11 297 yX10_hold ∈ gtbl := gt_of (gt5 (List.mem_of_getElem? (i := 9) rfl)) rfl
theorem ml_L_94 : Cond.methodLink RL 94 yX11_check ∈ gtbl := gt_of (gt5 (List.mem_of_getElem? (i := 10) rfl)) rfl
theorem ml_X11_301 : Cond.methodLink RX11 301 yX11_firstWrong ∈ gtbl := gt_of (gt5 (List.mem_of_getElem? (i := 14) rfl)) rfl
theorem ml_X11_316 : Cond.methodLink RX11 316 yX9_number ∈ gtbl := gt_of (gt5 (List.mem_of_getElem? (i := 18) rfl)) rfl
theorem ml_L_98 : Cond.methodLink RL 98 yX11_count ∈ gtbl := gt_of (gt5 (List.mem_of_getElem? (i := 22) rfl)) rfl
theorem ml_L_12 : Cond.methodLink RL 12 yX12_init ∈ gtbl := gt_of (gt5 (List.mem_of_getElem? (i := 28) rfl)) rfl
theorem ml_X12_1 : Cond.methodLink RX12 1 objectInit ∈ gtbl := gt_of (gt5 (List.mem_of_getElem? (i := 31) rfl)) rfl
theorem ml_L_17 : Cond.methodLink RL 17 yX12_vat ∈ gtbl := gt_of (gt5 (List.mem_of_getElem? (i := 238) rfl)) rfl
theorem ml_X12_133 : Cond.methodLink RX12 133 yX12_isVat ∈ gtbl := gt_of (gt6 (List.mem_of_getElem? (i := 2) rfl)) rfl
theorem ml_X12_137 : Cond.methodLink RX12 137 yX12_in ∈ gtbl := gt_of (gt6 (List.mem_of_getElem? (i := 5) rfl)) rfl
theorem ml_L_22 : Cond.methodLink RL 22 yX12_feed ∈ gtbl := gt_of (gt6 (List.mem_of_getElem? (i := 8) rfl)) rfl
theorem ml_X12_144 : Cond.methodLink RX12 144 yX12_types ∈ gtbl := gt_of (gt6 (List.mem_of_getElem? (i := 12) rfl)) rfl
theorem ml_L_32 : Cond.methodLink RL 32 yX12_spec ∈ gtbl := gt_of (gt6 (List.mem_of_getElem? (i := 16) rfl)) rfl
theorem ml_X12_230 : Cond.methodLink RX12 230 yX12_isText ∈ gtbl := gt_of (gt6 (List.mem_of_getElem? (i := 20) rfl)) rfl
theorem ml_X12_233 : Cond.methodLink RX12 233 yX12_begins ∈ gtbl := gt_of (gt6 (List.mem_of_getElem? (i := 24) rfl)) rfl
theorem ml_X12_236 : Cond.methodLink RX12 236 yX12_readsSpec ∈ gtbl := gt_of (gt6 (List.mem_of_getElem? (i := 28) rfl)) rfl
theorem ml_X12_154 : Cond.methodLink RX12 154 yX12_here ∈ gtbl := gt_of (gt6 (List.mem_of_getElem? (i := 32) rfl)) rfl
theorem ml_X12_189 : Cond.methodLink RX12 189 yX12_opens ∈ gtbl := gt_of (gt6 (List.mem_of_getElem? (i := 36) rfl)) rfl
theorem ml_X12_161 : Cond.methodLink RX12 161 yX12_wrongAt ∈ gtbl := gt_of (gt6 (List.mem_of_getElem? (i := 40) rfl)) rfl
theorem ml_X12_218 : Cond.methodLink RX12 218 yX12_readsCompared ∈ gtbl := gt_of (gt6 (List.mem_of_getElem? (i := 45) rfl)) rfl
theorem ml_X12_212 : Cond.methodLink RX12 212 yX12_readsSum ∈ gtbl := gt_of (gt6 (List.mem_of_getElem? (i := 49) rfl)) rfl
theorem ml_X12_199 : Cond.methodLink RX12 199 yX12_readsFactor ∈ gtbl := gt_of (gt6 (List.mem_of_getElem? (i := 53) rfl)) rfl
theorem ml_X12_168 : Cond.methodLink RX12 168 yX12_isDigit ∈ gtbl := gt_of (gt6 (List.mem_of_getElem? (i := 57) rfl)) rfl
theorem ml_X12_192 : Cond.methodLink RX12 192 yX12_readsNumber ∈ gtbl := gt_of (gt6 (List.mem_of_getElem? (i := 61) rfl)) rfl
theorem ml_X12_185 : Cond.methodLink RX12 185 yX12_notes ∈ gtbl := gt_of (gt6 (List.mem_of_getElem? (i := 65) rfl)) rfl
theorem ml_X12_195 : Cond.methodLink RX12 195 yX12_factOf ∈ gtbl := gt_of (gt6 (List.mem_of_getElem? (i := 69) rfl)) rfl
theorem ml_X12_202 : Cond.methodLink RX12 202 yX12_sumSign ∈ gtbl := gt_of (gt6 (List.mem_of_getElem? (i := 72) rfl)) rfl
theorem ml_X12_205 : Cond.methodLink RX12 205 yX12_closesSums ∈ gtbl := gt_of (gt6 (List.mem_of_getElem? (i := 75) rfl)) rfl
theorem ml_X12_182 : Cond.methodLink RX12 182 yX12_top ∈ gtbl := gt_of (gt6 (List.mem_of_getElem? (i := 79) rfl)) rfl
theorem ml_X12_209 : Cond.methodLink RX12 209 yX12_hasOpenSum ∈ gtbl := gt_of (gt6 (List.mem_of_getElem? (i := 83) rfl)) rfl
theorem ml_X12_215 : Cond.methodLink RX12 215 yX12_endsPiece ∈ gtbl := gt_of (gt6 (List.mem_of_getElem? (i := 87) rfl)) rfl
theorem ml_X12_221 : Cond.methodLink RX12 221 yX12_hasOpen ∈ gtbl := gt_of (gt6 (List.mem_of_getElem? (i := 91) rfl)) rfl
theorem ml_X12_224 : Cond.methodLink RX12 224 yX12_lands ∈ gtbl := gt_of (gt6 (List.mem_of_getElem? (i := 95) rfl)) rfl
theorem ml_X12_227 : Cond.methodLink RX12 227 yX12_jumps ∈ gtbl := gt_of (gt6 (List.mem_of_getElem? (i := 99) rfl)) rfl
theorem ml_L_27 : Cond.methodLink RL 27 yX12_recipe ∈ gtbl := gt_of (gt6 (List.mem_of_getElem? (i := 103) rfl)) rfl
theorem ml_X12_283 : Cond.methodLink RX12 283 yX12_readsRecipe ∈ gtbl := gt_of (gt6 (List.mem_of_getElem? (i := 107) rfl)) rfl
theorem ml_X12_271 : Cond.methodLink RX12 271 yX12_readsAct ∈ gtbl := gt_of (gt6 (List.mem_of_getElem? (i := 111) rfl)) rfl
theorem ml_X12_262 : Cond.methodLink RX12 262 yX12_opensActs ∈ gtbl := gt_of (gt6 (List.mem_of_getElem? (i := 115) rfl)) rfl
theorem ml_X12_249 : Cond.methodLink RX12 249 yX12_takesVat ∈ gtbl := gt_of (gt6 (List.mem_of_getElem? (i := 119) rfl)) rfl
theorem ml_X12_255 : Cond.methodLink RX12 255 yX12_puts ∈ gtbl := gt_of (gt6 (List.mem_of_getElem? (i := 123) rfl)) rfl
theorem ml_X12_265 : Cond.methodLink RX12 265 yX12_readsOne ∈ gtbl := gt_of (gt6 (List.mem_of_getElem? (i := 127) rfl)) rfl
theorem ml_X12_268 : Cond.methodLink RX12 268 yX12_readsTwo ∈ gtbl := gt_of (gt6 (List.mem_of_getElem? (i := 131) rfl)) rfl
theorem ml_X12_274 : Cond.methodLink RX12 274 yX12_frameNow ∈ gtbl := gt_of (gt6 (List.mem_of_getElem? (i := 135) rfl)) rfl
theorem ml_X12_277 : Cond.methodLink RX12 277 yX12_closes ∈ gtbl := gt_of (gt6 (List.mem_of_getElem? (i := 139) rfl)) rfl
theorem ml_X12_280 : Cond.methodLink RX12 280 yX12_turns ∈ gtbl := gt_of (gt6 (List.mem_of_getElem? (i := 143) rfl)) rfl
theorem ml_L_37 : Cond.methodLink RL 37 yX12_run ∈ gtbl := gt_of (gt6 (List.mem_of_getElem? (i := 147) rfl)) rfl
theorem ml_X12_334 : Cond.methodLink RX12 334 yX12_isRecipe ∈ gtbl := gt_of (gt6 (List.mem_of_getElem? (i := 151) rfl)) rfl
theorem ml_X12_337 : Cond.methodLink RX12 337 yX12_isLimit ∈ gtbl := gt_of (gt6 (List.mem_of_getElem? (i := 154) rfl)) rfl
theorem ml_X12_340 : Cond.methodLink RX12 340 yX12_startsFrom ∈ gtbl := gt_of (gt6 (List.mem_of_getElem? (i := 157) rfl)) rfl
theorem ml_X12_344 : Cond.methodLink RX12 344 yX12_runsOn ∈ gtbl := gt_of (gt6 (List.mem_of_getElem? (i := 161) rfl)) rfl
theorem ml_X12_323 : Cond.methodLink RX12 323 yX12_goesOn ∈ gtbl := gt_of (gt6 (List.mem_of_getElem? (i := 165) rfl)) rfl
theorem ml_X12_326 : Cond.methodLink RX12 326 yX12_hasNext ∈ gtbl := gt_of (gt6 (List.mem_of_getElem? (i := 169) rfl)) rfl
theorem ml_X12_329 : Cond.methodLink RX12 329 yX12_steps ∈ gtbl := gt_of (gt6 (List.mem_of_getElem? (i := 173) rfl)) rfl
theorem ml_X12_317 : Cond.methodLink RX12 317 yX12_does ∈ gtbl := gt_of (gt6 (List.mem_of_getElem? (i := 177) rfl)) rfl
theorem ml_X12_308 : Cond.methodLink RX12 308 yX12_dips ∈ gtbl := gt_of (gt6 (List.mem_of_getElem? (i := 181) rfl)) rfl
theorem ml_X12_311 : Cond.methodLink RX12 311 yX12_takesOut ∈ gtbl := gt_of (gt6 (List.mem_of_getElem? (i := 185) rfl)) rfl
theorem ml_X12_314 : Cond.methodLink RX12 314 yX12_pours ∈ gtbl := gt_of (gt6 (List.mem_of_getElem? (i := 189) rfl)) rfl
theorem ml_X12_304 : Cond.methodLink RX12 304 yX12_min ∈ gtbl := gt_of (gt6 (List.mem_of_getElem? (i := 193) rfl)) rfl
theorem ml_X12_320 : Cond.methodLink RX12 320 yX12_kindsWork ∈ gtbl := gt_of (gt6 (List.mem_of_getElem? (i := 196) rfl)) rfl
theorem ml_X12_347 : Cond.methodLink RX12 347 yX12_specHolds ∈ gtbl := gt_of (gt6 (List.mem_of_getElem? (i := 200) rfl)) rfl
theorem ml_X12_331 : Cond.methodLink RX12 331 yX12_comesTo ∈ gtbl := gt_of (gt6 (List.mem_of_getElem? (i := 204) rfl)) rfl
theorem ml_X12_242 : Cond.methodLink RX12 242 yX12_reckon ∈ gtbl := gt_of (gt6 (List.mem_of_getElem? (i := 208) rfl)) rfl
theorem ml_L_41 : Cond.methodLink RL 41 yX12_done ∈ gtbl := gt_of (gt6 (List.mem_of_getElem? (i := 211) rfl)) rfl
theorem ml_L_46 : Cond.methodLink RL 46 yX12_proved ∈ gtbl := gt_of (gt6 (List.mem_of_getElem? (i := 215) rfl)) rfl
theorem ml_X12_365 : Cond.methodLink RX12 365 yX12_areVats ∈ gtbl := gt_of (gt6 (List.mem_of_getElem? (i := 219) rfl)) rfl
theorem ml_X12_359 : Cond.methodLink RX12 359 yX12_bits ∈ gtbl := gt_of (gt6 (List.mem_of_getElem? (i := 223) rfl)) rfl
theorem ml_X12_368 : Cond.methodLink RX12 368 yX12_startsBeginnings ∈ gtbl := gt_of (gt6 (List.mem_of_getElem? (i := 226) rfl)) rfl
theorem ml_X12_371 : Cond.methodLink RX12 371 yX12_runsFrom ∈ gtbl := gt_of (gt6 (List.mem_of_getElem? (i := 230) rfl)) rfl
theorem ml_X12_374 : Cond.methodLink RX12 374 yX12_finds ∈ gtbl := gt_of (gt6 (List.mem_of_getElem? (i := 234) rfl)) rfl
theorem ml_X12_377 : Cond.methodLink RX12 377 yX12_goesToNext ∈ gtbl := gt_of (gt6 (List.mem_of_getElem? (i := 238) rfl)) rfl
theorem ml_X12_380 : Cond.methodLink RX12 380 yX12_tellsFound ∈ gtbl := gt_of (gt7 (List.mem_of_getElem? (i := 2) rfl)) rfl
theorem ml_L_50 : Cond.methodLink RL 50 yX12_alike ∈ gtbl := gt_of (gt7 (List.mem_of_getElem? (i := 6) rfl)) rfl
theorem ml_X12_383 : Cond.methodLink RX12 383 yX12_endOtherwise ∈ gtbl := gt_of (gt7 (List.mem_of_getElem? (i := 10) rfl)) rfl
theorem ml_L_54 : Cond.methodLink RL 54 yX12_fit ∈ gtbl := gt_of (gt7 (List.mem_of_getElem? (i := 14) rfl)) rfl
theorem ml_L_58 : Cond.methodLink RL 58 yX12_round ∈ gtbl := gt_of (gt7 (List.mem_of_getElem? (i := 18) rfl)) rfl
theorem ml_X12_388 : Cond.methodLink RX12 388 yX12_standingNow ∈ gtbl := gt_of (gt7 (List.mem_of_getElem? (i := 22) rfl)) rfl
theorem ml_L_62 : Cond.methodLink RL 62 yX12_shortest ∈ gtbl := gt_of (gt7 (List.mem_of_getElem? (i := 27) rfl)) rfl
theorem ml_X12_401 : Cond.methodLink RX12 401 yX12_canGoThrough ∈ gtbl := gt_of (gt7 (List.mem_of_getElem? (i := 31) rfl)) rfl
theorem ml_X12_398 : Cond.methodLink RX12 398 yX12_standingOf ∈ gtbl := gt_of (gt7 (List.mem_of_getElem? (i := 35) rfl)) rfl
theorem ml_X12_404 : Cond.methodLink RX12 404 yX12_goesThrough ∈ gtbl := gt_of (gt7 (List.mem_of_getElem? (i := 39) rfl)) rfl
theorem ml_X12_392 : Cond.methodLink RX12 392 yX12_standsAt ∈ gtbl := gt_of (gt7 (List.mem_of_getElem? (i := 43) rfl)) rfl
theorem ml_X12_395 : Cond.methodLink RX12 395 yX12_acts ∈ gtbl := gt_of (gt7 (List.mem_of_getElem? (i := 47) rfl)) rfl
theorem ml_L_66 : Cond.methodLink RL 66 yX12_slips ∈ gtbl := gt_of (gt7 (List.mem_of_getElem? (i := 51) rfl)) rfl
theorem ml_X12_410 : Cond.methodLink RX12 410 yX12_isNotFelt ∈ gtbl := gt_of (gt7 (List.mem_of_getElem? (i := 55) rfl)) rfl
theorem ml_X12_407 : Cond.methodLink RX12 407 yX12_isActAt ∈ gtbl := gt_of (gt7 (List.mem_of_getElem? (i := 59) rfl)) rfl
theorem ml_L_70 : Cond.methodLink RL 70 yX12_sum ∈ gtbl := gt_of (gt7 (List.mem_of_getElem? (i := 63) rfl)) rfl
theorem ml_X12_417 : Cond.methodLink RX12 417 yX12_takesNow ∈ gtbl := gt_of (gt7 (List.mem_of_getElem? (i := 67) rfl)) rfl
theorem ml_L_74 : Cond.methodLink RL 74 yX12_order ∈ gtbl := gt_of (gt7 (List.mem_of_getElem? (i := 71) rfl)) rfl
theorem ml_X12_421 : Cond.methodLink RX12 421 yX12_priceBy ∈ gtbl := gt_of (gt7 (List.mem_of_getElem? (i := 76) rfl)) rfl
theorem ml_L_79 : Cond.methodLink RL 79 yX12_seed ∈ gtbl := gt_of (gt7 (List.mem_of_getElem? (i := 80) rfl)) rfl
theorem ml_L_83 : Cond.methodLink RL 83 yX12_night ∈ gtbl := gt_of (gt7 (List.mem_of_getElem? (i := 85) rfl)) rfl
theorem ml_L_88 : Cond.methodLink RL 88 yX12_keep ∈ gtbl := gt_of (gt7 (List.mem_of_getElem? (i := 90) rfl)) rfl
theorem ml_X12_442 : Cond.methodLink RX12 442 yX12_together ∈ gtbl := gt_of (gt7 (List.mem_of_getElem? (i := 94) rfl)) rfl
theorem ml_L_93 : Cond.methodLink RL 93 yX12_undo ∈ gtbl := gt_of (gt7 (List.mem_of_getElem? (i := 98) rfl)) rfl
theorem ml_L_97 : Cond.methodLink RL 97 yX12_check ∈ gtbl := gt_of (gt7 (List.mem_of_getElem? (i := 102) rfl)) rfl
theorem ml_X12_445 : Cond.methodLink RX12 445 yX12_tapeNumber ∈ gtbl := gt_of (gt7 (List.mem_of_getElem? (i := 106) rfl)) rfl
theorem ml_L_101 : Cond.methodLink RL 101 yX12_count ∈ gtbl := gt_of (gt7 (List.mem_of_getElem? (i := 110) rfl)) rfl
theorem ml_X11_9 : (RX11, 9, yX9_init, "DyeVats") ∈ nestM := List.mem_of_getElem? (i := 0) rfl
theorem ml_X11_29 : (RX11, 29, yX4_init, "DyeVats") ∈ nestM := List.mem_of_getElem? (i := 1) rfl
theorem ml_X11_36 : (RX11, 36, yX6_init, "DyeVats") ∈ nestM := List.mem_of_getElem? (i := 2) rfl
theorem ml_X11_99 : (RX11, 99, yX1_init, "DyeVats") ∈ nestM := List.mem_of_getElem? (i := 3) rfl
theorem ml_X4_51 : (RX4, 51, yX11_within, "DyeVats") ∈ nestM := List.mem_of_getElem? (i := 4) rfl
theorem ml_X7_59 : (RX7, 59, yX11_within, "DyeVats") ∈ nestM := List.mem_of_getElem? (i := 5) rfl
theorem ml_X0_25 : (RX0, 25, yX11_copyMeasures, "DyeVats") ∈ nestM := List.mem_of_getElem? (i := 6) rfl
theorem ml_X0_93 : (RX0, 93, yX11_within, "DyeVats") ∈ nestM := List.mem_of_getElem? (i := 7) rfl
theorem ml_X9_19 : (RX9, 19, yX11_within, "DyeVats") ∈ nestM := List.mem_of_getElem? (i := 8) rfl
theorem ml_X3_108 : (RX3, 108, yX11_copyMeasures, "DyeVats") ∈ nestM := List.mem_of_getElem? (i := 9) rfl
theorem ml_X3_122 : (RX3, 122, yX11_within, "DyeVats") ∈ nestM := List.mem_of_getElem? (i := 10) rfl
theorem ml_X1_15 : (RX1, 15, yX11_copyMeasures, "DyeVats") ∈ nestM := List.mem_of_getElem? (i := 11) rfl
theorem cd_J6_bitCount_0f7a4 : CD yJ6_bitCount_0f7a4 cJ6_bitCount_0f7a4 1 (some .int) 1 := ⟨gt_of (gt4 (List.mem_of_getElem? (i := 22) rfl)) rfl, gt_of (gt1 (List.mem_of_getElem? (i := 17) rfl)) rfl, by decide, by decide, by decide +kernel⟩
theorem st_J6_bitCount_0f7a4 : Cond.static yJ6_bitCount_0f7a4 ∈ gtbl := gt_of (gt4 (List.mem_of_getElem? (i := 21) rfl)) rfl
theorem cd_J7_fill_53178 : CD yJ7_fill_53178 cJ7_fill_53178 4 none 2 := ⟨gt_of (gt1 (List.mem_of_getElem? (i := 59) rfl)) rfl, gt_of (gt1 (List.mem_of_getElem? (i := 4) rfl)) rfl, by decide, by decide, by decide +kernel⟩
theorem st_J7_fill_53178 : Cond.static yJ7_fill_53178 ∈ gtbl := gt_of (gt1 (List.mem_of_getElem? (i := 58) rfl)) rfl
theorem cd_J7_fill_fda19 : CD yJ7_fill_fda19 cJ7_fill_fda19 5 none 4 := ⟨gt_of (gt4 (List.mem_of_getElem? (i := 129) rfl)) rfl, gt_of (gt1 (List.mem_of_getElem? (i := 4) rfl)) rfl, by decide, by decide, by decide +kernel⟩
theorem st_J7_fill_fda19 : Cond.static yJ7_fill_fda19 ∈ gtbl := gt_of (gt4 (List.mem_of_getElem? (i := 128) rfl)) rfl
theorem cd_J7_rangeCheck_23922 : CD yJ7_rangeCheck_23922 cJ7_rangeCheck_23922 3 none 3 := ⟨gt_of (gt4 (List.mem_of_getElem? (i := 132) rfl)) rfl, gt_of (gt1 (List.mem_of_getElem? (i := 4) rfl)) rfl, by decide, by decide, by decide +kernel⟩
theorem st_J7_rangeCheck_23922 : Cond.static yJ7_rangeCheck_23922 ∈ gtbl := gt_of (gt4 (List.mem_of_getElem? (i := 131) rfl)) rfl
theorem cd_J9_floorMod_7cf53 : CD yJ9_floorMod_7cf53 cJ9_floorMod_7cf53 3 (some .int) 2 := ⟨gt_of (gt3 (List.mem_of_getElem? (i := 222) rfl)) rfl, gt_of (gt1 (List.mem_of_getElem? (i := 12) rfl)) rfl, by decide, by decide, by decide +kernel⟩
theorem st_J9_floorMod_7cf53 : Cond.static yJ9_floorMod_7cf53 ∈ gtbl := gt_of (gt3 (List.mem_of_getElem? (i := 221) rfl)) rfl
theorem cd_J9_max_7cf53 : CD yJ9_max_7cf53 cJ9_max_7cf53 2 (some .int) 2 := ⟨gt_of (gt2 (List.mem_of_getElem? (i := 50) rfl)) rfl, gt_of (gt1 (List.mem_of_getElem? (i := 12) rfl)) rfl, by decide, by decide, by decide +kernel⟩
theorem st_J9_max_7cf53 : Cond.static yJ9_max_7cf53 ∈ gtbl := gt_of (gt2 (List.mem_of_getElem? (i := 49) rfl)) rfl
theorem cd_J9_min_7cf53 : CD yJ9_min_7cf53 cJ9_min_7cf53 2 (some .int) 2 := ⟨gt_of (gt3 (List.mem_of_getElem? (i := 203) rfl)) rfl, gt_of (gt1 (List.mem_of_getElem? (i := 12) rfl)) rfl, by decide, by decide, by decide +kernel⟩
theorem st_J9_min_7cf53 : Cond.static yJ9_min_7cf53 ∈ gtbl := gt_of (gt3 (List.mem_of_getElem? (i := 202) rfl)) rfl
theorem cd_X0_act : CD yX0_act cX0_act 6 none 3 := ⟨gt_of (gt3 (List.mem_of_getElem? (i := 192) rfl)) rfl, gt_of (gt1 (List.mem_of_getElem? (i := 8) rfl)) rfl, by decide, by decide, by decide +kernel⟩
theorem cv_X0_act : CV yX0_act := ⟨gt_of (gt3 (List.mem_of_getElem? (i := 190) rfl)) rfl, gt_of (gt3 (List.mem_of_getElem? (i := 191) rfl)) rfl⟩
theorem cd_X0_copy : CD yX0_copy cX0_copy 2 none 1 := ⟨gt_of (gt4 (List.mem_of_getElem? (i := 93) rfl)) rfl, gt_of (gt1 (List.mem_of_getElem? (i := 8) rfl)) rfl, by decide, by decide, by decide +kernel⟩
theorem cv_X0_copy : CV yX0_copy := ⟨gt_of (gt4 (List.mem_of_getElem? (i := 91) rfl)) rfl, gt_of (gt4 (List.mem_of_getElem? (i := 92) rfl)) rfl⟩
theorem cd_X0_dip : CD yX0_dip cX0_dip 2 none 1 := ⟨gt_of (gt3 (List.mem_of_getElem? (i := 196) rfl)) rfl, gt_of (gt1 (List.mem_of_getElem? (i := 8) rfl)) rfl, by decide, by decide, by decide +kernel⟩
theorem cv_X0_dip : CV yX0_dip := ⟨gt_of (gt3 (List.mem_of_getElem? (i := 195) rfl)) rfl, gp_of (List.mem_of_getElem? (i := 23) rfl) rfl⟩
theorem cd_X0_findsEmpty : CD yX0_findsEmpty cX0_findsEmpty 2 (some .boolean) 1 := ⟨gt_of (gt3 (List.mem_of_getElem? (i := 188) rfl)) rfl, gt_of (gt1 (List.mem_of_getElem? (i := 8) rfl)) rfl, by decide, by decide, by decide +kernel⟩
theorem cv_X0_findsEmpty : CV yX0_findsEmpty := ⟨gt_of (gt3 (List.mem_of_getElem? (i := 187) rfl)) rfl, gp_of (List.mem_of_getElem? (i := 22) rfl) rfl⟩
theorem cd_X0_flow : CD yX0_flow cX0_flow 3 none 2 := ⟨gt_of (gt3 (List.mem_of_getElem? (i := 211) rfl)) rfl, gt_of (gt1 (List.mem_of_getElem? (i := 8) rfl)) rfl, by decide, by decide, by decide +kernel⟩
theorem cv_X0_flow : CV yX0_flow := ⟨gt_of (gt3 (List.mem_of_getElem? (i := 210) rfl)) rfl, gp_of (List.mem_of_getElem? (i := 25) rfl) rfl⟩
theorem cd_X0_go : CD yX0_go cX0_go 5 none 2 := ⟨gt_of (gt3 (List.mem_of_getElem? (i := 175) rfl)) rfl, gt_of (gt1 (List.mem_of_getElem? (i := 8) rfl)) rfl, by decide, by decide, by decide +kernel⟩
theorem cv_X0_go : CV yX0_go := ⟨gt_of (gt3 (List.mem_of_getElem? (i := 173) rfl)) rfl, gt_of (gt3 (List.mem_of_getElem? (i := 174) rfl)) rfl⟩
theorem cd_X0_hasMeasuresOf : CD yX0_hasMeasuresOf cX0_hasMeasuresOf 3 (some .boolean) 1 := ⟨gt_of (gt4 (List.mem_of_getElem? (i := 57) rfl)) rfl, gt_of (gt1 (List.mem_of_getElem? (i := 8) rfl)) rfl, by decide, by decide, by decide +kernel⟩
theorem cv_X0_hasMeasuresOf : CV yX0_hasMeasuresOf := ⟨gt_of (gt4 (List.mem_of_getElem? (i := 55) rfl)) rfl, gt_of (gt4 (List.mem_of_getElem? (i := 56) rfl)) rfl⟩
theorem cd_X0_init : CD yX0_init cX0_init 2 none 1 := ⟨gt_of (gt1 (List.mem_of_getElem? (i := 169) rfl)) rfl, gt_of (gt1 (List.mem_of_getElem? (i := 8) rfl)) rfl, by decide, by decide, by decide +kernel⟩
theorem cd_X0_isAtMark : CD yX0_isAtMark cX0_isAtMark 2 (some .boolean) 0 := ⟨gt_of (gt3 (List.mem_of_getElem? (i := 215) rfl)) rfl, gt_of (gt1 (List.mem_of_getElem? (i := 8) rfl)) rfl, by decide, by decide, by decide +kernel⟩
theorem cv_X0_isAtMark : CV yX0_isAtMark := ⟨gt_of (gt3 (List.mem_of_getElem? (i := 214) rfl)) rfl, gp_of (List.mem_of_getElem? (i := 26) rfl) rfl⟩
theorem cd_X0_isOver : CD yX0_isOver cX0_isOver 2 (some .boolean) 1 := ⟨gt_of (gt4 (List.mem_of_getElem? (i := 83) rfl)) rfl, gt_of (gt1 (List.mem_of_getElem? (i := 8) rfl)) rfl, by decide, by decide, by decide +kernel⟩
theorem cv_X0_isOver : CV yX0_isOver := ⟨gt_of (gt4 (List.mem_of_getElem? (i := 81) rfl)) rfl, gt_of (gt4 (List.mem_of_getElem? (i := 82) rfl)) rfl⟩
theorem cd_X0_kindsWork : CD yX0_kindsWork cX0_kindsWork 2 none 0 := ⟨gt_of (gt3 (List.mem_of_getElem? (i := 207) rfl)) rfl, gt_of (gt1 (List.mem_of_getElem? (i := 8) rfl)) rfl, by decide, by decide, by decide +kernel⟩
theorem cv_X0_kindsWork : CV yX0_kindsWork := ⟨gt_of (gt3 (List.mem_of_getElem? (i := 205) rfl)) rfl, gt_of (gt3 (List.mem_of_getElem? (i := 206) rfl)) rfl⟩
theorem cd_X0_known : CD yX0_known cX0_known 2 (some .int) 1 := ⟨gt_of (gt3 (List.mem_of_getElem? (i := 238) rfl)) rfl, gt_of (gt1 (List.mem_of_getElem? (i := 8) rfl)) rfl, by decide, by decide, by decide +kernel⟩
theorem cv_X0_known : CV yX0_known := ⟨gt_of (gt3 (List.mem_of_getElem? (i := 236) rfl)) rfl, gt_of (gt3 (List.mem_of_getElem? (i := 237) rfl)) rfl⟩
theorem cd_X0_leap : CD yX0_leap cX0_leap 8 none 1 := ⟨gt_of (gt3 (List.mem_of_getElem? (i := 219) rfl)) rfl, gt_of (gt1 (List.mem_of_getElem? (i := 8) rfl)) rfl, by decide, by decide, by decide +kernel⟩
theorem cv_X0_leap : CV yX0_leap := ⟨gt_of (gt3 (List.mem_of_getElem? (i := 218) rfl)) rfl, gp_of (List.mem_of_getElem? (i := 27) rfl) rfl⟩
theorem cd_X0_mark : CD yX0_mark cX0_mark 1 none 0 := ⟨gt_of (gt3 (List.mem_of_getElem? (i := 179) rfl)) rfl, gt_of (gt1 (List.mem_of_getElem? (i := 8) rfl)) rfl, by decide, by decide, by decide +kernel⟩
theorem cv_X0_mark : CV yX0_mark := ⟨gt_of (gt3 (List.mem_of_getElem? (i := 178) rfl)) rfl, gp_of (List.mem_of_getElem? (i := 21) rfl) rfl⟩
theorem cd_X0_standsWith : CD yX0_standsWith cX0_standsWith 2 (some .boolean) 1 := ⟨gt_of (gt4 (List.mem_of_getElem? (i := 88) rfl)) rfl, gt_of (gt1 (List.mem_of_getElem? (i := 8) rfl)) rfl, by decide, by decide, by decide +kernel⟩
theorem cv_X0_standsWith : CV yX0_standsWith := ⟨gt_of (gt4 (List.mem_of_getElem? (i := 86) rfl)) rfl, gt_of (gt4 (List.mem_of_getElem? (i := 87) rfl)) rfl⟩
theorem cd_X0_start : CD yX0_start cX0_start 3 none 2 := ⟨gt_of (gt3 (List.mem_of_getElem? (i := 165) rfl)) rfl, gt_of (gt1 (List.mem_of_getElem? (i := 8) rfl)) rfl, by decide, by decide, by decide +kernel⟩
theorem cv_X0_start : CV yX0_start := ⟨gt_of (gt3 (List.mem_of_getElem? (i := 163) rfl)) rfl, gt_of (gt3 (List.mem_of_getElem? (i := 164) rfl)) rfl⟩
theorem cd_X0_step : CD yX0_step cX0_step 6 none 2 := ⟨gt_of (gt3 (List.mem_of_getElem? (i := 183) rfl)) rfl, gt_of (gt1 (List.mem_of_getElem? (i := 8) rfl)) rfl, by decide, by decide, by decide +kernel⟩
theorem cv_X0_step : CV yX0_step := ⟨gt_of (gt3 (List.mem_of_getElem? (i := 181) rfl)) rfl, gt_of (gt3 (List.mem_of_getElem? (i := 182) rfl)) rfl⟩
theorem cd_X0_take : CD yX0_take cX0_take 2 none 1 := ⟨gt_of (gt3 (List.mem_of_getElem? (i := 200) rfl)) rfl, gt_of (gt1 (List.mem_of_getElem? (i := 8) rfl)) rfl, by decide, by decide, by decide +kernel⟩
theorem cv_X0_take : CV yX0_take := ⟨gt_of (gt3 (List.mem_of_getElem? (i := 199) rfl)) rfl, gp_of (List.mem_of_getElem? (i := 24) rfl) rfl⟩
theorem cd_X10_hold : CD yX10_hold cX10_hold 3 (some .boolean) 1 := ⟨gt_of (gt4 (List.mem_of_getElem? (i := 122) rfl)) rfl, gt_of (gt1 (List.mem_of_getElem? (i := 3) rfl)) rfl, by decide, by decide, by decide +kernel⟩
theorem cv_X10_hold : CV yX10_hold := ⟨gt_of (gt4 (List.mem_of_getElem? (i := 120) rfl)) rfl, gt_of (gt4 (List.mem_of_getElem? (i := 121) rfl)) rfl⟩
theorem cd_X10_init : CD yX10_init cX10_init 1 none 0 := ⟨gt_of (gt1 (List.mem_of_getElem? (i := 55) rfl)) rfl, gt_of (gt1 (List.mem_of_getElem? (i := 3) rfl)) rfl, by decide, by decide, by decide +kernel⟩
theorem cd_X10_put : CD yX10_put cX10_put 6 none 4 := ⟨gt_of (gt2 (List.mem_of_getElem? (i := 220) rfl)) rfl, gt_of (gt1 (List.mem_of_getElem? (i := 3) rfl)) rfl, by decide, by decide, by decide +kernel⟩
theorem cv_X10_put : CV yX10_put := ⟨gt_of (gt2 (List.mem_of_getElem? (i := 218) rfl)) rfl, gt_of (gt2 (List.mem_of_getElem? (i := 219) rfl)) rfl⟩
theorem cd_X10_together : CD yX10_together cX10_together 3 (some .int) 0 := ⟨gt_of (gt5 (List.mem_of_getElem? (i := 4) rfl)) rfl, gt_of (gt1 (List.mem_of_getElem? (i := 3) rfl)) rfl, by decide, by decide, by decide +kernel⟩
theorem cv_X10_together : CV yX10_together := ⟨gt_of (gt5 (List.mem_of_getElem? (i := 2) rfl)) rfl, gt_of (gt5 (List.mem_of_getElem? (i := 3) rfl)) rfl⟩
theorem cd_X11_alike : CD yX11_alike cX11_alike 6 (some .int) 5 := ⟨gt_of (gt4 (List.mem_of_getElem? (i := 49) rfl)) rfl, gt_of (gt1 (List.mem_of_getElem? (i := 1) rfl)) rfl, by decide, by decide, by decide +kernel⟩
theorem cv_X11_alike : CV yX11_alike := ⟨gt_of (gt4 (List.mem_of_getElem? (i := 47) rfl)) rfl, gt_of (gt4 (List.mem_of_getElem? (i := 48) rfl)) rfl⟩
theorem cd_X11_check : CD yX11_check cX11_check 3 (some .int) 1 := ⟨gt_of (gt5 (List.mem_of_getElem? (i := 13) rfl)) rfl, gt_of (gt1 (List.mem_of_getElem? (i := 1) rfl)) rfl, by decide, by decide, by decide +kernel⟩
theorem cv_X11_check : CV yX11_check := ⟨gt_of (gt5 (List.mem_of_getElem? (i := 11) rfl)) rfl, gt_of (gt5 (List.mem_of_getElem? (i := 12) rfl)) rfl⟩
theorem cd_X11_copyMeasures : CD yX11_copyMeasures cX11_copyMeasures 2 none 2 := ⟨gt_of (gt3 (List.mem_of_getElem? (i := 168) rfl)) rfl, gt_of (gt1 (List.mem_of_getElem? (i := 1) rfl)) rfl, by decide, by decide, by decide +kernel⟩
theorem st_X11_copyMeasures : Cond.static yX11_copyMeasures ∈ gtbl := gt_of (gt3 (List.mem_of_getElem? (i := 167) rfl)) rfl
theorem cd_X11_count : CD yX11_count cX11_count 2 (some .int) 1 := ⟨gt_of (gt5 (List.mem_of_getElem? (i := 25) rfl)) rfl, gt_of (gt1 (List.mem_of_getElem? (i := 1) rfl)) rfl, by decide, by decide, by decide +kernel⟩
theorem cv_X11_count : CV yX11_count := ⟨gt_of (gt5 (List.mem_of_getElem? (i := 23) rfl)) rfl, gt_of (gt5 (List.mem_of_getElem? (i := 24) rfl)) rfl⟩
theorem cd_X11_done : CD yX11_done cX11_done 3 (some .int) 2 := ⟨gt_of (gt4 (List.mem_of_getElem? (i := 11) rfl)) rfl, gt_of (gt1 (List.mem_of_getElem? (i := 1) rfl)) rfl, by decide, by decide, by decide +kernel⟩
theorem cv_X11_done : CV yX11_done := ⟨gt_of (gt4 (List.mem_of_getElem? (i := 9) rfl)) rfl, gt_of (gt4 (List.mem_of_getElem? (i := 10) rfl)) rfl⟩
theorem cd_X11_feed : CD yX11_feed cX11_feed 6 (some .int) 5 := ⟨gt_of (gt2 (List.mem_of_getElem? (i := 224) rfl)) rfl, gt_of (gt1 (List.mem_of_getElem? (i := 1) rfl)) rfl, by decide, by decide, by decide +kernel⟩
theorem cv_X11_feed : CV yX11_feed := ⟨gt_of (gt2 (List.mem_of_getElem? (i := 222) rfl)) rfl, gt_of (gt2 (List.mem_of_getElem? (i := 223) rfl)) rfl⟩
theorem cd_X11_firstWrong : CD yX11_firstWrong cX11_firstWrong 3 (some .int) 1 := ⟨gt_of (gt5 (List.mem_of_getElem? (i := 17) rfl)) rfl, gt_of (gt1 (List.mem_of_getElem? (i := 1) rfl)) rfl, by decide, by decide, by decide +kernel⟩
theorem cv_X11_firstWrong : CV yX11_firstWrong := ⟨gt_of (gt5 (List.mem_of_getElem? (i := 16) rfl)) rfl, gp_of (List.mem_of_getElem? (i := 48) rfl) rfl⟩
theorem cd_X11_fit : CD yX11_fit cX11_fit 6 (some .int) 5 := ⟨gt_of (gt4 (List.mem_of_getElem? (i := 61) rfl)) rfl, gt_of (gt1 (List.mem_of_getElem? (i := 1) rfl)) rfl, by decide, by decide, by decide +kernel⟩
theorem cv_X11_fit : CV yX11_fit := ⟨gt_of (gt4 (List.mem_of_getElem? (i := 59) rfl)) rfl, gt_of (gt4 (List.mem_of_getElem? (i := 60) rfl)) rfl⟩
theorem cd_X11_hasText : CD yX11_hasText cX11_hasText 2 (some .boolean) 1 := ⟨gt_of (gt3 (List.mem_of_getElem? (i := 3) rfl)) rfl, gt_of (gt1 (List.mem_of_getElem? (i := 1) rfl)) rfl, by decide, by decide, by decide +kernel⟩
theorem cv_X11_hasText : CV yX11_hasText := ⟨gt_of (gt3 (List.mem_of_getElem? (i := 2) rfl)) rfl, gp_of (List.mem_of_getElem? (i := 0) rfl) rfl⟩
theorem cd_X11_init : CD yX11_init cX11_init 2 none 0 := ⟨gt_of (gt1 (List.mem_of_getElem? (i := 22) rfl)) rfl, gt_of (gt1 (List.mem_of_getElem? (i := 1) rfl)) rfl, by decide, by decide, by decide +kernel⟩
theorem cd_X11_isRecipe : CD yX11_isRecipe cX11_isRecipe 1 (some .boolean) 1 := ⟨gt_of (gt2 (List.mem_of_getElem? (i := 239) rfl)) rfl, gt_of (gt1 (List.mem_of_getElem? (i := 1) rfl)) rfl, by decide, by decide, by decide +kernel⟩
theorem st_X11_isRecipe : Cond.static yX11_isRecipe ∈ gtbl := gt_of (gt2 (List.mem_of_getElem? (i := 238) rfl)) rfl
theorem cd_X11_isSurvey : CD yX11_isSurvey cX11_isSurvey 3 (some .boolean) 3 := ⟨gt_of (gt4 (List.mem_of_getElem? (i := 19) rfl)) rfl, gt_of (gt1 (List.mem_of_getElem? (i := 1) rfl)) rfl, by decide, by decide, by decide +kernel⟩
theorem st_X11_isSurvey : Cond.static yX11_isSurvey ∈ gtbl := gt_of (gt4 (List.mem_of_getElem? (i := 18) rfl)) rfl
theorem cd_X11_keep : CD yX11_keep cX11_keep 1 (some .int) 0 := ⟨gt_of (gt4 (List.mem_of_getElem? (i := 235) rfl)) rfl, gt_of (gt1 (List.mem_of_getElem? (i := 1) rfl)) rfl, by decide, by decide, by decide +kernel⟩
theorem cv_X11_keep : CV yX11_keep := ⟨gt_of (gt4 (List.mem_of_getElem? (i := 233) rfl)) rfl, gt_of (gt4 (List.mem_of_getElem? (i := 234) rfl)) rfl⟩
theorem cd_X11_night : CD yX11_night cX11_night 4 (some .int) 1 := ⟨gt_of (gt4 (List.mem_of_getElem? (i := 226) rfl)) rfl, gt_of (gt1 (List.mem_of_getElem? (i := 1) rfl)) rfl, by decide, by decide, by decide +kernel⟩
theorem cv_X11_night : CV yX11_night := ⟨gt_of (gt4 (List.mem_of_getElem? (i := 224) rfl)) rfl, gt_of (gt4 (List.mem_of_getElem? (i := 225) rfl)) rfl⟩
theorem cd_X11_order : CD yX11_order cX11_order 4 (some .int) 2 := ⟨gt_of (gt4 (List.mem_of_getElem? (i := 200) rfl)) rfl, gt_of (gt1 (List.mem_of_getElem? (i := 1) rfl)) rfl, by decide, by decide, by decide +kernel⟩
theorem cv_X11_order : CV yX11_order := ⟨gt_of (gt4 (List.mem_of_getElem? (i := 198) rfl)) rfl, gt_of (gt4 (List.mem_of_getElem? (i := 199) rfl)) rfl⟩
theorem cd_X11_pourAtNight : CD yX11_pourAtNight cX11_pourAtNight 3 (some .int) 2 := ⟨gt_of (gt4 (List.mem_of_getElem? (i := 231) rfl)) rfl, gt_of (gt1 (List.mem_of_getElem? (i := 1) rfl)) rfl, by decide, by decide, by decide +kernel⟩
theorem cv_X11_pourAtNight : CV yX11_pourAtNight := ⟨gt_of (gt4 (List.mem_of_getElem? (i := 230) rfl)) rfl, gp_of (List.mem_of_getElem? (i := 47) rfl) rfl⟩
theorem cd_X11_proved : CD yX11_proved cX11_proved 5 (some .int) 4 := ⟨gt_of (gt4 (List.mem_of_getElem? (i := 16) rfl)) rfl, gt_of (gt1 (List.mem_of_getElem? (i := 1) rfl)) rfl, by decide, by decide, by decide +kernel⟩
theorem cv_X11_proved : CV yX11_proved := ⟨gt_of (gt4 (List.mem_of_getElem? (i := 14) rfl)) rfl, gt_of (gt4 (List.mem_of_getElem? (i := 15) rfl)) rfl⟩
theorem cd_X11_recipe : CD yX11_recipe cX11_recipe 5 (some .int) 2 := ⟨gt_of (gt2 (List.mem_of_getElem? (i := 236) rfl)) rfl, gt_of (gt1 (List.mem_of_getElem? (i := 1) rfl)) rfl, by decide, by decide, by decide +kernel⟩
theorem cv_X11_recipe : CV yX11_recipe := ⟨gt_of (gt2 (List.mem_of_getElem? (i := 234) rfl)) rfl, gt_of (gt2 (List.mem_of_getElem? (i := 235) rfl)) rfl⟩
theorem cd_X11_round : CD yX11_round cX11_round 3 (some .int) 2 := ⟨gt_of (gt4 (List.mem_of_getElem? (i := 69) rfl)) rfl, gt_of (gt1 (List.mem_of_getElem? (i := 1) rfl)) rfl, by decide, by decide, by decide +kernel⟩
theorem cv_X11_round : CV yX11_round := ⟨gt_of (gt4 (List.mem_of_getElem? (i := 67) rfl)) rfl, gt_of (gt4 (List.mem_of_getElem? (i := 68) rfl)) rfl⟩
theorem cd_X11_run : CD yX11_run cX11_run 5 (some .int) 3 := ⟨gt_of (gt3 (List.mem_of_getElem? (i := 161) rfl)) rfl, gt_of (gt1 (List.mem_of_getElem? (i := 1) rfl)) rfl, by decide, by decide, by decide +kernel⟩
theorem cv_X11_run : CV yX11_run := ⟨gt_of (gt3 (List.mem_of_getElem? (i := 159) rfl)) rfl, gt_of (gt3 (List.mem_of_getElem? (i := 160) rfl)) rfl⟩
theorem cd_X11_seed : CD yX11_seed cX11_seed 2 (some .boolean) 1 := ⟨gt_of (gt4 (List.mem_of_getElem? (i := 221) rfl)) rfl, gt_of (gt1 (List.mem_of_getElem? (i := 1) rfl)) rfl, by decide, by decide, by decide +kernel⟩
theorem cv_X11_seed : CV yX11_seed := ⟨gt_of (gt4 (List.mem_of_getElem? (i := 219) rfl)) rfl, gt_of (gt4 (List.mem_of_getElem? (i := 220) rfl)) rfl⟩
theorem cd_X11_shortest : CD yX11_shortest cX11_shortest 3 (some .int) 1 := ⟨gt_of (gt4 (List.mem_of_getElem? (i := 101) rfl)) rfl, gt_of (gt1 (List.mem_of_getElem? (i := 1) rfl)) rfl, by decide, by decide, by decide +kernel⟩
theorem cv_X11_shortest : CV yX11_shortest := ⟨gt_of (gt4 (List.mem_of_getElem? (i := 99) rfl)) rfl, gt_of (gt4 (List.mem_of_getElem? (i := 100) rfl)) rfl⟩
theorem cd_X11_slips : CD yX11_slips cX11_slips 5 (some .int) 3 := ⟨gt_of (gt4 (List.mem_of_getElem? (i := 165) rfl)) rfl, gt_of (gt1 (List.mem_of_getElem? (i := 1) rfl)) rfl, by decide, by decide, by decide +kernel⟩
theorem cv_X11_slips : CV yX11_slips := ⟨gt_of (gt4 (List.mem_of_getElem? (i := 163) rfl)) rfl, gt_of (gt4 (List.mem_of_getElem? (i := 164) rfl)) rfl⟩
theorem cd_X11_spec : CD yX11_spec cX11_spec 4 (some .int) 1 := ⟨gt_of (gt3 (List.mem_of_getElem? (i := 96) rfl)) rfl, gt_of (gt1 (List.mem_of_getElem? (i := 1) rfl)) rfl, by decide, by decide, by decide +kernel⟩
theorem cv_X11_spec : CV yX11_spec := ⟨gt_of (gt3 (List.mem_of_getElem? (i := 94) rfl)) rfl, gt_of (gt3 (List.mem_of_getElem? (i := 95) rfl)) rfl⟩
theorem cd_X11_sum : CD yX11_sum cX11_sum 5 (some .int) 4 := ⟨gt_of (gt4 (List.mem_of_getElem? (i := 180) rfl)) rfl, gt_of (gt1 (List.mem_of_getElem? (i := 1) rfl)) rfl, by decide, by decide, by decide +kernel⟩
theorem cv_X11_sum : CV yX11_sum := ⟨gt_of (gt4 (List.mem_of_getElem? (i := 178) rfl)) rfl, gt_of (gt4 (List.mem_of_getElem? (i := 179) rfl)) rfl⟩
theorem cd_X11_undo : CD yX11_undo cX11_undo 1 (some .boolean) 0 := ⟨gt_of (gt5 (List.mem_of_getElem? (i := 8) rfl)) rfl, gt_of (gt1 (List.mem_of_getElem? (i := 1) rfl)) rfl, by decide, by decide, by decide +kernel⟩
theorem cv_X11_undo : CV yX11_undo := ⟨gt_of (gt5 (List.mem_of_getElem? (i := 6) rfl)) rfl, gt_of (gt5 (List.mem_of_getElem? (i := 7) rfl)) rfl⟩
theorem cd_X11_unfelt : CD yX11_unfelt cX11_unfelt 7 (some .int) 4 := ⟨gt_of (gt4 (List.mem_of_getElem? (i := 169) rfl)) rfl, gt_of (gt1 (List.mem_of_getElem? (i := 1) rfl)) rfl, by decide, by decide, by decide +kernel⟩
theorem cv_X11_unfelt : CV yX11_unfelt := ⟨gt_of (gt4 (List.mem_of_getElem? (i := 168) rfl)) rfl, gp_of (List.mem_of_getElem? (i := 44) rfl) rfl⟩
theorem cd_X11_vat : CD yX11_vat cX11_vat 5 (some .boolean) 4 := ⟨gt_of (gt2 (List.mem_of_getElem? (i := 213) rfl)) rfl, gt_of (gt1 (List.mem_of_getElem? (i := 1) rfl)) rfl, by decide, by decide, by decide +kernel⟩
theorem cv_X11_vat : CV yX11_vat := ⟨gt_of (gt2 (List.mem_of_getElem? (i := 211) rfl)) rfl, gt_of (gt2 (List.mem_of_getElem? (i := 212) rfl)) rfl⟩
theorem cd_X11_within : CD yX11_within cX11_within 3 (some .boolean) 3 := ⟨gt_of (gt2 (List.mem_of_getElem? (i := 216) rfl)) rfl, gt_of (gt1 (List.mem_of_getElem? (i := 1) rfl)) rfl, by decide, by decide, by decide +kernel⟩
theorem st_X11_within : Cond.static yX11_within ∈ gtbl := gt_of (gt2 (List.mem_of_getElem? (i := 215) rfl)) rfl
theorem cd_X12_acts : CD yX12_acts cX12_acts 2 none 1 := ⟨gt_of (gt7 (List.mem_of_getElem? (i := 50) rfl)) rfl, gt_of (gt1 (List.mem_of_getElem? (i := 15) rfl)) rfl, by decide, by decide, by decide +kernel⟩
theorem cv_X12_acts : CV yX12_acts := ⟨gt_of (gt7 (List.mem_of_getElem? (i := 49) rfl)) rfl, gp_of (List.mem_of_getElem? (i := 103) rfl) rfl⟩
theorem cd_X12_alike : CD yX12_alike cX12_alike 7 (some .int) 5 := ⟨gt_of (gt7 (List.mem_of_getElem? (i := 9) rfl)) rfl, gt_of (gt1 (List.mem_of_getElem? (i := 15) rfl)) rfl, by decide, by decide, by decide +kernel⟩
theorem cv_X12_alike : CV yX12_alike := ⟨gt_of (gt7 (List.mem_of_getElem? (i := 7) rfl)) rfl, gt_of (gt7 (List.mem_of_getElem? (i := 8) rfl)) rfl⟩
theorem cd_X12_areVats : CD yX12_areVats cX12_areVats 3 (some .boolean) 2 := ⟨gt_of (gt6 (List.mem_of_getElem? (i := 222) rfl)) rfl, gt_of (gt1 (List.mem_of_getElem? (i := 15) rfl)) rfl, by decide, by decide, by decide +kernel⟩
theorem cv_X12_areVats : CV yX12_areVats := ⟨gt_of (gt6 (List.mem_of_getElem? (i := 221) rfl)) rfl, gp_of (List.mem_of_getElem? (i := 91) rfl) rfl⟩
theorem cd_X12_begins : CD yX12_begins cX12_begins 2 none 1 := ⟨gt_of (gt6 (List.mem_of_getElem? (i := 27) rfl)) rfl, gt_of (gt1 (List.mem_of_getElem? (i := 15) rfl)) rfl, by decide, by decide, by decide +kernel⟩
theorem cv_X12_begins : CV yX12_begins := ⟨gt_of (gt6 (List.mem_of_getElem? (i := 26) rfl)) rfl, gp_of (List.mem_of_getElem? (i := 51) rfl) rfl⟩
theorem cd_X12_bits : CD yX12_bits cX12_bits 3 (some .int) 1 := ⟨gt_of (gt6 (List.mem_of_getElem? (i := 225) rfl)) rfl, gt_of (gt1 (List.mem_of_getElem? (i := 15) rfl)) rfl, by decide, by decide, by decide +kernel⟩
theorem st_X12_bits : Cond.static yX12_bits ∈ gtbl := gt_of (gt6 (List.mem_of_getElem? (i := 224) rfl)) rfl
theorem cd_X12_canGoThrough : CD yX12_canGoThrough cX12_canGoThrough 3 (some .boolean) 0 := ⟨gt_of (gt7 (List.mem_of_getElem? (i := 34) rfl)) rfl, gt_of (gt1 (List.mem_of_getElem? (i := 15) rfl)) rfl, by decide, by decide, by decide +kernel⟩
theorem cv_X12_canGoThrough : CV yX12_canGoThrough := ⟨gt_of (gt7 (List.mem_of_getElem? (i := 33) rfl)) rfl, gp_of (List.mem_of_getElem? (i := 99) rfl) rfl⟩
theorem cd_X12_check : CD yX12_check cX12_check 3 (some .int) 1 := ⟨gt_of (gt7 (List.mem_of_getElem? (i := 105) rfl)) rfl, gt_of (gt1 (List.mem_of_getElem? (i := 15) rfl)) rfl, by decide, by decide, by decide +kernel⟩
theorem cv_X12_check : CV yX12_check := ⟨gt_of (gt7 (List.mem_of_getElem? (i := 103) rfl)) rfl, gt_of (gt7 (List.mem_of_getElem? (i := 104) rfl)) rfl⟩
theorem cd_X12_closes : CD yX12_closes cX12_closes 2 none 0 := ⟨gt_of (gt6 (List.mem_of_getElem? (i := 142) rfl)) rfl, gt_of (gt1 (List.mem_of_getElem? (i := 15) rfl)) rfl, by decide, by decide, by decide +kernel⟩
theorem cv_X12_closes : CV yX12_closes := ⟨gt_of (gt6 (List.mem_of_getElem? (i := 141) rfl)) rfl, gp_of (List.mem_of_getElem? (i := 77) rfl) rfl⟩
theorem cd_X12_closesSums : CD yX12_closesSums cX12_closesSums 2 none 1 := ⟨gt_of (gt6 (List.mem_of_getElem? (i := 78) rfl)) rfl, gt_of (gt1 (List.mem_of_getElem? (i := 15) rfl)) rfl, by decide, by decide, by decide +kernel⟩
theorem cv_X12_closesSums : CV yX12_closesSums := ⟨gt_of (gt6 (List.mem_of_getElem? (i := 77) rfl)) rfl, gp_of (List.mem_of_getElem? (i := 62) rfl) rfl⟩
theorem cd_X12_comesTo : CD yX12_comesTo cX12_comesTo 8 (some .int) 2 := ⟨gt_of (gt6 (List.mem_of_getElem? (i := 207) rfl)) rfl, gt_of (gt1 (List.mem_of_getElem? (i := 15) rfl)) rfl, by decide, by decide, by decide +kernel⟩
theorem cv_X12_comesTo : CV yX12_comesTo := ⟨gt_of (gt6 (List.mem_of_getElem? (i := 206) rfl)) rfl, gp_of (List.mem_of_getElem? (i := 90) rfl) rfl⟩
theorem cd_X12_count : CD yX12_count cX12_count 2 (some .int) 1 := ⟨gt_of (gt7 (List.mem_of_getElem? (i := 113) rfl)) rfl, gt_of (gt1 (List.mem_of_getElem? (i := 15) rfl)) rfl, by decide, by decide, by decide +kernel⟩
theorem cv_X12_count : CV yX12_count := ⟨gt_of (gt7 (List.mem_of_getElem? (i := 111) rfl)) rfl, gt_of (gt7 (List.mem_of_getElem? (i := 112) rfl)) rfl⟩
theorem cd_X12_dips : CD yX12_dips cX12_dips 2 none 1 := ⟨gt_of (gt6 (List.mem_of_getElem? (i := 184) rfl)) rfl, gt_of (gt1 (List.mem_of_getElem? (i := 15) rfl)) rfl, by decide, by decide, by decide +kernel⟩
theorem cv_X12_dips : CV yX12_dips := ⟨gt_of (gt6 (List.mem_of_getElem? (i := 183) rfl)) rfl, gp_of (List.mem_of_getElem? (i := 85) rfl) rfl⟩
theorem cd_X12_does : CD yX12_does cX12_does 4 none 3 := ⟨gt_of (gt6 (List.mem_of_getElem? (i := 180) rfl)) rfl, gt_of (gt1 (List.mem_of_getElem? (i := 15) rfl)) rfl, by decide, by decide, by decide +kernel⟩
theorem cv_X12_does : CV yX12_does := ⟨gt_of (gt6 (List.mem_of_getElem? (i := 179) rfl)) rfl, gp_of (List.mem_of_getElem? (i := 84) rfl) rfl⟩
theorem cd_X12_done : CD yX12_done cX12_done 4 (some .int) 2 := ⟨gt_of (gt6 (List.mem_of_getElem? (i := 214) rfl)) rfl, gt_of (gt1 (List.mem_of_getElem? (i := 15) rfl)) rfl, by decide, by decide, by decide +kernel⟩
theorem cv_X12_done : CV yX12_done := ⟨gt_of (gt6 (List.mem_of_getElem? (i := 212) rfl)) rfl, gt_of (gt6 (List.mem_of_getElem? (i := 213) rfl)) rfl⟩
theorem cd_X12_endOtherwise : CD yX12_endOtherwise cX12_endOtherwise 6 (some .boolean) 2 := ⟨gt_of (gt7 (List.mem_of_getElem? (i := 13) rfl)) rfl, gt_of (gt1 (List.mem_of_getElem? (i := 15) rfl)) rfl, by decide, by decide, by decide +kernel⟩
theorem cv_X12_endOtherwise : CV yX12_endOtherwise := ⟨gt_of (gt7 (List.mem_of_getElem? (i := 12) rfl)) rfl, gp_of (List.mem_of_getElem? (i := 97) rfl) rfl⟩
theorem cd_X12_endsPiece : CD yX12_endsPiece cX12_endsPiece 1 none 0 := ⟨gt_of (gt6 (List.mem_of_getElem? (i := 90) rfl)) rfl, gt_of (gt1 (List.mem_of_getElem? (i := 15) rfl)) rfl, by decide, by decide, by decide +kernel⟩
theorem cv_X12_endsPiece : CV yX12_endsPiece := ⟨gt_of (gt6 (List.mem_of_getElem? (i := 89) rfl)) rfl, gp_of (List.mem_of_getElem? (i := 65) rfl) rfl⟩
theorem cd_X12_factOf : CD yX12_factOf cX12_factOf 1 (some .int) 1 := ⟨gt_of (gt6 (List.mem_of_getElem? (i := 71) rfl)) rfl, gt_of (gt1 (List.mem_of_getElem? (i := 15) rfl)) rfl, by decide, by decide, by decide +kernel⟩
theorem st_X12_factOf : Cond.static yX12_factOf ∈ gtbl := gt_of (gt6 (List.mem_of_getElem? (i := 70) rfl)) rfl
theorem cd_X12_feed : CD yX12_feed cX12_feed 6 (some .int) 5 := ⟨gt_of (gt6 (List.mem_of_getElem? (i := 11) rfl)) rfl, gt_of (gt1 (List.mem_of_getElem? (i := 15) rfl)) rfl, by decide, by decide, by decide +kernel⟩
theorem cv_X12_feed : CV yX12_feed := ⟨gt_of (gt6 (List.mem_of_getElem? (i := 9) rfl)) rfl, gt_of (gt6 (List.mem_of_getElem? (i := 10) rfl)) rfl⟩
theorem cd_X12_finds : CD yX12_finds cX12_finds 3 none 1 := ⟨gt_of (gt6 (List.mem_of_getElem? (i := 237) rfl)) rfl, gt_of (gt1 (List.mem_of_getElem? (i := 15) rfl)) rfl, by decide, by decide, by decide +kernel⟩
theorem cv_X12_finds : CV yX12_finds := ⟨gt_of (gt6 (List.mem_of_getElem? (i := 236) rfl)) rfl, gp_of (List.mem_of_getElem? (i := 94) rfl) rfl⟩
theorem cd_X12_fit : CD yX12_fit cX12_fit 7 (some .int) 5 := ⟨gt_of (gt7 (List.mem_of_getElem? (i := 17) rfl)) rfl, gt_of (gt1 (List.mem_of_getElem? (i := 15) rfl)) rfl, by decide, by decide, by decide +kernel⟩
theorem cv_X12_fit : CV yX12_fit := ⟨gt_of (gt7 (List.mem_of_getElem? (i := 15) rfl)) rfl, gt_of (gt7 (List.mem_of_getElem? (i := 16) rfl)) rfl⟩
theorem cd_X12_frameNow : CD yX12_frameNow cX12_frameNow 1 (some .int) 0 := ⟨gt_of (gt6 (List.mem_of_getElem? (i := 138) rfl)) rfl, gt_of (gt1 (List.mem_of_getElem? (i := 15) rfl)) rfl, by decide, by decide, by decide +kernel⟩
theorem cv_X12_frameNow : CV yX12_frameNow := ⟨gt_of (gt6 (List.mem_of_getElem? (i := 137) rfl)) rfl, gp_of (List.mem_of_getElem? (i := 76) rfl) rfl⟩
theorem cd_X12_goesOn : CD yX12_goesOn cX12_goesOn 2 none 1 := ⟨gt_of (gt6 (List.mem_of_getElem? (i := 168) rfl)) rfl, gt_of (gt1 (List.mem_of_getElem? (i := 15) rfl)) rfl, by decide, by decide, by decide +kernel⟩
theorem cv_X12_goesOn : CV yX12_goesOn := ⟨gt_of (gt6 (List.mem_of_getElem? (i := 167) rfl)) rfl, gp_of (List.mem_of_getElem? (i := 81) rfl) rfl⟩
theorem cd_X12_goesThrough : CD yX12_goesThrough cX12_goesThrough 7 (some .int) 2 := ⟨gt_of (gt7 (List.mem_of_getElem? (i := 42) rfl)) rfl, gt_of (gt1 (List.mem_of_getElem? (i := 15) rfl)) rfl, by decide, by decide, by decide +kernel⟩
theorem cv_X12_goesThrough : CV yX12_goesThrough := ⟨gt_of (gt7 (List.mem_of_getElem? (i := 41) rfl)) rfl, gp_of (List.mem_of_getElem? (i := 101) rfl) rfl⟩
theorem cd_X12_goesToNext : CD yX12_goesToNext cX12_goesToNext 4 (some .boolean) 2 := ⟨gt_of (gt7 (List.mem_of_getElem? (i := 1) rfl)) rfl, gt_of (gt1 (List.mem_of_getElem? (i := 15) rfl)) rfl, by decide, by decide, by decide +kernel⟩
theorem cv_X12_goesToNext : CV yX12_goesToNext := ⟨gt_of (gt7 (List.mem_of_getElem? (i := 0) rfl)) rfl, gp_of (List.mem_of_getElem? (i := 95) rfl) rfl⟩
theorem cd_X12_hasNext : CD yX12_hasNext cX12_hasNext 2 (some .boolean) 1 := ⟨gt_of (gt6 (List.mem_of_getElem? (i := 172) rfl)) rfl, gt_of (gt1 (List.mem_of_getElem? (i := 15) rfl)) rfl, by decide, by decide, by decide +kernel⟩
theorem cv_X12_hasNext : CV yX12_hasNext := ⟨gt_of (gt6 (List.mem_of_getElem? (i := 171) rfl)) rfl, gp_of (List.mem_of_getElem? (i := 82) rfl) rfl⟩
theorem cd_X12_hasOpen : CD yX12_hasOpen cX12_hasOpen 2 (some .boolean) 0 := ⟨gt_of (gt6 (List.mem_of_getElem? (i := 94) rfl)) rfl, gt_of (gt1 (List.mem_of_getElem? (i := 15) rfl)) rfl, by decide, by decide, by decide +kernel⟩
theorem cv_X12_hasOpen : CV yX12_hasOpen := ⟨gt_of (gt6 (List.mem_of_getElem? (i := 93) rfl)) rfl, gp_of (List.mem_of_getElem? (i := 66) rfl) rfl⟩
theorem cd_X12_hasOpenSum : CD yX12_hasOpenSum cX12_hasOpenSum 3 (some .boolean) 1 := ⟨gt_of (gt6 (List.mem_of_getElem? (i := 86) rfl)) rfl, gt_of (gt1 (List.mem_of_getElem? (i := 15) rfl)) rfl, by decide, by decide, by decide +kernel⟩
theorem cv_X12_hasOpenSum : CV yX12_hasOpenSum := ⟨gt_of (gt6 (List.mem_of_getElem? (i := 85) rfl)) rfl, gp_of (List.mem_of_getElem? (i := 64) rfl) rfl⟩
theorem cd_X12_here : CD yX12_here cX12_here 1 (some .int) 0 := ⟨gt_of (gt6 (List.mem_of_getElem? (i := 35) rfl)) rfl, gt_of (gt1 (List.mem_of_getElem? (i := 15) rfl)) rfl, by decide, by decide, by decide +kernel⟩
theorem cv_X12_here : CV yX12_here := ⟨gt_of (gt6 (List.mem_of_getElem? (i := 34) rfl)) rfl, gp_of (List.mem_of_getElem? (i := 53) rfl) rfl⟩
theorem cd_X12_in : CD yX12_in cX12_in 3 (some .boolean) 3 := ⟨gt_of (gt6 (List.mem_of_getElem? (i := 7) rfl)) rfl, gt_of (gt1 (List.mem_of_getElem? (i := 15) rfl)) rfl, by decide, by decide, by decide +kernel⟩
theorem st_X12_in : Cond.static yX12_in ∈ gtbl := gt_of (gt6 (List.mem_of_getElem? (i := 6) rfl)) rfl
theorem cd_X12_init : CD yX12_init cX12_init 2 none 0 := ⟨gt_of (gt5 (List.mem_of_getElem? (i := 30) rfl)) rfl, gt_of (gt1 (List.mem_of_getElem? (i := 15) rfl)) rfl, by decide, by decide, by decide +kernel⟩
theorem cd_X12_isActAt : CD yX12_isActAt cX12_isActAt 2 (some .boolean) 1 := ⟨gt_of (gt7 (List.mem_of_getElem? (i := 62) rfl)) rfl, gt_of (gt1 (List.mem_of_getElem? (i := 15) rfl)) rfl, by decide, by decide, by decide +kernel⟩
theorem cv_X12_isActAt : CV yX12_isActAt := ⟨gt_of (gt7 (List.mem_of_getElem? (i := 61) rfl)) rfl, gp_of (List.mem_of_getElem? (i := 105) rfl) rfl⟩
theorem cd_X12_isDigit : CD yX12_isDigit cX12_isDigit 1 (some .boolean) 0 := ⟨gt_of (gt6 (List.mem_of_getElem? (i := 60) rfl)) rfl, gt_of (gt1 (List.mem_of_getElem? (i := 15) rfl)) rfl, by decide, by decide, by decide +kernel⟩
theorem cv_X12_isDigit : CV yX12_isDigit := ⟨gt_of (gt6 (List.mem_of_getElem? (i := 59) rfl)) rfl, gp_of (List.mem_of_getElem? (i := 59) rfl) rfl⟩
theorem cd_X12_isLimit : CD yX12_isLimit cX12_isLimit 1 (some .boolean) 1 := ⟨gt_of (gt6 (List.mem_of_getElem? (i := 156) rfl)) rfl, gt_of (gt1 (List.mem_of_getElem? (i := 15) rfl)) rfl, by decide, by decide, by decide +kernel⟩
theorem st_X12_isLimit : Cond.static yX12_isLimit ∈ gtbl := gt_of (gt6 (List.mem_of_getElem? (i := 155) rfl)) rfl
theorem cd_X12_isNotFelt : CD yX12_isNotFelt cX12_isNotFelt 5 (some .boolean) 4 := ⟨gt_of (gt7 (List.mem_of_getElem? (i := 58) rfl)) rfl, gt_of (gt1 (List.mem_of_getElem? (i := 15) rfl)) rfl, by decide, by decide, by decide +kernel⟩
theorem cv_X12_isNotFelt : CV yX12_isNotFelt := ⟨gt_of (gt7 (List.mem_of_getElem? (i := 57) rfl)) rfl, gp_of (List.mem_of_getElem? (i := 104) rfl) rfl⟩
theorem cd_X12_isRecipe : CD yX12_isRecipe cX12_isRecipe 1 (some .boolean) 1 := ⟨gt_of (gt6 (List.mem_of_getElem? (i := 153) rfl)) rfl, gt_of (gt1 (List.mem_of_getElem? (i := 15) rfl)) rfl, by decide, by decide, by decide +kernel⟩
theorem st_X12_isRecipe : Cond.static yX12_isRecipe ∈ gtbl := gt_of (gt6 (List.mem_of_getElem? (i := 152) rfl)) rfl
theorem cd_X12_isText : CD yX12_isText cX12_isText 2 (some .boolean) 1 := ⟨gt_of (gt6 (List.mem_of_getElem? (i := 23) rfl)) rfl, gt_of (gt1 (List.mem_of_getElem? (i := 15) rfl)) rfl, by decide, by decide, by decide +kernel⟩
theorem cv_X12_isText : CV yX12_isText := ⟨gt_of (gt6 (List.mem_of_getElem? (i := 22) rfl)) rfl, gp_of (List.mem_of_getElem? (i := 50) rfl) rfl⟩
theorem cd_X12_isVat : CD yX12_isVat cX12_isVat 1 (some .boolean) 1 := ⟨gt_of (gt6 (List.mem_of_getElem? (i := 4) rfl)) rfl, gt_of (gt1 (List.mem_of_getElem? (i := 15) rfl)) rfl, by decide, by decide, by decide +kernel⟩
theorem st_X12_isVat : Cond.static yX12_isVat ∈ gtbl := gt_of (gt6 (List.mem_of_getElem? (i := 3) rfl)) rfl
theorem cd_X12_jumps : CD yX12_jumps cX12_jumps 2 none 1 := ⟨gt_of (gt6 (List.mem_of_getElem? (i := 102) rfl)) rfl, gt_of (gt1 (List.mem_of_getElem? (i := 15) rfl)) rfl, by decide, by decide, by decide +kernel⟩
theorem cv_X12_jumps : CV yX12_jumps := ⟨gt_of (gt6 (List.mem_of_getElem? (i := 101) rfl)) rfl, gp_of (List.mem_of_getElem? (i := 68) rfl) rfl⟩
theorem cd_X12_keep : CD yX12_keep cX12_keep 2 (some .int) 0 := ⟨gt_of (gt7 (List.mem_of_getElem? (i := 93) rfl)) rfl, gt_of (gt1 (List.mem_of_getElem? (i := 15) rfl)) rfl, by decide, by decide, by decide +kernel⟩
theorem cv_X12_keep : CV yX12_keep := ⟨gt_of (gt7 (List.mem_of_getElem? (i := 91) rfl)) rfl, gt_of (gt7 (List.mem_of_getElem? (i := 92) rfl)) rfl⟩
theorem cd_X12_kindsWork : CD yX12_kindsWork cX12_kindsWork 3 none 0 := ⟨gt_of (gt6 (List.mem_of_getElem? (i := 199) rfl)) rfl, gt_of (gt1 (List.mem_of_getElem? (i := 15) rfl)) rfl, by decide, by decide, by decide +kernel⟩
theorem cv_X12_kindsWork : CV yX12_kindsWork := ⟨gt_of (gt6 (List.mem_of_getElem? (i := 198) rfl)) rfl, gp_of (List.mem_of_getElem? (i := 88) rfl) rfl⟩
theorem cd_X12_lands : CD yX12_lands cX12_lands 3 none 1 := ⟨gt_of (gt6 (List.mem_of_getElem? (i := 98) rfl)) rfl, gt_of (gt1 (List.mem_of_getElem? (i := 15) rfl)) rfl, by decide, by decide, by decide +kernel⟩
theorem cv_X12_lands : CV yX12_lands := ⟨gt_of (gt6 (List.mem_of_getElem? (i := 97) rfl)) rfl, gp_of (List.mem_of_getElem? (i := 67) rfl) rfl⟩
theorem cd_X12_min : CD yX12_min cX12_min 2 (some .int) 2 := ⟨gt_of (gt6 (List.mem_of_getElem? (i := 195) rfl)) rfl, gt_of (gt1 (List.mem_of_getElem? (i := 15) rfl)) rfl, by decide, by decide, by decide +kernel⟩
theorem st_X12_min : Cond.static yX12_min ∈ gtbl := gt_of (gt6 (List.mem_of_getElem? (i := 194) rfl)) rfl
theorem cd_X12_night : CD yX12_night cX12_night 6 (some .int) 1 := ⟨gt_of (gt7 (List.mem_of_getElem? (i := 88) rfl)) rfl, gt_of (gt1 (List.mem_of_getElem? (i := 15) rfl)) rfl, by decide, by decide, by decide +kernel⟩
theorem cv_X12_night : CV yX12_night := ⟨gt_of (gt7 (List.mem_of_getElem? (i := 86) rfl)) rfl, gt_of (gt7 (List.mem_of_getElem? (i := 87) rfl)) rfl⟩
theorem cd_X12_notes : CD yX12_notes cX12_notes 3 none 2 := ⟨gt_of (gt6 (List.mem_of_getElem? (i := 68) rfl)) rfl, gt_of (gt1 (List.mem_of_getElem? (i := 15) rfl)) rfl, by decide, by decide, by decide +kernel⟩
theorem cv_X12_notes : CV yX12_notes := ⟨gt_of (gt6 (List.mem_of_getElem? (i := 67) rfl)) rfl, gp_of (List.mem_of_getElem? (i := 61) rfl) rfl⟩
theorem cd_X12_opens : CD yX12_opens cX12_opens 2 (some .boolean) 1 := ⟨gt_of (gt6 (List.mem_of_getElem? (i := 39) rfl)) rfl, gt_of (gt1 (List.mem_of_getElem? (i := 15) rfl)) rfl, by decide, by decide, by decide +kernel⟩
theorem cv_X12_opens : CV yX12_opens := ⟨gt_of (gt6 (List.mem_of_getElem? (i := 38) rfl)) rfl, gp_of (List.mem_of_getElem? (i := 54) rfl) rfl⟩
theorem cd_X12_opensActs : CD yX12_opensActs cX12_opensActs 3 (some .boolean) 1 := ⟨gt_of (gt6 (List.mem_of_getElem? (i := 118) rfl)) rfl, gt_of (gt1 (List.mem_of_getElem? (i := 15) rfl)) rfl, by decide, by decide, by decide +kernel⟩
theorem cv_X12_opensActs : CV yX12_opensActs := ⟨gt_of (gt6 (List.mem_of_getElem? (i := 117) rfl)) rfl, gp_of (List.mem_of_getElem? (i := 71) rfl) rfl⟩
theorem cd_X12_order : CD yX12_order cX12_order 6 (some .int) 2 := ⟨gt_of (gt7 (List.mem_of_getElem? (i := 74) rfl)) rfl, gt_of (gt1 (List.mem_of_getElem? (i := 15) rfl)) rfl, by decide, by decide, by decide +kernel⟩
theorem cv_X12_order : CV yX12_order := ⟨gt_of (gt7 (List.mem_of_getElem? (i := 72) rfl)) rfl, gt_of (gt7 (List.mem_of_getElem? (i := 73) rfl)) rfl⟩
theorem cd_X12_pours : CD yX12_pours cX12_pours 5 none 3 := ⟨gt_of (gt6 (List.mem_of_getElem? (i := 192) rfl)) rfl, gt_of (gt1 (List.mem_of_getElem? (i := 15) rfl)) rfl, by decide, by decide, by decide +kernel⟩
theorem cv_X12_pours : CV yX12_pours := ⟨gt_of (gt6 (List.mem_of_getElem? (i := 191) rfl)) rfl, gp_of (List.mem_of_getElem? (i := 87) rfl) rfl⟩
theorem cd_X12_priceBy : CD yX12_priceBy cX12_priceBy 5 (some .int) 2 := ⟨gt_of (gt7 (List.mem_of_getElem? (i := 79) rfl)) rfl, gt_of (gt1 (List.mem_of_getElem? (i := 15) rfl)) rfl, by decide, by decide, by decide +kernel⟩
theorem cv_X12_priceBy : CV yX12_priceBy := ⟨gt_of (gt7 (List.mem_of_getElem? (i := 78) rfl)) rfl, gp_of (List.mem_of_getElem? (i := 107) rfl) rfl⟩
theorem cd_X12_proved : CD yX12_proved cX12_proved 6 (some .int) 4 := ⟨gt_of (gt6 (List.mem_of_getElem? (i := 218) rfl)) rfl, gt_of (gt1 (List.mem_of_getElem? (i := 15) rfl)) rfl, by decide, by decide, by decide +kernel⟩
theorem cv_X12_proved : CV yX12_proved := ⟨gt_of (gt6 (List.mem_of_getElem? (i := 216) rfl)) rfl, gt_of (gt6 (List.mem_of_getElem? (i := 217) rfl)) rfl⟩
theorem cd_X12_puts : CD yX12_puts cX12_puts 4 none 3 := ⟨gt_of (gt6 (List.mem_of_getElem? (i := 126) rfl)) rfl, gt_of (gt1 (List.mem_of_getElem? (i := 15) rfl)) rfl, by decide, by decide, by decide +kernel⟩
theorem cv_X12_puts : CV yX12_puts := ⟨gt_of (gt6 (List.mem_of_getElem? (i := 125) rfl)) rfl, gp_of (List.mem_of_getElem? (i := 73) rfl) rfl⟩
theorem cd_X12_readsAct : CD yX12_readsAct cX12_readsAct 2 (some .boolean) 0 := ⟨gt_of (gt6 (List.mem_of_getElem? (i := 114) rfl)) rfl, gt_of (gt1 (List.mem_of_getElem? (i := 15) rfl)) rfl, by decide, by decide, by decide +kernel⟩
theorem cv_X12_readsAct : CV yX12_readsAct := ⟨gt_of (gt6 (List.mem_of_getElem? (i := 113) rfl)) rfl, gp_of (List.mem_of_getElem? (i := 70) rfl) rfl⟩
theorem cd_X12_readsCompared : CD yX12_readsCompared cX12_readsCompared 2 (some .boolean) 0 := ⟨gt_of (gt6 (List.mem_of_getElem? (i := 48) rfl)) rfl, gt_of (gt1 (List.mem_of_getElem? (i := 15) rfl)) rfl, by decide, by decide, by decide +kernel⟩
theorem cv_X12_readsCompared : CV yX12_readsCompared := ⟨gt_of (gt6 (List.mem_of_getElem? (i := 47) rfl)) rfl, gp_of (List.mem_of_getElem? (i := 56) rfl) rfl⟩
theorem cd_X12_readsFactor : CD yX12_readsFactor cX12_readsFactor 2 (some .boolean) 0 := ⟨gt_of (gt6 (List.mem_of_getElem? (i := 56) rfl)) rfl, gt_of (gt1 (List.mem_of_getElem? (i := 15) rfl)) rfl, by decide, by decide, by decide +kernel⟩
theorem cv_X12_readsFactor : CV yX12_readsFactor := ⟨gt_of (gt6 (List.mem_of_getElem? (i := 55) rfl)) rfl, gp_of (List.mem_of_getElem? (i := 58) rfl) rfl⟩
theorem cd_X12_readsNumber : CD yX12_readsNumber cX12_readsNumber 2 (some .boolean) 0 := ⟨gt_of (gt6 (List.mem_of_getElem? (i := 64) rfl)) rfl, gt_of (gt1 (List.mem_of_getElem? (i := 15) rfl)) rfl, by decide, by decide, by decide +kernel⟩
theorem cv_X12_readsNumber : CV yX12_readsNumber := ⟨gt_of (gt6 (List.mem_of_getElem? (i := 63) rfl)) rfl, gp_of (List.mem_of_getElem? (i := 60) rfl) rfl⟩
theorem cd_X12_readsOne : CD yX12_readsOne cX12_readsOne 2 (some .boolean) 1 := ⟨gt_of (gt6 (List.mem_of_getElem? (i := 130) rfl)) rfl, gt_of (gt1 (List.mem_of_getElem? (i := 15) rfl)) rfl, by decide, by decide, by decide +kernel⟩
theorem cv_X12_readsOne : CV yX12_readsOne := ⟨gt_of (gt6 (List.mem_of_getElem? (i := 129) rfl)) rfl, gp_of (List.mem_of_getElem? (i := 74) rfl) rfl⟩
theorem cd_X12_readsRecipe : CD yX12_readsRecipe cX12_readsRecipe 1 (some .boolean) 0 := ⟨gt_of (gt6 (List.mem_of_getElem? (i := 110) rfl)) rfl, gt_of (gt1 (List.mem_of_getElem? (i := 15) rfl)) rfl, by decide, by decide, by decide +kernel⟩
theorem cv_X12_readsRecipe : CV yX12_readsRecipe := ⟨gt_of (gt6 (List.mem_of_getElem? (i := 109) rfl)) rfl, gp_of (List.mem_of_getElem? (i := 69) rfl) rfl⟩
theorem cd_X12_readsSpec : CD yX12_readsSpec cX12_readsSpec 1 (some .boolean) 0 := ⟨gt_of (gt6 (List.mem_of_getElem? (i := 31) rfl)) rfl, gt_of (gt1 (List.mem_of_getElem? (i := 15) rfl)) rfl, by decide, by decide, by decide +kernel⟩
theorem cv_X12_readsSpec : CV yX12_readsSpec := ⟨gt_of (gt6 (List.mem_of_getElem? (i := 30) rfl)) rfl, gp_of (List.mem_of_getElem? (i := 52) rfl) rfl⟩
theorem cd_X12_readsSum : CD yX12_readsSum cX12_readsSum 3 (some .boolean) 0 := ⟨gt_of (gt6 (List.mem_of_getElem? (i := 52) rfl)) rfl, gt_of (gt1 (List.mem_of_getElem? (i := 15) rfl)) rfl, by decide, by decide, by decide +kernel⟩
theorem cv_X12_readsSum : CV yX12_readsSum := ⟨gt_of (gt6 (List.mem_of_getElem? (i := 51) rfl)) rfl, gp_of (List.mem_of_getElem? (i := 57) rfl) rfl⟩
theorem cd_X12_readsTwo : CD yX12_readsTwo cX12_readsTwo 3 (some .boolean) 1 := ⟨gt_of (gt6 (List.mem_of_getElem? (i := 134) rfl)) rfl, gt_of (gt1 (List.mem_of_getElem? (i := 15) rfl)) rfl, by decide, by decide, by decide +kernel⟩
theorem cv_X12_readsTwo : CV yX12_readsTwo := ⟨gt_of (gt6 (List.mem_of_getElem? (i := 133) rfl)) rfl, gp_of (List.mem_of_getElem? (i := 75) rfl) rfl⟩
theorem cd_X12_recipe : CD yX12_recipe cX12_recipe 5 (some .int) 2 := ⟨gt_of (gt6 (List.mem_of_getElem? (i := 106) rfl)) rfl, gt_of (gt1 (List.mem_of_getElem? (i := 15) rfl)) rfl, by decide, by decide, by decide +kernel⟩
theorem cv_X12_recipe : CV yX12_recipe := ⟨gt_of (gt6 (List.mem_of_getElem? (i := 104) rfl)) rfl, gt_of (gt6 (List.mem_of_getElem? (i := 105) rfl)) rfl⟩
theorem cd_X12_reckon : CD yX12_reckon cX12_reckon 3 (some .int) 3 := ⟨gt_of (gt6 (List.mem_of_getElem? (i := 210) rfl)) rfl, gt_of (gt1 (List.mem_of_getElem? (i := 15) rfl)) rfl, by decide, by decide, by decide +kernel⟩
theorem st_X12_reckon : Cond.static yX12_reckon ∈ gtbl := gt_of (gt6 (List.mem_of_getElem? (i := 209) rfl)) rfl
theorem cd_X12_round : CD yX12_round cX12_round 6 (some .int) 2 := ⟨gt_of (gt7 (List.mem_of_getElem? (i := 21) rfl)) rfl, gt_of (gt1 (List.mem_of_getElem? (i := 15) rfl)) rfl, by decide, by decide, by decide +kernel⟩
theorem cv_X12_round : CV yX12_round := ⟨gt_of (gt7 (List.mem_of_getElem? (i := 19) rfl)) rfl, gt_of (gt7 (List.mem_of_getElem? (i := 20) rfl)) rfl⟩
theorem cd_X12_run : CD yX12_run cX12_run 4 (some .int) 3 := ⟨gt_of (gt6 (List.mem_of_getElem? (i := 150) rfl)) rfl, gt_of (gt1 (List.mem_of_getElem? (i := 15) rfl)) rfl, by decide, by decide, by decide +kernel⟩
theorem cv_X12_run : CV yX12_run := ⟨gt_of (gt6 (List.mem_of_getElem? (i := 148) rfl)) rfl, gt_of (gt6 (List.mem_of_getElem? (i := 149) rfl)) rfl⟩
theorem cd_X12_runsFrom : CD yX12_runsFrom cX12_runsFrom 2 none 1 := ⟨gt_of (gt6 (List.mem_of_getElem? (i := 233) rfl)) rfl, gt_of (gt1 (List.mem_of_getElem? (i := 15) rfl)) rfl, by decide, by decide, by decide +kernel⟩
theorem cv_X12_runsFrom : CV yX12_runsFrom := ⟨gt_of (gt6 (List.mem_of_getElem? (i := 232) rfl)) rfl, gp_of (List.mem_of_getElem? (i := 93) rfl) rfl⟩
theorem cd_X12_runsOn : CD yX12_runsOn cX12_runsOn 3 none 2 := ⟨gt_of (gt6 (List.mem_of_getElem? (i := 164) rfl)) rfl, gt_of (gt1 (List.mem_of_getElem? (i := 15) rfl)) rfl, by decide, by decide, by decide +kernel⟩
theorem cv_X12_runsOn : CV yX12_runsOn := ⟨gt_of (gt6 (List.mem_of_getElem? (i := 163) rfl)) rfl, gp_of (List.mem_of_getElem? (i := 80) rfl) rfl⟩
theorem cd_X12_seed : CD yX12_seed cX12_seed 2 (some .boolean) 1 := ⟨gt_of (gt7 (List.mem_of_getElem? (i := 83) rfl)) rfl, gt_of (gt1 (List.mem_of_getElem? (i := 15) rfl)) rfl, by decide, by decide, by decide +kernel⟩
theorem cv_X12_seed : CV yX12_seed := ⟨gt_of (gt7 (List.mem_of_getElem? (i := 81) rfl)) rfl, gt_of (gt7 (List.mem_of_getElem? (i := 82) rfl)) rfl⟩
theorem cd_X12_shortest : CD yX12_shortest cX12_shortest 6 (some .int) 1 := ⟨gt_of (gt7 (List.mem_of_getElem? (i := 30) rfl)) rfl, gt_of (gt1 (List.mem_of_getElem? (i := 15) rfl)) rfl, by decide, by decide, by decide +kernel⟩
theorem cv_X12_shortest : CV yX12_shortest := ⟨gt_of (gt7 (List.mem_of_getElem? (i := 28) rfl)) rfl, gt_of (gt7 (List.mem_of_getElem? (i := 29) rfl)) rfl⟩
theorem cd_X12_slips : CD yX12_slips cX12_slips 8 (some .int) 3 := ⟨gt_of (gt7 (List.mem_of_getElem? (i := 54) rfl)) rfl, gt_of (gt1 (List.mem_of_getElem? (i := 15) rfl)) rfl, by decide, by decide, by decide +kernel⟩
theorem cv_X12_slips : CV yX12_slips := ⟨gt_of (gt7 (List.mem_of_getElem? (i := 52) rfl)) rfl, gt_of (gt7 (List.mem_of_getElem? (i := 53) rfl)) rfl⟩
theorem cd_X12_spec : CD yX12_spec cX12_spec 4 (some .int) 1 := ⟨gt_of (gt6 (List.mem_of_getElem? (i := 19) rfl)) rfl, gt_of (gt1 (List.mem_of_getElem? (i := 15) rfl)) rfl, by decide, by decide, by decide +kernel⟩
theorem cv_X12_spec : CV yX12_spec := ⟨gt_of (gt6 (List.mem_of_getElem? (i := 17) rfl)) rfl, gt_of (gt6 (List.mem_of_getElem? (i := 18) rfl)) rfl⟩
theorem cd_X12_specHolds : CD yX12_specHolds cX12_specHolds 2 (some .boolean) 0 := ⟨gt_of (gt6 (List.mem_of_getElem? (i := 203) rfl)) rfl, gt_of (gt1 (List.mem_of_getElem? (i := 15) rfl)) rfl, by decide, by decide, by decide +kernel⟩
theorem cv_X12_specHolds : CV yX12_specHolds := ⟨gt_of (gt6 (List.mem_of_getElem? (i := 202) rfl)) rfl, gp_of (List.mem_of_getElem? (i := 89) rfl) rfl⟩
theorem cd_X12_standingNow : CD yX12_standingNow cX12_standingNow 4 (some .long) 0 := ⟨gt_of (gt7 (List.mem_of_getElem? (i := 25) rfl)) rfl, gt_of (gt1 (List.mem_of_getElem? (i := 15) rfl)) rfl, by decide, by decide, by decide +kernel⟩
theorem cv_X12_standingNow : CV yX12_standingNow := ⟨gt_of (gt7 (List.mem_of_getElem? (i := 24) rfl)) rfl, gp_of (List.mem_of_getElem? (i := 98) rfl) rfl⟩
theorem cd_X12_standingOf : CD yX12_standingOf cX12_standingOf 3 (some .int) 0 := ⟨gt_of (gt7 (List.mem_of_getElem? (i := 38) rfl)) rfl, gt_of (gt1 (List.mem_of_getElem? (i := 15) rfl)) rfl, by decide, by decide, by decide +kernel⟩
theorem cv_X12_standingOf : CV yX12_standingOf := ⟨gt_of (gt7 (List.mem_of_getElem? (i := 37) rfl)) rfl, gp_of (List.mem_of_getElem? (i := 100) rfl) rfl⟩
theorem cd_X12_standsAt : CD yX12_standsAt cX12_standsAt 4 none 1 := ⟨gt_of (gt7 (List.mem_of_getElem? (i := 46) rfl)) rfl, gt_of (gt1 (List.mem_of_getElem? (i := 15) rfl)) rfl, by decide, by decide, by decide +kernel⟩
theorem cv_X12_standsAt : CV yX12_standsAt := ⟨gt_of (gt7 (List.mem_of_getElem? (i := 45) rfl)) rfl, gp_of (List.mem_of_getElem? (i := 102) rfl) rfl⟩
theorem cd_X12_startsBeginnings : CD yX12_startsBeginnings cX12_startsBeginnings 3 none 1 := ⟨gt_of (gt6 (List.mem_of_getElem? (i := 229) rfl)) rfl, gt_of (gt1 (List.mem_of_getElem? (i := 15) rfl)) rfl, by decide, by decide, by decide +kernel⟩
theorem cv_X12_startsBeginnings : CV yX12_startsBeginnings := ⟨gt_of (gt6 (List.mem_of_getElem? (i := 228) rfl)) rfl, gp_of (List.mem_of_getElem? (i := 92) rfl) rfl⟩
theorem cd_X12_startsFrom : CD yX12_startsFrom cX12_startsFrom 3 none 1 := ⟨gt_of (gt6 (List.mem_of_getElem? (i := 160) rfl)) rfl, gt_of (gt1 (List.mem_of_getElem? (i := 15) rfl)) rfl, by decide, by decide, by decide +kernel⟩
theorem cv_X12_startsFrom : CV yX12_startsFrom := ⟨gt_of (gt6 (List.mem_of_getElem? (i := 159) rfl)) rfl, gp_of (List.mem_of_getElem? (i := 79) rfl) rfl⟩
theorem cd_X12_steps : CD yX12_steps cX12_steps 6 none 2 := ⟨gt_of (gt6 (List.mem_of_getElem? (i := 176) rfl)) rfl, gt_of (gt1 (List.mem_of_getElem? (i := 15) rfl)) rfl, by decide, by decide, by decide +kernel⟩
theorem cv_X12_steps : CV yX12_steps := ⟨gt_of (gt6 (List.mem_of_getElem? (i := 175) rfl)) rfl, gp_of (List.mem_of_getElem? (i := 83) rfl) rfl⟩
theorem cd_X12_sum : CD yX12_sum cX12_sum 6 (some .int) 4 := ⟨gt_of (gt7 (List.mem_of_getElem? (i := 66) rfl)) rfl, gt_of (gt1 (List.mem_of_getElem? (i := 15) rfl)) rfl, by decide, by decide, by decide +kernel⟩
theorem cv_X12_sum : CV yX12_sum := ⟨gt_of (gt7 (List.mem_of_getElem? (i := 64) rfl)) rfl, gt_of (gt7 (List.mem_of_getElem? (i := 65) rfl)) rfl⟩
theorem cd_X12_sumSign : CD yX12_sumSign cX12_sumSign 1 (some .int) 1 := ⟨gt_of (gt6 (List.mem_of_getElem? (i := 74) rfl)) rfl, gt_of (gt1 (List.mem_of_getElem? (i := 15) rfl)) rfl, by decide, by decide, by decide +kernel⟩
theorem st_X12_sumSign : Cond.static yX12_sumSign ∈ gtbl := gt_of (gt6 (List.mem_of_getElem? (i := 73) rfl)) rfl
theorem cd_X12_takesNow : CD yX12_takesNow cX12_takesNow 3 (some .int) 1 := ⟨gt_of (gt7 (List.mem_of_getElem? (i := 70) rfl)) rfl, gt_of (gt1 (List.mem_of_getElem? (i := 15) rfl)) rfl, by decide, by decide, by decide +kernel⟩
theorem cv_X12_takesNow : CV yX12_takesNow := ⟨gt_of (gt7 (List.mem_of_getElem? (i := 69) rfl)) rfl, gp_of (List.mem_of_getElem? (i := 106) rfl) rfl⟩
theorem cd_X12_takesOut : CD yX12_takesOut cX12_takesOut 2 none 1 := ⟨gt_of (gt6 (List.mem_of_getElem? (i := 188) rfl)) rfl, gt_of (gt1 (List.mem_of_getElem? (i := 15) rfl)) rfl, by decide, by decide, by decide +kernel⟩
theorem cv_X12_takesOut : CV yX12_takesOut := ⟨gt_of (gt6 (List.mem_of_getElem? (i := 187) rfl)) rfl, gp_of (List.mem_of_getElem? (i := 86) rfl) rfl⟩
theorem cd_X12_takesVat : CD yX12_takesVat cX12_takesVat 1 (some .boolean) 0 := ⟨gt_of (gt6 (List.mem_of_getElem? (i := 122) rfl)) rfl, gt_of (gt1 (List.mem_of_getElem? (i := 15) rfl)) rfl, by decide, by decide, by decide +kernel⟩
theorem cv_X12_takesVat : CV yX12_takesVat := ⟨gt_of (gt6 (List.mem_of_getElem? (i := 121) rfl)) rfl, gp_of (List.mem_of_getElem? (i := 72) rfl) rfl⟩
theorem cd_X12_tapeNumber : CD yX12_tapeNumber cX12_tapeNumber 4 (some .int) 1 := ⟨gt_of (gt7 (List.mem_of_getElem? (i := 109) rfl)) rfl, gt_of (gt1 (List.mem_of_getElem? (i := 15) rfl)) rfl, by decide, by decide, by decide +kernel⟩
theorem cv_X12_tapeNumber : CV yX12_tapeNumber := ⟨gt_of (gt7 (List.mem_of_getElem? (i := 108) rfl)) rfl, gp_of (List.mem_of_getElem? (i := 109) rfl) rfl⟩
theorem cd_X12_tellsFound : CD yX12_tellsFound cX12_tellsFound 2 (some .int) 1 := ⟨gt_of (gt7 (List.mem_of_getElem? (i := 5) rfl)) rfl, gt_of (gt1 (List.mem_of_getElem? (i := 15) rfl)) rfl, by decide, by decide, by decide +kernel⟩
theorem cv_X12_tellsFound : CV yX12_tellsFound := ⟨gt_of (gt7 (List.mem_of_getElem? (i := 4) rfl)) rfl, gp_of (List.mem_of_getElem? (i := 96) rfl) rfl⟩
theorem cd_X12_together : CD yX12_together cX12_together 3 (some .int) 0 := ⟨gt_of (gt7 (List.mem_of_getElem? (i := 97) rfl)) rfl, gt_of (gt1 (List.mem_of_getElem? (i := 15) rfl)) rfl, by decide, by decide, by decide +kernel⟩
theorem cv_X12_together : CV yX12_together := ⟨gt_of (gt7 (List.mem_of_getElem? (i := 96) rfl)) rfl, gp_of (List.mem_of_getElem? (i := 108) rfl) rfl⟩
theorem cd_X12_top : CD yX12_top cX12_top 1 (some .int) 0 := ⟨gt_of (gt6 (List.mem_of_getElem? (i := 82) rfl)) rfl, gt_of (gt1 (List.mem_of_getElem? (i := 15) rfl)) rfl, by decide, by decide, by decide +kernel⟩
theorem cv_X12_top : CV yX12_top := ⟨gt_of (gt6 (List.mem_of_getElem? (i := 81) rfl)) rfl, gp_of (List.mem_of_getElem? (i := 63) rfl) rfl⟩
theorem cd_X12_turns : CD yX12_turns cX12_turns 2 none 0 := ⟨gt_of (gt6 (List.mem_of_getElem? (i := 146) rfl)) rfl, gt_of (gt1 (List.mem_of_getElem? (i := 15) rfl)) rfl, by decide, by decide, by decide +kernel⟩
theorem cv_X12_turns : CV yX12_turns := ⟨gt_of (gt6 (List.mem_of_getElem? (i := 145) rfl)) rfl, gp_of (List.mem_of_getElem? (i := 78) rfl) rfl⟩
theorem cd_X12_types : CD yX12_types cX12_types 3 none 1 := ⟨gt_of (gt6 (List.mem_of_getElem? (i := 15) rfl)) rfl, gt_of (gt1 (List.mem_of_getElem? (i := 15) rfl)) rfl, by decide, by decide, by decide +kernel⟩
theorem cv_X12_types : CV yX12_types := ⟨gt_of (gt6 (List.mem_of_getElem? (i := 14) rfl)) rfl, gp_of (List.mem_of_getElem? (i := 49) rfl) rfl⟩
theorem cd_X12_undo : CD yX12_undo cX12_undo 2 (some .boolean) 0 := ⟨gt_of (gt7 (List.mem_of_getElem? (i := 101) rfl)) rfl, gt_of (gt1 (List.mem_of_getElem? (i := 15) rfl)) rfl, by decide, by decide, by decide +kernel⟩
theorem cv_X12_undo : CV yX12_undo := ⟨gt_of (gt7 (List.mem_of_getElem? (i := 99) rfl)) rfl, gt_of (gt7 (List.mem_of_getElem? (i := 100) rfl)) rfl⟩
theorem cd_X12_vat : CD yX12_vat cX12_vat 5 (some .boolean) 4 := ⟨gt_of (gt6 (List.mem_of_getElem? (i := 1) rfl)) rfl, gt_of (gt1 (List.mem_of_getElem? (i := 15) rfl)) rfl, by decide, by decide, by decide +kernel⟩
theorem cv_X12_vat : CV yX12_vat := ⟨gt_of (gt5 (List.mem_of_getElem? (i := 239) rfl)) rfl, gt_of (gt6 (List.mem_of_getElem? (i := 0) rfl)) rfl⟩
theorem cd_X12_wrongAt : CD yX12_wrongAt cX12_wrongAt 3 (some .boolean) 2 := ⟨gt_of (gt6 (List.mem_of_getElem? (i := 43) rfl)) rfl, gt_of (gt1 (List.mem_of_getElem? (i := 15) rfl)) rfl, by decide, by decide, by decide +kernel⟩
theorem cv_X12_wrongAt : CV yX12_wrongAt := ⟨gt_of (gt6 (List.mem_of_getElem? (i := 42) rfl)) rfl, gp_of (List.mem_of_getElem? (i := 55) rfl) rfl⟩
theorem cd_X1_copy : CD yX1_copy cX1_copy 2 none 1 := ⟨gt_of (gt4 (List.mem_of_getElem? (i := 239) rfl)) rfl, gt_of (gt1 (List.mem_of_getElem? (i := 14) rfl)) rfl, by decide, by decide, by decide +kernel⟩
theorem cv_X1_copy : CV yX1_copy := ⟨gt_of (gt4 (List.mem_of_getElem? (i := 237) rfl)) rfl, gt_of (gt4 (List.mem_of_getElem? (i := 238) rfl)) rfl⟩
theorem cd_X1_init : CD yX1_init cX1_init 1 none 0 := ⟨gt_of (gt2 (List.mem_of_getElem? (i := 138) rfl)) rfl, gt_of (gt1 (List.mem_of_getElem? (i := 14) rfl)) rfl, by decide, by decide, by decide +kernel⟩
theorem cd_X2_firstBest : CD yX2_firstBest cX2_firstBest 7 (some .int) 2 := ⟨gt_of (gt4 (List.mem_of_getElem? (i := 208) rfl)) rfl, gt_of (gt1 (List.mem_of_getElem? (i := 13) rfl)) rfl, by decide, by decide, by decide +kernel⟩
theorem cv_X2_firstBest : CV yX2_firstBest := ⟨gt_of (gt4 (List.mem_of_getElem? (i := 207) rfl)) rfl, gp_of (List.mem_of_getElem? (i := 45) rfl) rfl⟩
theorem cd_X2_init : CD yX2_init cX2_init 3 none 2 := ⟨gt_of (gt2 (List.mem_of_getElem? (i := 94) rfl)) rfl, gt_of (gt1 (List.mem_of_getElem? (i := 13) rfl)) rfl, by decide, by decide, by decide +kernel⟩
theorem cd_X2_isOfferGood : CD yX2_isOfferGood cX2_isOfferGood 2 (some .boolean) 0 := ⟨gt_of (gt4 (List.mem_of_getElem? (i := 184) rfl)) rfl, gt_of (gt1 (List.mem_of_getElem? (i := 13) rfl)) rfl, by decide, by decide, by decide +kernel⟩
theorem cv_X2_isOfferGood : CV yX2_isOfferGood := ⟨gt_of (gt4 (List.mem_of_getElem? (i := 182) rfl)) rfl, gt_of (gt4 (List.mem_of_getElem? (i := 183) rfl)) rfl⟩
theorem cd_X2_placed : CD yX2_placed cX2_placed 6 (some .int) 2 := ⟨gt_of (gt4 (List.mem_of_getElem? (i := 217) rfl)) rfl, gt_of (gt1 (List.mem_of_getElem? (i := 13) rfl)) rfl, by decide, by decide, by decide +kernel⟩
theorem cv_X2_placed : CV yX2_placed := ⟨gt_of (gt4 (List.mem_of_getElem? (i := 215) rfl)) rfl, gt_of (gt4 (List.mem_of_getElem? (i := 216) rfl)) rfl⟩
theorem cd_X2_pricesBy : CD yX2_pricesBy cX2_pricesBy 5 (some .int) 2 := ⟨gt_of (gt4 (List.mem_of_getElem? (i := 212) rfl)) rfl, gt_of (gt1 (List.mem_of_getElem? (i := 13) rfl)) rfl, by decide, by decide, by decide +kernel⟩
theorem cv_X2_pricesBy : CV yX2_pricesBy := ⟨gt_of (gt4 (List.mem_of_getElem? (i := 211) rfl)) rfl, gp_of (List.mem_of_getElem? (i := 46) rfl) rfl⟩
theorem cd_X2_stepsOf : CD yX2_stepsOf cX2_stepsOf 4 (some .int) 2 := ⟨gt_of (gt4 (List.mem_of_getElem? (i := 193) rfl)) rfl, gt_of (gt1 (List.mem_of_getElem? (i := 13) rfl)) rfl, by decide, by decide, by decide +kernel⟩
theorem cv_X2_stepsOf : CV yX2_stepsOf := ⟨gt_of (gt4 (List.mem_of_getElem? (i := 191) rfl)) rfl, gt_of (gt4 (List.mem_of_getElem? (i := 192) rfl)) rfl⟩
theorem cd_X2_take : CD yX2_take cX2_take 5 none 4 := ⟨gt_of (gt4 (List.mem_of_getElem? (i := 188) rfl)) rfl, gt_of (gt1 (List.mem_of_getElem? (i := 13) rfl)) rfl, by decide, by decide, by decide +kernel⟩
theorem cv_X2_take : CV yX2_take := ⟨gt_of (gt4 (List.mem_of_getElem? (i := 186) rfl)) rfl, gt_of (gt4 (List.mem_of_getElem? (i := 187) rfl)) rfl⟩
theorem cd_X2_weigh : CD yX2_weigh cX2_weigh 4 none 1 := ⟨gt_of (gt4 (List.mem_of_getElem? (i := 204) rfl)) rfl, gt_of (gt1 (List.mem_of_getElem? (i := 13) rfl)) rfl, by decide, by decide, by decide +kernel⟩
theorem cv_X2_weigh : CV yX2_weigh := ⟨gt_of (gt4 (List.mem_of_getElem? (i := 202) rfl)) rfl, gt_of (gt4 (List.mem_of_getElem? (i := 203) rfl)) rfl⟩
theorem cd_X3_canSeek : CD yX3_canSeek cX3_canSeek 1 (some .boolean) 0 := ⟨gt_of (gt4 (List.mem_of_getElem? (i := 114) rfl)) rfl, gt_of (gt1 (List.mem_of_getElem? (i := 11) rfl)) rfl, by decide, by decide, by decide +kernel⟩
theorem cv_X3_canSeek : CV yX3_canSeek := ⟨gt_of (gt4 (List.mem_of_getElem? (i := 112) rfl)) rfl, gt_of (gt4 (List.mem_of_getElem? (i := 113) rfl)) rfl⟩
theorem cd_X3_comeTo : CD yX3_comeTo cX3_comeTo 3 (some .boolean) 2 := ⟨gt_of (gt4 (List.mem_of_getElem? (i := 156) rfl)) rfl, gt_of (gt1 (List.mem_of_getElem? (i := 11) rfl)) rfl, by decide, by decide, by decide +kernel⟩
theorem cv_X3_comeTo : CV yX3_comeTo := ⟨gt_of (gt4 (List.mem_of_getElem? (i := 155) rfl)) rfl, gp_of (List.mem_of_getElem? (i := 42) rfl) rfl⟩
theorem cd_X3_goFrom : CD yX3_goFrom cX3_goFrom 6 (some .boolean) 2 := ⟨gt_of (gt4 (List.mem_of_getElem? (i := 141) rfl)) rfl, gt_of (gt1 (List.mem_of_getElem? (i := 11) rfl)) rfl, by decide, by decide, by decide +kernel⟩
theorem cv_X3_goFrom : CV yX3_goFrom := ⟨gt_of (gt4 (List.mem_of_getElem? (i := 140) rfl)) rfl, gp_of (List.mem_of_getElem? (i := 39) rfl) rfl⟩
theorem cd_X3_indexOf : CD yX3_indexOf cX3_indexOf 4 (some .int) 1 := ⟨gt_of (gt4 (List.mem_of_getElem? (i := 136) rfl)) rfl, gt_of (gt1 (List.mem_of_getElem? (i := 11) rfl)) rfl, by decide, by decide, by decide +kernel⟩
theorem cv_X3_indexOf : CV yX3_indexOf := ⟨gt_of (gt4 (List.mem_of_getElem? (i := 135) rfl)) rfl, gp_of (List.mem_of_getElem? (i := 38) rfl) rfl⟩
theorem cd_X3_init : CD yX3_init cX3_init 5 none 2 := ⟨gt_of (gt2 (List.mem_of_getElem? (i := 46) rfl)) rfl, gt_of (gt1 (List.mem_of_getElem? (i := 11) rfl)) rfl, by decide, by decide, by decide +kernel⟩
theorem cd_X3_isIdle : CD yX3_isIdle cX3_isIdle 4 (some .boolean) 3 := ⟨gt_of (gt4 (List.mem_of_getElem? (i := 149) rfl)) rfl, gt_of (gt1 (List.mem_of_getElem? (i := 11) rfl)) rfl, by decide, by decide, by decide +kernel⟩
theorem cv_X3_isIdle : CV yX3_isIdle := ⟨gt_of (gt4 (List.mem_of_getElem? (i := 148) rfl)) rfl, gp_of (List.mem_of_getElem? (i := 41) rfl) rfl⟩
theorem cd_X3_retrace : CD yX3_retrace cX3_retrace 6 none 2 := ⟨gt_of (gt4 (List.mem_of_getElem? (i := 161) rfl)) rfl, gt_of (gt1 (List.mem_of_getElem? (i := 11) rfl)) rfl, by decide, by decide, by decide +kernel⟩
theorem cv_X3_retrace : CV yX3_retrace := ⟨gt_of (gt4 (List.mem_of_getElem? (i := 160) rfl)) rfl, gp_of (List.mem_of_getElem? (i := 43) rfl) rfl⟩
theorem cd_X3_seek : CD yX3_seek cX3_seek 7 (some .int) 0 := ⟨gt_of (gt4 (List.mem_of_getElem? (i := 126) rfl)) rfl, gt_of (gt1 (List.mem_of_getElem? (i := 11) rfl)) rfl, by decide, by decide, by decide +kernel⟩
theorem cv_X3_seek : CV yX3_seek := ⟨gt_of (gt4 (List.mem_of_getElem? (i := 124) rfl)) rfl, gt_of (gt4 (List.mem_of_getElem? (i := 125) rfl)) rfl⟩
theorem cd_X3_standings : CD yX3_standings cX3_standings 3 (some .int) 0 := ⟨gt_of (gt4 (List.mem_of_getElem? (i := 118) rfl)) rfl, gt_of (gt1 (List.mem_of_getElem? (i := 11) rfl)) rfl, by decide, by decide, by decide +kernel⟩
theorem cv_X3_standings : CV yX3_standings := ⟨gt_of (gt4 (List.mem_of_getElem? (i := 117) rfl)) rfl, gp_of (List.mem_of_getElem? (i := 37) rfl) rfl⟩
theorem cd_X3_unfold : CD yX3_unfold cX3_unfold 5 none 1 := ⟨gt_of (gt4 (List.mem_of_getElem? (i := 145) rfl)) rfl, gt_of (gt1 (List.mem_of_getElem? (i := 11) rfl)) rfl, by decide, by decide, by decide +kernel⟩
theorem cv_X3_unfold : CV yX3_unfold := ⟨gt_of (gt4 (List.mem_of_getElem? (i := 144) rfl)) rfl, gp_of (List.mem_of_getElem? (i := 40) rfl) rfl⟩
theorem cd_X4_add : CD yX4_add cX4_add 5 (some .int) 3 := ⟨gt_of (gt3 (List.mem_of_getElem? (i := 46) rfl)) rfl, gt_of (gt1 (List.mem_of_getElem? (i := 5) rfl)) rfl, by decide, by decide, by decide +kernel⟩
theorem cv_X4_add : CV yX4_add := ⟨gt_of (gt3 (List.mem_of_getElem? (i := 45) rfl)) rfl, gp_of (List.mem_of_getElem? (i := 4) rfl) rfl⟩
theorem cd_X4_beginsAct : CD yX4_beginsAct cX4_beginsAct 1 (some .boolean) 1 := ⟨gt_of (gt3 (List.mem_of_getElem? (i := 26) rfl)) rfl, gt_of (gt1 (List.mem_of_getElem? (i := 5) rfl)) rfl, by decide, by decide, by decide +kernel⟩
theorem st_X4_beginsAct : Cond.static yX4_beginsAct ∈ gtbl := gt_of (gt3 (List.mem_of_getElem? (i := 25) rfl)) rfl
theorem cd_X4_behindJumps : CD yX4_behindJumps cX4_behindJumps 4 (some .int) 1 := ⟨gt_of (gt3 (List.mem_of_getElem? (i := 88) rfl)) rfl, gt_of (gt1 (List.mem_of_getElem? (i := 5) rfl)) rfl, by decide, by decide, by decide +kernel⟩
theorem cv_X4_behindJumps : CV yX4_behindJumps := ⟨gt_of (gt3 (List.mem_of_getElem? (i := 87) rfl)) rfl, gp_of (List.mem_of_getElem? (i := 11) rfl) rfl⟩
theorem cd_X4_init : CD yX4_init cX4_init 1 none 0 := ⟨gt_of (gt1 (List.mem_of_getElem? (i := 91) rfl)) rfl, gt_of (gt1 (List.mem_of_getElem? (i := 5) rfl)) rfl, by decide, by decide, by decide +kernel⟩
theorem cd_X4_lead : CD yX4_lead cX4_lead 3 none 2 := ⟨gt_of (gt3 (List.mem_of_getElem? (i := 72) rfl)) rfl, gt_of (gt1 (List.mem_of_getElem? (i := 5) rfl)) rfl, by decide, by decide, by decide +kernel⟩
theorem cv_X4_lead : CV yX4_lead := ⟨gt_of (gt3 (List.mem_of_getElem? (i := 71) rfl)) rfl, gp_of (List.mem_of_getElem? (i := 8) rfl) rfl⟩
theorem cd_X4_maySlip : CD yX4_maySlip cX4_maySlip 2 (some .boolean) 1 := ⟨gt_of (gt4 (List.mem_of_getElem? (i := 174) rfl)) rfl, gt_of (gt1 (List.mem_of_getElem? (i := 5) rfl)) rfl, by decide, by decide, by decide +kernel⟩
theorem cv_X4_maySlip : CV yX4_maySlip := ⟨gt_of (gt4 (List.mem_of_getElem? (i := 172) rfl)) rfl, gt_of (gt4 (List.mem_of_getElem? (i := 173) rfl)) rfl⟩
theorem cd_X4_read : CD yX4_read cX4_read 3 (some .boolean) 2 := ⟨gt_of (gt3 (List.mem_of_getElem? (i := 7) rfl)) rfl, gt_of (gt1 (List.mem_of_getElem? (i := 5) rfl)) rfl, by decide, by decide, by decide +kernel⟩
theorem cv_X4_read : CV yX4_read := ⟨gt_of (gt3 (List.mem_of_getElem? (i := 5) rfl)) rfl, gt_of (gt3 (List.mem_of_getElem? (i := 6) rfl)) rfl⟩
theorem cd_X4_readAct : CD yX4_readAct cX4_readAct 4 (some .boolean) 2 := ⟨gt_of (gt3 (List.mem_of_getElem? (i := 19) rfl)) rfl, gt_of (gt1 (List.mem_of_getElem? (i := 5) rfl)) rfl, by decide, by decide, by decide +kernel⟩
theorem cv_X4_readAct : CV yX4_readAct := ⟨gt_of (gt3 (List.mem_of_getElem? (i := 18) rfl)) rfl, gp_of (List.mem_of_getElem? (i := 2) rfl) rfl⟩
theorem cd_X4_readActs : CD yX4_readActs cX4_readActs 5 (some .boolean) 2 := ⟨gt_of (gt3 (List.mem_of_getElem? (i := 15) rfl)) rfl, gt_of (gt1 (List.mem_of_getElem? (i := 5) rfl)) rfl, by decide, by decide, by decide +kernel⟩
theorem cv_X4_readActs : CV yX4_readActs := ⟨gt_of (gt3 (List.mem_of_getElem? (i := 14) rfl)) rfl, gp_of (List.mem_of_getElem? (i := 1) rfl) rfl⟩
theorem cd_X4_readDouble : CD yX4_readDouble cX4_readDouble 5 (some .boolean) 2 := ⟨gt_of (gt3 (List.mem_of_getElem? (i := 50) rfl)) rfl, gt_of (gt1 (List.mem_of_getElem? (i := 5) rfl)) rfl, by decide, by decide, by decide +kernel⟩
theorem cv_X4_readDouble : CV yX4_readDouble := ⟨gt_of (gt3 (List.mem_of_getElem? (i := 49) rfl)) rfl, gp_of (List.mem_of_getElem? (i := 5) rfl) rfl⟩
theorem cd_X4_readIf : CD yX4_readIf cX4_readIf 5 (some .boolean) 2 := ⟨gt_of (gt3 (List.mem_of_getElem? (i := 76) rfl)) rfl, gt_of (gt1 (List.mem_of_getElem? (i := 5) rfl)) rfl, by decide, by decide, by decide +kernel⟩
theorem cv_X4_readIf : CV yX4_readIf := ⟨gt_of (gt3 (List.mem_of_getElem? (i := 75) rfl)) rfl, gp_of (List.mem_of_getElem? (i := 9) rfl) rfl⟩
theorem cd_X4_readSingle : CD yX4_readSingle cX4_readSingle 4 (some .boolean) 2 := ⟨gt_of (gt3 (List.mem_of_getElem? (i := 38) rfl)) rfl, gt_of (gt1 (List.mem_of_getElem? (i := 5) rfl)) rfl, by decide, by decide, by decide +kernel⟩
theorem cv_X4_readSingle : CV yX4_readSingle := ⟨gt_of (gt3 (List.mem_of_getElem? (i := 37) rfl)) rfl, gp_of (List.mem_of_getElem? (i := 3) rfl) rfl⟩
theorem cd_X4_readTest : CD yX4_readTest cX4_readTest 4 (some .int) 2 := ⟨gt_of (gt3 (List.mem_of_getElem? (i := 58) rfl)) rfl, gt_of (gt1 (List.mem_of_getElem? (i := 5) rfl)) rfl, by decide, by decide, by decide +kernel⟩
theorem cv_X4_readTest : CV yX4_readTest := ⟨gt_of (gt3 (List.mem_of_getElem? (i := 57) rfl)) rfl, gp_of (List.mem_of_getElem? (i := 7) rfl) rfl⟩
theorem cd_X4_readVat : CD yX4_readVat cX4_readVat 2 (some .int) 1 := ⟨gt_of (gt3 (List.mem_of_getElem? (i := 41) rfl)) rfl, gt_of (gt1 (List.mem_of_getElem? (i := 5) rfl)) rfl, by decide, by decide, by decide +kernel⟩
theorem st_X4_readVat : Cond.static yX4_readVat ∈ gtbl := gt_of (gt3 (List.mem_of_getElem? (i := 40) rfl)) rfl
theorem cd_X4_readWhile : CD yX4_readWhile cX4_readWhile 4 (some .boolean) 2 := ⟨gt_of (gt3 (List.mem_of_getElem? (i := 54) rfl)) rfl, gt_of (gt1 (List.mem_of_getElem? (i := 5) rfl)) rfl, by decide, by decide, by decide +kernel⟩
theorem cv_X4_readWhile : CV yX4_readWhile := ⟨gt_of (gt3 (List.mem_of_getElem? (i := 53) rfl)) rfl, gp_of (List.mem_of_getElem? (i := 6) rfl) rfl⟩
theorem cd_X4_straighten : CD yX4_straighten cX4_straighten 2 none 0 := ⟨gt_of (gt3 (List.mem_of_getElem? (i := 84) rfl)) rfl, gt_of (gt1 (List.mem_of_getElem? (i := 5) rfl)) rfl, by decide, by decide, by decide +kernel⟩
theorem cv_X4_straighten : CV yX4_straighten := ⟨gt_of (gt3 (List.mem_of_getElem? (i := 83) rfl)) rfl, gp_of (List.mem_of_getElem? (i := 10) rfl) rfl⟩
theorem cd_X5_findAhead : CD yX5_findAhead cX5_findAhead 3 none 1 := ⟨gt_of (gt4 (List.mem_of_getElem? (i := 97) rfl)) rfl, gt_of (gt1 (List.mem_of_getElem? (i := 10) rfl)) rfl, by decide, by decide, by decide +kernel⟩
theorem cv_X5_findAhead : CV yX5_findAhead := ⟨gt_of (gt4 (List.mem_of_getElem? (i := 96) rfl)) rfl, gp_of (List.mem_of_getElem? (i := 35) rfl) rfl⟩
theorem cd_X5_findLength : CD yX5_findLength cX5_findLength 4 (some .boolean) 1 := ⟨gt_of (gt4 (List.mem_of_getElem? (i := 77) rfl)) rfl, gt_of (gt1 (List.mem_of_getElem? (i := 10) rfl)) rfl, by decide, by decide, by decide +kernel⟩
theorem cv_X5_findLength : CV yX5_findLength := ⟨gt_of (gt4 (List.mem_of_getElem? (i := 76) rfl)) rfl, gp_of (List.mem_of_getElem? (i := 34) rfl) rfl⟩
theorem cd_X5_init : CD yX5_init cX5_init 4 none 3 := ⟨gt_of (gt2 (List.mem_of_getElem? (i := 18) rfl)) rfl, gt_of (gt1 (List.mem_of_getElem? (i := 10) rfl)) rfl, by decide, by decide, by decide +kernel⟩
theorem cd_X5_seek : CD yX5_seek cX5_seek 2 none 1 := ⟨gt_of (gt4 (List.mem_of_getElem? (i := 73) rfl)) rfl, gt_of (gt1 (List.mem_of_getElem? (i := 10) rfl)) rfl, by decide, by decide, by decide +kernel⟩
theorem cv_X5_seek : CV yX5_seek := ⟨gt_of (gt4 (List.mem_of_getElem? (i := 71) rfl)) rfl, gt_of (gt4 (List.mem_of_getElem? (i := 72) rfl)) rfl⟩
theorem cd_X6_add : CD yX6_add cX6_add 4 (some .int) 2 := ⟨gt_of (gt3 (List.mem_of_getElem? (i := 120) rfl)) rfl, gt_of (gt1 (List.mem_of_getElem? (i := 6) rfl)) rfl, by decide, by decide, by decide +kernel⟩
theorem cv_X6_add : CV yX6_add := ⟨gt_of (gt3 (List.mem_of_getElem? (i := 118) rfl)) rfl, gt_of (gt3 (List.mem_of_getElem? (i := 119) rfl)) rfl⟩
theorem cd_X6_holds : CD yX6_holds cX6_holds 6 (some .boolean) 1 := ⟨gt_of (gt3 (List.mem_of_getElem? (i := 226) rfl)) rfl, gt_of (gt1 (List.mem_of_getElem? (i := 6) rfl)) rfl, by decide, by decide, by decide +kernel⟩
theorem cv_X6_holds : CV yX6_holds := ⟨gt_of (gt3 (List.mem_of_getElem? (i := 224) rfl)) rfl, gt_of (gt3 (List.mem_of_getElem? (i := 225) rfl)) rfl⟩
theorem cd_X6_init : CD yX6_init cX6_init 1 none 0 := ⟨gt_of (gt1 (List.mem_of_getElem? (i := 126) rfl)) rfl, gt_of (gt1 (List.mem_of_getElem? (i := 6) rfl)) rfl, by decide, by decide, by decide +kernel⟩
theorem cd_X6_obey : CD yX6_obey cX6_obey 6 none 3 := ⟨gt_of (gt3 (List.mem_of_getElem? (i := 230) rfl)) rfl, gt_of (gt1 (List.mem_of_getElem? (i := 6) rfl)) rfl, by decide, by decide, by decide +kernel⟩
theorem cv_X6_obey : CV yX6_obey := ⟨gt_of (gt3 (List.mem_of_getElem? (i := 229) rfl)) rfl, gp_of (List.mem_of_getElem? (i := 28) rfl) rfl⟩
theorem cd_X6_pop : CD yX6_pop cX6_pop 1 (some .int) 0 := ⟨gt_of (gt4 (List.mem_of_getElem? (i := 2) rfl)) rfl, gt_of (gt1 (List.mem_of_getElem? (i := 6) rfl)) rfl, by decide, by decide, by decide +kernel⟩
theorem cv_X6_pop : CV yX6_pop := ⟨gt_of (gt4 (List.mem_of_getElem? (i := 1) rfl)) rfl, gp_of (List.mem_of_getElem? (i := 30) rfl) rfl⟩
theorem cd_X6_push : CD yX6_push cX6_push 2 none 1 := ⟨gt_of (gt3 (List.mem_of_getElem? (i := 234) rfl)) rfl, gt_of (gt1 (List.mem_of_getElem? (i := 6) rfl)) rfl, by decide, by decide, by decide +kernel⟩
theorem cv_X6_push : CV yX6_push := ⟨gt_of (gt3 (List.mem_of_getElem? (i := 233) rfl)) rfl, gp_of (List.mem_of_getElem? (i := 29) rfl) rfl⟩
theorem cd_X6_reckon : CD yX6_reckon cX6_reckon 4 (some .int) 3 := ⟨gt_of (gt4 (List.mem_of_getElem? (i := 6) rfl)) rfl, gt_of (gt1 (List.mem_of_getElem? (i := 6) rfl)) rfl, by decide, by decide, by decide +kernel⟩
theorem cv_X6_reckon : CV yX6_reckon := ⟨gt_of (gt4 (List.mem_of_getElem? (i := 5) rfl)) rfl, gp_of (List.mem_of_getElem? (i := 31) rfl) rfl⟩
theorem cd_X7_init : CD yX7_init cX7_init 3 none 2 := ⟨gt_of (gt1 (List.mem_of_getElem? (i := 156) rfl)) rfl, gt_of (gt1 (List.mem_of_getElem? (i := 7) rfl)) rfl, by decide, by decide, by decide +kernel⟩
theorem cd_X7_isProduct : CD yX7_isProduct cX7_isProduct 1 (some .boolean) 1 := ⟨gt_of (gt3 (List.mem_of_getElem? (i := 149) rfl)) rfl, gt_of (gt1 (List.mem_of_getElem? (i := 7) rfl)) rfl, by decide, by decide, by decide +kernel⟩
theorem st_X7_isProduct : Cond.static yX7_isProduct ∈ gtbl := gt_of (gt3 (List.mem_of_getElem? (i := 148) rfl)) rfl
theorem cd_X7_isSum : CD yX7_isSum cX7_isSum 1 (some .boolean) 1 := ⟨gt_of (gt3 (List.mem_of_getElem? (i := 152) rfl)) rfl, gt_of (gt1 (List.mem_of_getElem? (i := 7) rfl)) rfl, by decide, by decide, by decide +kernel⟩
theorem st_X7_isSum : Cond.static yX7_isSum ∈ gtbl := gt_of (gt3 (List.mem_of_getElem? (i := 151) rfl)) rfl
theorem cd_X7_lead : CD yX7_lead cX7_lead 2 none 1 := ⟨gt_of (gt3 (List.mem_of_getElem? (i := 156) rfl)) rfl, gt_of (gt1 (List.mem_of_getElem? (i := 7) rfl)) rfl, by decide, by decide, by decide +kernel⟩
theorem cv_X7_lead : CV yX7_lead := ⟨gt_of (gt3 (List.mem_of_getElem? (i := 155) rfl)) rfl, gp_of (List.mem_of_getElem? (i := 20) rfl) rfl⟩
theorem cd_X7_letterOf : CD yX7_letterOf cX7_letterOf 1 (some .int) 1 := ⟨gt_of (gt3 (List.mem_of_getElem? (i := 146) rfl)) rfl, gt_of (gt1 (List.mem_of_getElem? (i := 7) rfl)) rfl, by decide, by decide, by decide +kernel⟩
theorem st_X7_letterOf : Cond.static yX7_letterOf ∈ gtbl := gt_of (gt3 (List.mem_of_getElem? (i := 145) rfl)) rfl
theorem cd_X7_read : CD yX7_read cX7_read 3 (some .boolean) 2 := ⟨gt_of (gt3 (List.mem_of_getElem? (i := 100) rfl)) rfl, gt_of (gt1 (List.mem_of_getElem? (i := 7) rfl)) rfl, by decide, by decide, by decide +kernel⟩
theorem cv_X7_read : CV yX7_read := ⟨gt_of (gt3 (List.mem_of_getElem? (i := 98) rfl)) rfl, gt_of (gt3 (List.mem_of_getElem? (i := 99) rfl)) rfl⟩
theorem cd_X7_readChoice : CD yX7_readChoice cX7_readChoice 5 (some .boolean) 1 := ⟨gt_of (gt3 (List.mem_of_getElem? (i := 105) rfl)) rfl, gt_of (gt1 (List.mem_of_getElem? (i := 7) rfl)) rfl, by decide, by decide, by decide +kernel⟩
theorem cv_X7_readChoice : CV yX7_readChoice := ⟨gt_of (gt3 (List.mem_of_getElem? (i := 104) rfl)) rfl, gp_of (List.mem_of_getElem? (i := 12) rfl) rfl⟩
theorem cd_X7_readComparison : CD yX7_readComparison cX7_readComparison 4 (some .boolean) 1 := ⟨gt_of (gt3 (List.mem_of_getElem? (i := 125) rfl)) rfl, gt_of (gt1 (List.mem_of_getElem? (i := 7) rfl)) rfl, by decide, by decide, by decide +kernel⟩
theorem cv_X7_readComparison : CV yX7_readComparison := ⟨gt_of (gt3 (List.mem_of_getElem? (i := 124) rfl)) rfl, gp_of (List.mem_of_getElem? (i := 15) rfl) rfl⟩
theorem cd_X7_readFactor : CD yX7_readFactor cX7_readFactor 4 (some .boolean) 1 := ⟨gt_of (gt3 (List.mem_of_getElem? (i := 137) rfl)) rfl, gt_of (gt1 (List.mem_of_getElem? (i := 7) rfl)) rfl, by decide, by decide, by decide +kernel⟩
theorem cv_X7_readFactor : CV yX7_readFactor := ⟨gt_of (gt3 (List.mem_of_getElem? (i := 136) rfl)) rfl, gp_of (List.mem_of_getElem? (i := 18) rfl) rfl⟩
theorem cd_X7_readFactors : CD yX7_readFactors cX7_readFactors 5 (some .boolean) 1 := ⟨gt_of (gt3 (List.mem_of_getElem? (i := 133) rfl)) rfl, gt_of (gt1 (List.mem_of_getElem? (i := 7) rfl)) rfl, by decide, by decide, by decide +kernel⟩
theorem cv_X7_readFactors : CV yX7_readFactors := ⟨gt_of (gt3 (List.mem_of_getElem? (i := 132) rfl)) rfl, gp_of (List.mem_of_getElem? (i := 17) rfl) rfl⟩
theorem cd_X7_readNumber : CD yX7_readNumber cX7_readNumber 3 (some .boolean) 0 := ⟨gt_of (gt3 (List.mem_of_getElem? (i := 142) rfl)) rfl, gt_of (gt1 (List.mem_of_getElem? (i := 7) rfl)) rfl, by decide, by decide, by decide +kernel⟩
theorem cv_X7_readNumber : CV yX7_readNumber := ⟨gt_of (gt3 (List.mem_of_getElem? (i := 141) rfl)) rfl, gp_of (List.mem_of_getElem? (i := 19) rfl) rfl⟩
theorem cd_X7_readPart : CD yX7_readPart cX7_readPart 5 (some .boolean) 1 := ⟨gt_of (gt3 (List.mem_of_getElem? (i := 109) rfl)) rfl, gt_of (gt1 (List.mem_of_getElem? (i := 7) rfl)) rfl, by decide, by decide, by decide +kernel⟩
theorem cv_X7_readPart : CV yX7_readPart := ⟨gt_of (gt3 (List.mem_of_getElem? (i := 108) rfl)) rfl, gp_of (List.mem_of_getElem? (i := 13) rfl) rfl⟩
theorem cd_X7_readPiece : CD yX7_readPiece cX7_readPiece 4 (some .boolean) 1 := ⟨gt_of (gt3 (List.mem_of_getElem? (i := 113) rfl)) rfl, gt_of (gt1 (List.mem_of_getElem? (i := 7) rfl)) rfl, by decide, by decide, by decide +kernel⟩
theorem cv_X7_readPiece : CV yX7_readPiece := ⟨gt_of (gt3 (List.mem_of_getElem? (i := 112) rfl)) rfl, gp_of (List.mem_of_getElem? (i := 14) rfl) rfl⟩
theorem cd_X7_readTerms : CD yX7_readTerms cX7_readTerms 5 (some .boolean) 1 := ⟨gt_of (gt3 (List.mem_of_getElem? (i := 129) rfl)) rfl, gt_of (gt1 (List.mem_of_getElem? (i := 7) rfl)) rfl, by decide, by decide, by decide +kernel⟩
theorem cv_X7_readTerms : CV yX7_readTerms := ⟨gt_of (gt3 (List.mem_of_getElem? (i := 128) rfl)) rfl, gp_of (List.mem_of_getElem? (i := 16) rfl) rfl⟩
theorem cd_X8_coloured : CD yX8_coloured cX8_coloured 6 (some .int) 3 := ⟨gt_of (gt4 (List.mem_of_getElem? (i := 65) rfl)) rfl, gt_of (gt1 (List.mem_of_getElem? (i := 9) rfl)) rfl, by decide, by decide, by decide +kernel⟩
theorem cv_X8_coloured : CV yX8_coloured := ⟨gt_of (gt4 (List.mem_of_getElem? (i := 63) rfl)) rfl, gt_of (gt4 (List.mem_of_getElem? (i := 64) rfl)) rfl⟩
theorem cd_X8_follow : CD yX8_follow cX8_follow 3 none 2 := ⟨gt_of (gt4 (List.mem_of_getElem? (i := 38) rfl)) rfl, gt_of (gt1 (List.mem_of_getElem? (i := 9) rfl)) rfl, by decide, by decide, by decide +kernel⟩
theorem cv_X8_follow : CV yX8_follow := ⟨gt_of (gt4 (List.mem_of_getElem? (i := 37) rfl)) rfl, gp_of (List.mem_of_getElem? (i := 32) rfl) rfl⟩
theorem cd_X8_goOn : CD yX8_goOn cX8_goOn 2 none 0 := ⟨gt_of (gt4 (List.mem_of_getElem? (i := 45) rfl)) rfl, gt_of (gt1 (List.mem_of_getElem? (i := 9) rfl)) rfl, by decide, by decide, by decide +kernel⟩
theorem cv_X8_goOn : CV yX8_goOn := ⟨gt_of (gt4 (List.mem_of_getElem? (i := 44) rfl)) rfl, gp_of (List.mem_of_getElem? (i := 33) rfl) rfl⟩
theorem cd_X8_init : CD yX8_init cX8_init 4 none 3 := ⟨gt_of (gt1 (List.mem_of_getElem? (i := 233) rfl)) rfl, gt_of (gt1 (List.mem_of_getElem? (i := 9) rfl)) rfl, by decide, by decide, by decide +kernel⟩
theorem cd_X8_lay : CD yX8_lay cX8_lay 5 none 2 := ⟨gt_of (gt4 (List.mem_of_getElem? (i := 29) rfl)) rfl, gt_of (gt1 (List.mem_of_getElem? (i := 9) rfl)) rfl, by decide, by decide, by decide +kernel⟩
theorem cv_X8_lay : CV yX8_lay := ⟨gt_of (gt4 (List.mem_of_getElem? (i := 27) rfl)) rfl, gt_of (gt4 (List.mem_of_getElem? (i := 28) rfl)) rfl⟩
theorem cd_X8_unlike : CD yX8_unlike cX8_unlike 6 (some .int) 3 := ⟨gt_of (gt4 (List.mem_of_getElem? (i := 53) rfl)) rfl, gt_of (gt1 (List.mem_of_getElem? (i := 9) rfl)) rfl, by decide, by decide, by decide +kernel⟩
theorem cv_X8_unlike : CV yX8_unlike := ⟨gt_of (gt4 (List.mem_of_getElem? (i := 51) rfl)) rfl, gt_of (gt4 (List.mem_of_getElem? (i := 52) rfl)) rfl⟩
theorem cd_X8_unproved : CD yX8_unproved cX8_unproved 6 (some .int) 3 := ⟨gt_of (gt4 (List.mem_of_getElem? (i := 34) rfl)) rfl, gt_of (gt1 (List.mem_of_getElem? (i := 9) rfl)) rfl, by decide, by decide, by decide +kernel⟩
theorem cv_X8_unproved : CV yX8_unproved := ⟨gt_of (gt4 (List.mem_of_getElem? (i := 32) rfl)) rfl, gt_of (gt4 (List.mem_of_getElem? (i := 33) rfl)) rfl⟩
theorem cd_X9_add : CD yX9_add cX9_add 3 none 1 := ⟨gt_of (gt2 (List.mem_of_getElem? (i := 232) rfl)) rfl, gt_of (gt1 (List.mem_of_getElem? (i := 2) rfl)) rfl, by decide, by decide, by decide +kernel⟩
theorem cv_X9_add : CV yX9_add := ⟨gt_of (gt2 (List.mem_of_getElem? (i := 230) rfl)) rfl, gt_of (gt2 (List.mem_of_getElem? (i := 231) rfl)) rfl⟩
theorem cd_X9_at : CD yX9_at cX9_at 2 (some .int) 1 := ⟨gt_of (gt4 (List.mem_of_getElem? (i := 109) rfl)) rfl, gt_of (gt1 (List.mem_of_getElem? (i := 2) rfl)) rfl, by decide, by decide, by decide +kernel⟩
theorem cv_X9_at : CV yX9_at := ⟨gt_of (gt4 (List.mem_of_getElem? (i := 108) rfl)) rfl, gp_of (List.mem_of_getElem? (i := 36) rfl) rfl⟩
theorem cd_X9_canOpen : CD yX9_canOpen cX9_canOpen 2 (some .boolean) 1 := ⟨gt_of (gt3 (List.mem_of_getElem? (i := 62) rfl)) rfl, gt_of (gt1 (List.mem_of_getElem? (i := 2) rfl)) rfl, by decide, by decide, by decide +kernel⟩
theorem cv_X9_canOpen : CV yX9_canOpen := ⟨gt_of (gt3 (List.mem_of_getElem? (i := 60) rfl)) rfl, gt_of (gt3 (List.mem_of_getElem? (i := 61) rfl)) rfl⟩
theorem cd_X9_clear : CD yX9_clear cX9_clear 1 none 0 := ⟨gt_of (gt3 (List.mem_of_getElem? (i := 92) rfl)) rfl, gt_of (gt1 (List.mem_of_getElem? (i := 2) rfl)) rfl, by decide, by decide, by decide +kernel⟩
theorem cv_X9_clear : CV yX9_clear := ⟨gt_of (gt3 (List.mem_of_getElem? (i := 90) rfl)) rfl, gt_of (gt3 (List.mem_of_getElem? (i := 91) rfl)) rfl⟩
theorem cd_X9_hasRoom : CD yX9_hasRoom cX9_hasRoom 1 (some .boolean) 0 := ⟨gt_of (gt2 (List.mem_of_getElem? (i := 228) rfl)) rfl, gt_of (gt1 (List.mem_of_getElem? (i := 2) rfl)) rfl, by decide, by decide, by decide +kernel⟩
theorem cv_X9_hasRoom : CV yX9_hasRoom := ⟨gt_of (gt2 (List.mem_of_getElem? (i := 226) rfl)) rfl, gt_of (gt2 (List.mem_of_getElem? (i := 227) rfl)) rfl⟩
theorem cd_X9_init : CD yX9_init cX9_init 1 none 0 := ⟨gt_of (gt1 (List.mem_of_getElem? (i := 30) rfl)) rfl, gt_of (gt1 (List.mem_of_getElem? (i := 2) rfl)) rfl, by decide, by decide, by decide +kernel⟩
theorem cd_X9_isRead : CD yX9_isRead cX9_isRead 1 (some .boolean) 0 := ⟨gt_of (gt3 (List.mem_of_getElem? (i := 80) rfl)) rfl, gt_of (gt1 (List.mem_of_getElem? (i := 2) rfl)) rfl, by decide, by decide, by decide +kernel⟩
theorem cv_X9_isRead : CV yX9_isRead := ⟨gt_of (gt3 (List.mem_of_getElem? (i := 78) rfl)) rfl, gt_of (gt3 (List.mem_of_getElem? (i := 79) rfl)) rfl⟩
theorem cd_X9_number : CD yX9_number cX9_number 4 (some .int) 1 := ⟨gt_of (gt5 (List.mem_of_getElem? (i := 21) rfl)) rfl, gt_of (gt1 (List.mem_of_getElem? (i := 2) rfl)) rfl, by decide, by decide, by decide +kernel⟩
theorem cv_X9_number : CV yX9_number := ⟨gt_of (gt5 (List.mem_of_getElem? (i := 19) rfl)) rfl, gt_of (gt5 (List.mem_of_getElem? (i := 20) rfl)) rfl⟩
theorem cd_X9_open : CD yX9_open cX9_open 2 none 1 := ⟨gt_of (gt3 (List.mem_of_getElem? (i := 11) rfl)) rfl, gt_of (gt1 (List.mem_of_getElem? (i := 2) rfl)) rfl, by decide, by decide, by decide +kernel⟩
theorem cv_X9_open : CV yX9_open := ⟨gt_of (gt3 (List.mem_of_getElem? (i := 9) rfl)) rfl, gt_of (gt3 (List.mem_of_getElem? (i := 10) rfl)) rfl⟩
theorem cd_X9_pass : CD yX9_pass cX9_pass 2 (some .boolean) 1 := ⟨gt_of (gt3 (List.mem_of_getElem? (i := 67) rfl)) rfl, gt_of (gt1 (List.mem_of_getElem? (i := 2) rfl)) rfl, by decide, by decide, by decide +kernel⟩
theorem cv_X9_pass : CV yX9_pass := ⟨gt_of (gt3 (List.mem_of_getElem? (i := 65) rfl)) rfl, gt_of (gt3 (List.mem_of_getElem? (i := 66) rfl)) rfl⟩
theorem cd_X9_refuse : CD yX9_refuse cX9_refuse 2 (some .boolean) 1 := ⟨gt_of (gt3 (List.mem_of_getElem? (i := 30) rfl)) rfl, gt_of (gt1 (List.mem_of_getElem? (i := 2) rfl)) rfl, by decide, by decide, by decide +kernel⟩
theorem cv_X9_refuse : CV yX9_refuse := ⟨gt_of (gt3 (List.mem_of_getElem? (i := 28) rfl)) rfl, gt_of (gt3 (List.mem_of_getElem? (i := 29) rfl)) rfl⟩
theorem cd_X9_sign : CD yX9_sign cX9_sign 1 (some .int) 0 := ⟨gt_of (gt3 (List.mem_of_getElem? (i := 23) rfl)) rfl, gt_of (gt1 (List.mem_of_getElem? (i := 2) rfl)) rfl, by decide, by decide, by decide +kernel⟩
theorem cv_X9_sign : CV yX9_sign := ⟨gt_of (gt3 (List.mem_of_getElem? (i := 21) rfl)) rfl, gt_of (gt3 (List.mem_of_getElem? (i := 22) rfl)) rfl⟩
theorem cd_X9_skip : CD yX9_skip cX9_skip 1 none 0 := ⟨gt_of (gt3 (List.mem_of_getElem? (i := 34) rfl)) rfl, gt_of (gt1 (List.mem_of_getElem? (i := 2) rfl)) rfl, by decide, by decide, by decide +kernel⟩
theorem cv_X9_skip : CV yX9_skip := ⟨gt_of (gt3 (List.mem_of_getElem? (i := 32) rfl)) rfl, gt_of (gt3 (List.mem_of_getElem? (i := 33) rfl)) rfl⟩
theorem cd_X9_takeMeasures : CD yX9_takeMeasures cX9_takeMeasures 3 none 1 := ⟨gt_of (gt4 (List.mem_of_getElem? (i := 105) rfl)) rfl, gt_of (gt1 (List.mem_of_getElem? (i := 2) rfl)) rfl, by decide, by decide, by decide +kernel⟩
theorem cv_X9_takeMeasures : CV yX9_takeMeasures := ⟨gt_of (gt4 (List.mem_of_getElem? (i := 103) rfl)) rfl, gt_of (gt4 (List.mem_of_getElem? (i := 104) rfl)) rfl⟩
theorem kc_J6_265 : Cond.constant RJ6 265 1431655765 ∈ gtbl := gt_of (gt4 (List.mem_of_getElem? (i := 23) rfl)) rfl
theorem kc_J6_266 : Cond.constant RJ6 266 858993459 ∈ gtbl := gt_of (gt4 (List.mem_of_getElem? (i := 24) rfl)) rfl
theorem kc_J6_267 : Cond.constant RJ6 267 252645135 ∈ gtbl := gt_of (gt4 (List.mem_of_getElem? (i := 25) rfl)) rfl
theorem kc_X5_56 : Cond.constant RX5 56 65536 ∈ gtbl := gt_of (gt4 (List.mem_of_getElem? (i := 79) rfl)) rfl
theorem kc_X11_283 : Cond.constant RX11 283 65535 ∈ gtbl := gt_of (gt4 (List.mem_of_getElem? (i := 222) rfl)) rfl
theorem kc_X11_284 : Cond.constant RX11 284 65536 ∈ gtbl := gt_of (gt4 (List.mem_of_getElem? (i := 227) rfl)) rfl
theorem kc_X12_175 : Cond.constant RX12 175 1048576 ∈ gtbl := gt_of (gt6 (List.mem_of_getElem? (i := 44) rfl)) rfl
theorem kc_X12_386 : Cond.constantLong RX12 386 100 ∈ gtbl := gt_of (gt7 (List.mem_of_getElem? (i := 26) rfl)) rfl
theorem kc_X12_420 : Cond.constant RX12 420 1000000000 ∈ gtbl := gt_of (gt7 (List.mem_of_getElem? (i := 75) rfl)) rfl
theorem kc_X12_424 : Cond.constant RX12 424 65535 ∈ gtbl := gt_of (gt7 (List.mem_of_getElem? (i := 84) rfl)) rfl
theorem kc_X12_425 : Cond.constant RX12 425 65536 ∈ gtbl := gt_of (gt7 (List.mem_of_getElem? (i := 89) rfl)) rfl
theorem kn_arraycopy : Cond.native arraycopyName ∈ gtbl := gt_of (gt3 (List.mem_of_getElem? (i := 171) rfl)) rfl
theorem ks_arraycopy : Cond.static arraycopyName ∈ gtbl := gt_of (gt3 (List.mem_of_getElem? (i := 170) rfl)) rfl
theorem ki_System : Cond.initialized "java/lang/System" ∈ gtbl := gt_of (gt1 (List.mem_of_getElem? (i := 16) rfl)) rfl
