theorem tb1 {w : Cond} (h : w ∈ tables_1_1) : w ∈ tables_1 := List.mem_append_left _ h
theorem gd1 {i : Nat} {w : Cond} (h : tables_1_1[i]? = some w) (hg : goodWord w = true) : w ∈ lw_gd := List.mem_filter.mpr ⟨List.mem_append_right _ (tb1 (List.mem_of_getElem? h)), hg⟩
theorem nw1 {i : Nat} {w : Cond} (h : tables_1_1[i]? = some w) (hg : lw_isN w = true) : w ∈ lw_nw := List.mem_filter.mpr ⟨List.mem_append_right _ (tb1 (List.mem_of_getElem? h)), hg⟩
theorem tb2 {w : Cond} (h : w ∈ tables_1_2) : w ∈ tables_1 := List.mem_append_right _ (List.mem_append_left _ h)
theorem gd2 {i : Nat} {w : Cond} (h : tables_1_2[i]? = some w) (hg : goodWord w = true) : w ∈ lw_gd := List.mem_filter.mpr ⟨List.mem_append_right _ (tb2 (List.mem_of_getElem? h)), hg⟩
theorem nw2 {i : Nat} {w : Cond} (h : tables_1_2[i]? = some w) (hg : lw_isN w = true) : w ∈ lw_nw := List.mem_filter.mpr ⟨List.mem_append_right _ (tb2 (List.mem_of_getElem? h)), hg⟩
theorem tb3 {w : Cond} (h : w ∈ tables_1_3) : w ∈ tables_1 := List.mem_append_right _ (List.mem_append_right _ (List.mem_append_left _ h))
theorem gd3 {i : Nat} {w : Cond} (h : tables_1_3[i]? = some w) (hg : goodWord w = true) : w ∈ lw_gd := List.mem_filter.mpr ⟨List.mem_append_right _ (tb3 (List.mem_of_getElem? h)), hg⟩
theorem nw3 {i : Nat} {w : Cond} (h : tables_1_3[i]? = some w) (hg : lw_isN w = true) : w ∈ lw_nw := List.mem_filter.mpr ⟨List.mem_append_right _ (tb3 (List.mem_of_getElem? h)), hg⟩
theorem tb4 {w : Cond} (h : w ∈ tables_1_4) : w ∈ tables_1 := List.mem_append_right _ (List.mem_append_right _ (List.mem_append_right _ (List.mem_append_left _ h)))
theorem gd4 {i : Nat} {w : Cond} (h : tables_1_4[i]? = some w) (hg : goodWord w = true) : w ∈ lw_gd := List.mem_filter.mpr ⟨List.mem_append_right _ (tb4 (List.mem_of_getElem? h)), hg⟩
theorem nw4 {i : Nat} {w : Cond} (h : tables_1_4[i]? = some w) (hg : lw_isN w = true) : w ∈ lw_nw := List.mem_filter.mpr ⟨List.mem_append_right _ (tb4 (List.mem_of_getElem? h)), hg⟩
theorem tb5 {w : Cond} (h : w ∈ tables_1_5) : w ∈ tables_1 := List.mem_append_right _ (List.mem_append_right _ (List.mem_append_right _ (List.mem_append_right _ (List.mem_append_left _ h))))
theorem gd5 {i : Nat} {w : Cond} (h : tables_1_5[i]? = some w) (hg : goodWord w = true) : w ∈ lw_gd := List.mem_filter.mpr ⟨List.mem_append_right _ (tb5 (List.mem_of_getElem? h)), hg⟩
theorem nw5 {i : Nat} {w : Cond} (h : tables_1_5[i]? = some w) (hg : lw_isN w = true) : w ∈ lw_nw := List.mem_filter.mpr ⟨List.mem_append_right _ (tb5 (List.mem_of_getElem? h)), hg⟩
theorem tb6 {w : Cond} (h : w ∈ tables_1_6) : w ∈ tables_1 := List.mem_append_right _ (List.mem_append_right _ (List.mem_append_right _ (List.mem_append_right _ (List.mem_append_right _ (h)))))
theorem gd6 {i : Nat} {w : Cond} (h : tables_1_6[i]? = some w) (hg : goodWord w = true) : w ∈ lw_gd := List.mem_filter.mpr ⟨List.mem_append_right _ (tb6 (List.mem_of_getElem? h)), hg⟩
theorem nw6 {i : Nat} {w : Cond} (h : tables_1_6[i]? = some w) (hg : lw_isN w = true) : w ∈ lw_nw := List.mem_filter.mpr ⟨List.mem_append_right _ (tb6 (List.mem_of_getElem? h)), hg⟩
abbrev mX0_init : am_M := (RX0, cX0_init, 1, none)
abbrev mX0_clear : am_M := (RX0, cX0_clear, 1, none)
set_option maxRecDepth 100000 in
theorem ylX0_clear : yl_ok yX0_clear mX0_clear 0 := ⟨⟨by decide, by decide, by decide +kernel⟩, gd2 (i := 173) rfl rfl, gd1 (i := 9) rfl rfl⟩
set_option maxRecDepth 100000 in
theorem yvX0_clear : yv_ok yX0_clear 0 := ⟨gd2 (i := 171) rfl rfl, RX0, TX0, 3, rfl, gd2 (i := 172) rfl rfl⟩
abbrev mX0_append : am_M := (RX0, cX0_append, 2, (some .boolean))
set_option maxRecDepth 100000 in
theorem ylX0_append : yl_ok yX0_append mX0_append 1 := ⟨⟨by decide, by decide, by decide +kernel⟩, gd2 (i := 185) rfl rfl, gd1 (i := 9) rfl rfl⟩
set_option maxRecDepth 100000 in
theorem yvX0_append : yv_ok yX0_append 0 := ⟨gd2 (i := 183) rfl rfl, RX0, TX0, 3, rfl, gd2 (i := 184) rfl rfl⟩
abbrev mX0_firstWrong : am_M := (RX0, cX0_firstWrong, 2, (some .int))
set_option maxRecDepth 100000 in
theorem ylX0_firstWrong : yl_ok yX0_firstWrong mX0_firstWrong 0 := ⟨⟨by decide, by decide, by decide +kernel⟩, gd3 (i := 201) rfl rfl, gd1 (i := 9) rfl rfl⟩
set_option maxRecDepth 100000 in
theorem yvX0_firstWrong : yv_ok yX0_firstWrong 0 := ⟨gd3 (i := 199) rfl rfl, RX0, TX0, 3, rfl, gd3 (i := 200) rfl rfl⟩
abbrev mX0_allWrong : am_M := (RX0, cX0_allWrong, 3, (some .int))
set_option maxRecDepth 100000 in
theorem ylX0_allWrong : yl_ok yX0_allWrong mX0_allWrong 0 := ⟨⟨by decide, by decide, by decide +kernel⟩, gd3 (i := 210) rfl rfl, gd1 (i := 9) rfl rfl⟩
set_option maxRecDepth 100000 in
theorem yvX0_allWrong : yv_ok yX0_allWrong 0 := ⟨gd3 (i := 208) rfl rfl, RX0, TX0, 3, rfl, gd3 (i := 209) rfl rfl⟩
abbrev mX0_isWrong : am_M := (RX0, cX0_isWrong, 3, (some .boolean))
set_option maxRecDepth 100000 in
theorem ylX0_isWrong : yl_ok yX0_isWrong mX0_isWrong 1 := ⟨⟨by decide, by decide, by decide +kernel⟩, gd3 (i := 205) rfl rfl, gd1 (i := 9) rfl rfl⟩
set_option maxRecDepth 100000 in
theorem yvX0_isWrong : yv_ok yX0_isWrong 0 := ⟨gd3 (i := 204) rfl rfl, RX0, TX0, 3, rfl, lw_gd_p (i := 20) rfl rfl⟩
abbrev mX1_init : am_M := (RX1, cX1_init, 1, none)
abbrev mX1_draw : am_M := (RX1, cX1_draw, 1, (some .int))
set_option maxRecDepth 100000 in
theorem ylX1_draw : yl_ok yX1_draw mX1_draw 0 := ⟨⟨by decide, by decide, by decide +kernel⟩, gd3 (i := 227) rfl rfl, gd1 (i := 10) rfl rfl⟩
set_option maxRecDepth 100000 in
theorem yvX1_draw : yv_ok yX1_draw 1 := ⟨gd3 (i := 225) rfl rfl, RX1, TX1, 1, rfl, gd3 (i := 226) rfl rfl⟩
abbrev mX2_init : am_M := (RX2, cX2_init, 1, none)
abbrev mX2_append : am_M := (RX2, cX2_append, 4, (some .boolean))
set_option maxRecDepth 100000 in
theorem ylX2_append : yl_ok yX2_append mX2_append 3 := ⟨⟨by decide, by decide, by decide +kernel⟩, gd2 (i := 197) rfl rfl, gd1 (i := 5) rfl rfl⟩
set_option maxRecDepth 100000 in
theorem yvX2_append : yv_ok yX2_append 2 := ⟨gd2 (i := 195) rfl rfl, RX2, TX2, 4, rfl, gd2 (i := 196) rfl rfl⟩
abbrev mX2_weigh : am_M := (RX2, cX2_weigh, 9, (some .long))
set_option maxRecDepth 100000 in
theorem ylX2_weigh : yl_ok yX2_weigh mX2_weigh 4 := ⟨⟨by decide, by decide, by decide +kernel⟩, gd3 (i := 3) rfl rfl, gd1 (i := 5) rfl rfl⟩
set_option maxRecDepth 100000 in
theorem yvX2_weigh : yv_ok yX2_weigh 2 := ⟨gd3 (i := 1) rfl rfl, RX2, TX2, 4, rfl, gd3 (i := 2) rfl rfl⟩
abbrev mX3_init : am_M := (RX3, cX3_init, 1, none)
abbrev mX3_missedOf : am_M := (RX3, cX3_missedOf, 2, (some .int))
set_option maxRecDepth 100000 in
theorem ylX3_missedOf : yl_ok yX3_missedOf mX3_missedOf 1 := ⟨⟨by decide, by decide, by decide +kernel⟩, gd2 (i := 130) rfl rfl, gd1 (i := 4) rfl rfl⟩
set_option maxRecDepth 100000 in
theorem yvX3_missedOf : yv_ok yX3_missedOf 3 := ⟨gd2 (i := 128) rfl rfl, RX3, TX3, 2, rfl, gd2 (i := 129) rfl rfl⟩
abbrev mX3_doubledOf : am_M := (RX3, cX3_doubledOf, 2, (some .int))
set_option maxRecDepth 100000 in
theorem ylX3_doubledOf : yl_ok yX3_doubledOf mX3_doubledOf 1 := ⟨⟨by decide, by decide, by decide +kernel⟩, gd2 (i := 135) rfl rfl, gd1 (i := 4) rfl rfl⟩
set_option maxRecDepth 100000 in
theorem yvX3_doubledOf : yv_ok yX3_doubledOf 3 := ⟨gd2 (i := 133) rfl rfl, RX3, TX3, 2, rfl, gd2 (i := 134) rfl rfl⟩
abbrev mX3_become : am_M := (RX3, cX3_become, 4, none)
set_option maxRecDepth 100000 in
theorem ylX3_become : yl_ok yX3_become mX3_become 3 := ⟨⟨by decide, by decide, by decide +kernel⟩, gd2 (i := 139) rfl rfl, gd1 (i := 4) rfl rfl⟩
set_option maxRecDepth 100000 in
theorem yvX3_become : yv_ok yX3_become 3 := ⟨gd2 (i := 137) rfl rfl, RX3, TX3, 2, rfl, gd2 (i := 138) rfl rfl⟩
abbrev mX4_init : am_M := (RX4, cX4_init, 1, none)
abbrev mX4_append : am_M := (RX4, cX4_append, 2, (some .boolean))
set_option maxRecDepth 100000 in
theorem ylX4_append : yl_ok yX4_append mX4_append 1 := ⟨⟨by decide, by decide, by decide +kernel⟩, gd2 (i := 46) rfl rfl, gd1 (i := 2) rfl rfl⟩
set_option maxRecDepth 100000 in
theorem yvX4_append : yv_ok yX4_append 4 := ⟨gd2 (i := 44) rfl rfl, RX4, TX4, 10, rfl, gd2 (i := 45) rfl rfl⟩
abbrev mX4_shorten : am_M := (RX4, cX4_shorten, 2, none)
set_option maxRecDepth 100000 in
theorem ylX4_shorten : yl_ok yX4_shorten mX4_shorten 1 := ⟨⟨by decide, by decide, by decide +kernel⟩, gd2 (i := 93) rfl rfl, gd1 (i := 2) rfl rfl⟩
set_option maxRecDepth 100000 in
theorem yvX4_shorten : yv_ok yX4_shorten 4 := ⟨gd2 (i := 91) rfl rfl, RX4, TX4, 10, rfl, gd2 (i := 92) rfl rfl⟩
abbrev mX4_hasBar : am_M := (RX4, cX4_hasBar, 2, (some .boolean))
set_option maxRecDepth 100000 in
theorem ylX4_hasBar : yl_ok yX4_hasBar mX4_hasBar 1 := ⟨⟨by decide, by decide, by decide +kernel⟩, gd2 (i := 109) rfl rfl, gd1 (i := 2) rfl rfl⟩
set_option maxRecDepth 100000 in
theorem yvX4_hasBar : yv_ok yX4_hasBar 4 := ⟨gd2 (i := 107) rfl rfl, RX4, TX4, 10, rfl, gd2 (i := 108) rfl rfl⟩
abbrev mX4_isLoose : am_M := (RX4, cX4_isLoose, 2, (some .boolean))
set_option maxRecDepth 100000 in
theorem ylX4_isLoose : yl_ok yX4_isLoose mX4_isLoose 1 := ⟨⟨by decide, by decide, by decide +kernel⟩, gd3 (i := 8) rfl rfl, gd1 (i := 2) rfl rfl⟩
set_option maxRecDepth 100000 in
theorem yvX4_isLoose : yv_ok yX4_isLoose 4 := ⟨gd3 (i := 6) rfl rfl, RX4, TX4, 10, rfl, gd3 (i := 7) rfl rfl⟩
abbrev mX4_kindOf : am_M := (RX4, cX4_kindOf, 2, (some .int))
set_option maxRecDepth 100000 in
theorem ylX4_kindOf : yl_ok yX4_kindOf mX4_kindOf 1 := ⟨⟨by decide, by decide, by decide +kernel⟩, gd2 (i := 113) rfl rfl, gd1 (i := 2) rfl rfl⟩
set_option maxRecDepth 100000 in
theorem yvX4_kindOf : yv_ok yX4_kindOf 4 := ⟨gd2 (i := 111) rfl rfl, RX4, TX4, 10, rfl, gd2 (i := 112) rfl rfl⟩
abbrev mX4_cueIn : am_M := (RX4, cX4_cueIn, 2, (some .int))
set_option maxRecDepth 100000 in
theorem ylX4_cueIn : yl_ok yX4_cueIn mX4_cueIn 1 := ⟨⟨by decide, by decide, by decide +kernel⟩, gd2 (i := 122) rfl rfl, gd1 (i := 2) rfl rfl⟩
set_option maxRecDepth 100000 in
theorem yvX4_cueIn : yv_ok yX4_cueIn 4 := ⟨gd2 (i := 120) rfl rfl, RX4, TX4, 10, rfl, gd2 (i := 121) rfl rfl⟩
abbrev mX4_tuneOf : am_M := (RX4, cX4_tuneOf, 2, (some .int))
set_option maxRecDepth 100000 in
theorem ylX4_tuneOf : yl_ok yX4_tuneOf mX4_tuneOf 1 := ⟨⟨by decide, by decide, by decide +kernel⟩, gd2 (i := 117) rfl rfl, gd1 (i := 2) rfl rfl⟩
set_option maxRecDepth 100000 in
theorem yvX4_tuneOf : yv_ok yX4_tuneOf 4 := ⟨gd2 (i := 115) rfl rfl, RX4, TX4, 10, rfl, gd2 (i := 116) rfl rfl⟩
abbrev mX4_barOf : am_M := (RX4, cX4_barOf, 2, (some .int))
set_option maxRecDepth 100000 in
theorem ylX4_barOf : yl_ok yX4_barOf mX4_barOf 1 := ⟨⟨by decide, by decide, by decide +kernel⟩, gd3 (i := 125) rfl rfl, gd1 (i := 2) rfl rfl⟩
set_option maxRecDepth 100000 in
theorem yvX4_barOf : yv_ok yX4_barOf 4 := ⟨gd3 (i := 123) rfl rfl, RX4, TX4, 10, rfl, gd3 (i := 124) rfl rfl⟩
abbrev mX4_understand : am_M := (RX4, cX4_understand, 4, none)
set_option maxRecDepth 100000 in
theorem ylX4_understand : yl_ok yX4_understand mX4_understand 0 := ⟨⟨by decide, by decide, by decide +kernel⟩, gd2 (i := 50) rfl rfl, gd1 (i := 2) rfl rfl⟩
set_option maxRecDepth 100000 in
theorem yvX4_understand : yv_ok yX4_understand 4 := ⟨gd2 (i := 49) rfl rfl, RX4, TX4, 10, rfl, lw_gd_p (i := 0) rfl rfl⟩
abbrev mX4_byteAt : am_M := (RX4, cX4_byteAt, 2, (some .int))
set_option maxRecDepth 100000 in
theorem ylX4_byteAt : yl_ok yX4_byteAt mX4_byteAt 1 := ⟨⟨by decide, by decide, by decide +kernel⟩, gd2 (i := 54) rfl rfl, gd1 (i := 2) rfl rfl⟩
set_option maxRecDepth 100000 in
theorem yvX4_byteAt : yv_ok yX4_byteAt 4 := ⟨gd2 (i := 53) rfl rfl, RX4, TX4, 10, rfl, lw_gd_p (i := 1) rfl rfl⟩
abbrev mX4_passed : am_M := (RX4, cX4_passed, 2, (some .int))
set_option maxRecDepth 100000 in
theorem ylX4_passed : yl_ok yX4_passed mX4_passed 1 := ⟨⟨by decide, by decide, by decide +kernel⟩, gd2 (i := 61) rfl rfl, gd1 (i := 2) rfl rfl⟩
set_option maxRecDepth 100000 in
theorem yvX4_passed : yv_ok yX4_passed 4 := ⟨gd2 (i := 60) rfl rfl, RX4, TX4, 10, rfl, lw_gd_p (i := 2) rfl rfl⟩
abbrev mX4_passedPlain : am_M := (RX4, cX4_passedPlain, 4, (some .int))
set_option maxRecDepth 100000 in
theorem ylX4_passedPlain : yl_ok yX4_passedPlain mX4_passedPlain 1 := ⟨⟨by decide, by decide, by decide +kernel⟩, gd2 (i := 65) rfl rfl, gd1 (i := 2) rfl rfl⟩
set_option maxRecDepth 100000 in
theorem yvX4_passedPlain : yv_ok yX4_passedPlain 4 := ⟨gd2 (i := 64) rfl rfl, RX4, TX4, 10, rfl, lw_gd_p (i := 3) rfl rfl⟩
abbrev mX4_passedLoose : am_M := (RX4, cX4_passedLoose, 3, (some .int))
set_option maxRecDepth 100000 in
theorem ylX4_passedLoose : yl_ok yX4_passedLoose mX4_passedLoose 2 := ⟨⟨by decide, by decide, by decide +kernel⟩, gd2 (i := 81) rfl rfl, gd1 (i := 2) rfl rfl⟩
set_option maxRecDepth 100000 in
theorem yvX4_passedLoose : yv_ok yX4_passedLoose 4 := ⟨gd2 (i := 80) rfl rfl, RX4, TX4, 10, rfl, lw_gd_p (i := 6) rfl rfl⟩
abbrev mX4_passedCue : am_M := (RX4, cX4_passedCue, 4, (some .int))
set_option maxRecDepth 100000 in
theorem ylX4_passedCue : yl_ok yX4_passedCue mX4_passedCue 1 := ⟨⟨by decide, by decide, by decide +kernel⟩, gd2 (i := 85) rfl rfl, gd1 (i := 2) rfl rfl⟩
set_option maxRecDepth 100000 in
theorem yvX4_passedCue : yv_ok yX4_passedCue 4 := ⟨gd2 (i := 84) rfl rfl, RX4, TX4, 10, rfl, lw_gd_p (i := 7) rfl rfl⟩
abbrev mX4_addBars : am_M := (RX4, cX4_addBars, 4, (some .boolean))
set_option maxRecDepth 100000 in
theorem ylX4_addBars : yl_ok yX4_addBars mX4_addBars 2 := ⟨⟨by decide, by decide, by decide +kernel⟩, gd2 (i := 74) rfl rfl, gd1 (i := 2) rfl rfl⟩
set_option maxRecDepth 100000 in
theorem yvX4_addBars : yv_ok yX4_addBars 4 := ⟨gd2 (i := 73) rfl rfl, RX4, TX4, 10, rfl, lw_gd_p (i := 5) rfl rfl⟩
abbrev mX4_faultAt : am_M := (RX4, cX4_faultAt, 2, (some .int))
set_option maxRecDepth 100000 in
theorem ylX4_faultAt : yl_ok yX4_faultAt mX4_faultAt 1 := ⟨⟨by decide, by decide, by decide +kernel⟩, gd2 (i := 70) rfl rfl, gd1 (i := 2) rfl rfl⟩
set_option maxRecDepth 100000 in
theorem yvX4_faultAt : yv_ok yX4_faultAt 4 := ⟨gd2 (i := 69) rfl rfl, RX4, TX4, 10, rfl, lw_gd_p (i := 4) rfl rfl⟩
abbrev mX5_init : am_M := (RX5, cX5_init, 1, none)
abbrev mX5_append : am_M := (RX5, cX5_append, 5, (some .boolean))
set_option maxRecDepth 100000 in
theorem ylX5_append : yl_ok yX5_append mX5_append 2 := ⟨⟨by decide, by decide, by decide +kernel⟩, gd3 (i := 154) rfl rfl, gd1 (i := 8) rfl rfl⟩
set_option maxRecDepth 100000 in
theorem yvX5_append : yv_ok yX5_append 5 := ⟨gd3 (i := 152) rfl rfl, RX5, TX5, 5, rfl, gd3 (i := 153) rfl rfl⟩
abbrev mX5_bestBits : am_M := (RX5, cX5_bestBits, 5, (some .int))
set_option maxRecDepth 100000 in
theorem ylX5_bestBits : yl_ok yX5_bestBits mX5_bestBits 0 := ⟨⟨by decide, by decide, by decide +kernel⟩, gd3 (i := 167) rfl rfl, gd1 (i := 8) rfl rfl⟩
set_option maxRecDepth 100000 in
theorem yvX5_bestBits : yv_ok yX5_bestBits 5 := ⟨gd3 (i := 165) rfl rfl, RX5, TX5, 5, rfl, gd3 (i := 166) rfl rfl⟩
abbrev mX5_plan : am_M := (RX5, cX5_plan, 7, (some .int))
set_option maxRecDepth 100000 in
theorem ylX5_plan : yl_ok yX5_plan mX5_plan 1 := ⟨⟨by decide, by decide, by decide +kernel⟩, gd3 (i := 171) rfl rfl, gd1 (i := 8) rfl rfl⟩
set_option maxRecDepth 100000 in
theorem yvX5_plan : yv_ok yX5_plan 5 := ⟨gd3 (i := 169) rfl rfl, RX5, TX5, 5, rfl, gd3 (i := 170) rfl rfl⟩
abbrev mX5_lookedAtIn : am_M := (RX5, cX5_lookedAtIn, 3, (some .int))
set_option maxRecDepth 100000 in
theorem ylX5_lookedAtIn : yl_ok yX5_lookedAtIn mX5_lookedAtIn 1 := ⟨⟨by decide, by decide, by decide +kernel⟩, gd3 (i := 185) rfl rfl, gd1 (i := 8) rfl rfl⟩
set_option maxRecDepth 100000 in
theorem yvX5_lookedAtIn : yv_ok yX5_lookedAtIn 5 := ⟨gd3 (i := 183) rfl rfl, RX5, TX5, 5, rfl, gd3 (i := 184) rfl rfl⟩
abbrev mX6_init : am_M := (RX6, cX6_init, 1, none)
abbrev mX6_most : am_M := (RX6, cX6_most, 1, (some .int))
set_option maxRecDepth 100000 in
theorem ylX6_most : yl_ok yX6_most mX6_most 1 := ⟨⟨by decide, by decide, by decide +kernel⟩, gd2 (i := 146) rfl rfl, gd1 (i := 3) rfl rfl⟩
set_option maxRecDepth 100000 in
theorem ysX6_most : Cond.static yX6_most ∈ lw_gd := gd2 (i := 145) rfl rfl
abbrev mX6_valueOf : am_M := (RX6, cX6_valueOf, 2, (some .int))
set_option maxRecDepth 100000 in
theorem ylX6_valueOf : yl_ok yX6_valueOf mX6_valueOf 1 := ⟨⟨by decide, by decide, by decide +kernel⟩, gd2 (i := 153) rfl rfl, gd1 (i := 3) rfl rfl⟩
set_option maxRecDepth 100000 in
theorem yvX6_valueOf : yv_ok yX6_valueOf 6 := ⟨gd2 (i := 151) rfl rfl, RX6, TX6, 1, rfl, gd2 (i := 152) rfl rfl⟩
abbrev mX6_become : am_M := (RX6, cX6_become, 3, none)
set_option maxRecDepth 100000 in
theorem ylX6_become : yl_ok yX6_become mX6_become 2 := ⟨⟨by decide, by decide, by decide +kernel⟩, gd2 (i := 157) rfl rfl, gd1 (i := 3) rfl rfl⟩
set_option maxRecDepth 100000 in
theorem yvX6_become : yv_ok yX6_become 6 := ⟨gd2 (i := 155) rfl rfl, RX6, TX6, 1, rfl, gd2 (i := 156) rfl rfl⟩
abbrev mX7_init : am_M := (RX7, cX7_init, 1, none)
abbrev mX7_renew : am_M := (RX7, cX7_renew, 3, none)
set_option maxRecDepth 100000 in
theorem ylX7_renew : yl_ok yX7_renew mX7_renew 2 := ⟨⟨by decide, by decide, by decide +kernel⟩, gd3 (i := 236) rfl rfl, gd1 (i := 11) rfl rfl⟩
set_option maxRecDepth 100000 in
theorem yvX7_renew : yv_ok yX7_renew 7 := ⟨gd3 (i := 234) rfl rfl, RX7, TX7, 4, rfl, gd3 (i := 235) rfl rfl⟩
abbrev mX7_findingAt : am_M := (RX7, cX7_findingAt, 3, (some .int))
set_option maxRecDepth 100000 in
theorem ylX7_findingAt : yl_ok yX7_findingAt mX7_findingAt 2 := ⟨⟨by decide, by decide, by decide +kernel⟩, gd4 (i := 9) rfl rfl, gd1 (i := 11) rfl rfl⟩
set_option maxRecDepth 100000 in
theorem yvX7_findingAt : yv_ok yX7_findingAt 7 := ⟨gd4 (i := 7) rfl rfl, RX7, TX7, 4, rfl, gd4 (i := 8) rfl rfl⟩
abbrev mX7_hasItems : am_M := (RX7, cX7_hasItems, 3, (some .boolean))
set_option maxRecDepth 100000 in
theorem ylX7_hasItems : yl_ok yX7_hasItems mX7_hasItems 2 := ⟨⟨by decide, by decide, by decide +kernel⟩, gd4 (i := 13) rfl rfl, gd1 (i := 11) rfl rfl⟩
set_option maxRecDepth 100000 in
theorem yvX7_hasItems : yv_ok yX7_hasItems 7 := ⟨gd4 (i := 11) rfl rfl, RX7, TX7, 4, rfl, gd4 (i := 12) rfl rfl⟩
abbrev mX7_itemOf : am_M := (RX7, cX7_itemOf, 2, (some .int))
set_option maxRecDepth 100000 in
theorem ylX7_itemOf : yl_ok yX7_itemOf mX7_itemOf 1 := ⟨⟨by decide, by decide, by decide +kernel⟩, gd2 (i := 177) rfl rfl, gd1 (i := 11) rfl rfl⟩
set_option maxRecDepth 100000 in
theorem yvX7_itemOf : yv_ok yX7_itemOf 7 := ⟨gd2 (i := 175) rfl rfl, RX7, TX7, 4, rfl, gd2 (i := 176) rfl rfl⟩
abbrev mX7_become : am_M := (RX7, cX7_become, 3, none)
set_option maxRecDepth 100000 in
theorem ylX7_become : yl_ok yX7_become mX7_become 2 := ⟨⟨by decide, by decide, by decide +kernel⟩, gd4 (i := 17) rfl rfl, gd1 (i := 11) rfl rfl⟩
set_option maxRecDepth 100000 in
theorem yvX7_become : yv_ok yX7_become 7 := ⟨gd4 (i := 15) rfl rfl, RX7, TX7, 4, rfl, gd4 (i := 16) rfl rfl⟩
abbrev mX8_init : am_M := (RX8, cX8_init, 2, none)
abbrev mX8_chanceOf : am_M := (RX8, cX8_chanceOf, 2, (some .long))
set_option maxRecDepth 100000 in
theorem ylX8_chanceOf : yl_ok yX8_chanceOf mX8_chanceOf 1 := ⟨⟨by decide, by decide, by decide +kernel⟩, gd3 (i := 91) rfl rfl, gd1 (i := 7) rfl rfl⟩
set_option maxRecDepth 100000 in
theorem yvX8_chanceOf : yv_ok yX8_chanceOf 8 := ⟨gd3 (i := 89) rfl rfl, RX8, TX8, 3, rfl, gd3 (i := 90) rfl rfl⟩
abbrev mX8_walk : am_M := (RX8, cX8_walk, 8, none)
set_option maxRecDepth 100000 in
theorem ylX8_walk : yl_ok yX8_walk mX8_walk 4 := ⟨⟨by decide, by decide, by decide +kernel⟩, gd3 (i := 65) rfl rfl, gd1 (i := 7) rfl rfl⟩
set_option maxRecDepth 100000 in
theorem yvX8_walk : yv_ok yX8_walk 8 := ⟨gd3 (i := 63) rfl rfl, RX8, TX8, 3, rfl, gd3 (i := 64) rfl rfl⟩
abbrev mX8_drift : am_M := (RX8, cX8_drift, 6, none)
set_option maxRecDepth 100000 in
theorem ylX8_drift : yl_ok yX8_drift mX8_drift 3 := ⟨⟨by decide, by decide, by decide +kernel⟩, gd3 (i := 77) rfl rfl, gd1 (i := 7) rfl rfl⟩
set_option maxRecDepth 100000 in
theorem yvX8_drift : yv_ok yX8_drift 8 := ⟨gd3 (i := 76) rfl rfl, RX8, TX8, 3, rfl, lw_gd_p (i := 15) rfl rfl⟩
abbrev mX8_gather : am_M := (RX8, cX8_gather, 3, none)
set_option maxRecDepth 100000 in
theorem ylX8_gather : yl_ok yX8_gather mX8_gather 1 := ⟨⟨by decide, by decide, by decide +kernel⟩, gd3 (i := 86) rfl rfl, gd1 (i := 7) rfl rfl⟩
set_option maxRecDepth 100000 in
theorem yvX8_gather : yv_ok yX8_gather 8 := ⟨gd3 (i := 85) rfl rfl, RX8, TX8, 3, rfl, lw_gd_p (i := 16) rfl rfl⟩
abbrev mX9_init : am_M := (RX9, cX9_init, 5, none)
abbrev mX9_ofAll : am_M := (RX9, cX9_ofAll, 2, (some .long))
set_option maxRecDepth 100000 in
theorem ylX9_ofAll : yl_ok yX9_ofAll mX9_ofAll 1 := ⟨⟨by decide, by decide, by decide +kernel⟩, gd3 (i := 27) rfl rfl, gd1 (i := 6) rfl rfl⟩
set_option maxRecDepth 100000 in
theorem yvX9_ofAll : yv_ok yX9_ofAll 9 := ⟨gd3 (i := 25) rfl rfl, RX9, TX9, 8, rfl, gd3 (i := 26) rfl rfl⟩
abbrev mX9_saidIn : am_M := (RX9, cX9_saidIn, 4, (some .long))
set_option maxRecDepth 100000 in
theorem ylX9_saidIn : yl_ok yX9_saidIn mX9_saidIn 2 := ⟨⟨by decide, by decide, by decide +kernel⟩, gd3 (i := 31) rfl rfl, gd1 (i := 6) rfl rfl⟩
set_option maxRecDepth 100000 in
theorem yvX9_saidIn : yv_ok yX9_saidIn 9 := ⟨gd3 (i := 29) rfl rfl, RX9, TX9, 8, rfl, gd3 (i := 30) rfl rfl⟩
abbrev mX9_find : am_M := (RX9, cX9_find, 4, none)
set_option maxRecDepth 100000 in
theorem ylX9_find : yl_ok yX9_find mX9_find 0 := ⟨⟨by decide, by decide, by decide +kernel⟩, gd2 (i := 224) rfl rfl, gd1 (i := 6) rfl rfl⟩
set_option maxRecDepth 100000 in
theorem yvX9_find : yv_ok yX9_find 9 := ⟨gd2 (i := 222) rfl rfl, RX9, TX9, 8, rfl, gd2 (i := 223) rfl rfl⟩
abbrev mX9_pass : am_M := (RX9, cX9_pass, 20, none)
set_option maxRecDepth 100000 in
theorem ylX9_pass : yl_ok yX9_pass mX9_pass 2 := ⟨⟨by decide, by decide, by decide +kernel⟩, gd2 (i := 238) rfl rfl, gd1 (i := 6) rfl rfl⟩
set_option maxRecDepth 100000 in
theorem yvX9_pass : yv_ok yX9_pass 9 := ⟨gd2 (i := 237) rfl rfl, RX9, TX9, 8, rfl, lw_gd_p (i := 12) rfl rfl⟩
abbrev mX9_addSaid : am_M := (RX9, cX9_addSaid, 5, none)
set_option maxRecDepth 100000 in
theorem ylX9_addSaid : yl_ok yX9_addSaid mX9_addSaid 3 := ⟨⟨by decide, by decide, by decide +kernel⟩, gd3 (i := 12) rfl rfl, gd1 (i := 6) rfl rfl⟩
set_option maxRecDepth 100000 in
theorem yvX9_addSaid : yv_ok yX9_addSaid 9 := ⟨gd3 (i := 11) rfl rfl, RX9, TX9, 8, rfl, lw_gd_p (i := 13) rfl rfl⟩
abbrev mX10_init : am_M := (RX10, cX10_init, 2, none)
abbrev mX10_type : am_M := (RX10, cX10_type, 2, (some .int))
set_option maxRecDepth 100000 in
theorem ylX10_type : yl_ok yX10_type mX10_type 1 := ⟨⟨by decide, by decide, by decide +kernel⟩, gd2 (i := 39) rfl rfl, gd1 (i := 1) rfl rfl⟩
set_option maxRecDepth 100000 in
theorem yvX10_type : yv_ok yX10_type 10 := ⟨gd2 (i := 37) rfl rfl, RX10, TX10, 13, rfl, gd2 (i := 38) rfl rfl⟩
abbrev mX10_wipe : am_M := (RX10, cX10_wipe, 2, (some .int))
set_option maxRecDepth 100000 in
theorem ylX10_wipe : yl_ok yX10_wipe mX10_wipe 0 := ⟨⟨by decide, by decide, by decide +kernel⟩, gd2 (i := 89) rfl rfl, gd1 (i := 1) rfl rfl⟩
set_option maxRecDepth 100000 in
theorem yvX10_wipe : yv_ok yX10_wipe 10 := ⟨gd2 (i := 87) rfl rfl, RX10, TX10, 13, rfl, gd2 (i := 88) rfl rfl⟩
abbrev mX10_undo : am_M := (RX10, cX10_undo, 1, (some .int))
set_option maxRecDepth 100000 in
theorem ylX10_undo : yl_ok yX10_undo mX10_undo 0 := ⟨⟨by decide, by decide, by decide +kernel⟩, gd2 (i := 97) rfl rfl, gd1 (i := 1) rfl rfl⟩
set_option maxRecDepth 100000 in
theorem yvX10_undo : yv_ok yX10_undo 10 := ⟨gd2 (i := 95) rfl rfl, RX10, TX10, 13, rfl, gd2 (i := 96) rfl rfl⟩
abbrev mX10_fault : am_M := (RX10, cX10_fault, 1, (some .int))
set_option maxRecDepth 100000 in
theorem ylX10_fault : yl_ok yX10_fault mX10_fault 0 := ⟨⟨by decide, by decide, by decide +kernel⟩, gd2 (i := 101) rfl rfl, gd1 (i := 1) rfl rfl⟩
set_option maxRecDepth 100000 in
theorem yvX10_fault : yv_ok yX10_fault 10 := ⟨gd2 (i := 99) rfl rfl, RX10, TX10, 13, rfl, gd2 (i := 100) rfl rfl⟩
abbrev mX10_bar : am_M := (RX10, cX10_bar, 3, (some .int))
set_option maxRecDepth 100000 in
theorem ylX10_bar : yl_ok yX10_bar mX10_bar 2 := ⟨⟨by decide, by decide, by decide +kernel⟩, gd2 (i := 105) rfl rfl, gd1 (i := 1) rfl rfl⟩
set_option maxRecDepth 100000 in
theorem yvX10_bar : yv_ok yX10_bar 10 := ⟨gd2 (i := 103) rfl rfl, RX10, TX10, 13, rfl, gd2 (i := 104) rfl rfl⟩
abbrev mX10_odds : am_M := (RX10, cX10_odds, 5, (some .int))
set_option maxRecDepth 100000 in
theorem ylX10_odds : yl_ok yX10_odds mX10_odds 3 := ⟨⟨by decide, by decide, by decide +kernel⟩, gd2 (i := 126) rfl rfl, gd1 (i := 1) rfl rfl⟩
set_option maxRecDepth 100000 in
theorem yvX10_odds : yv_ok yX10_odds 10 := ⟨gd2 (i := 124) rfl rfl, RX10, TX10, 13, rfl, gd2 (i := 125) rfl rfl⟩
abbrev mX10_set : am_M := (RX10, cX10_set, 4, (some .int))
set_option maxRecDepth 100000 in
theorem ylX10_set : yl_ok yX10_set mX10_set 2 := ⟨⟨by decide, by decide, by decide +kernel⟩, gd2 (i := 143) rfl rfl, gd1 (i := 1) rfl rfl⟩
set_option maxRecDepth 100000 in
theorem yvX10_set : yv_ok yX10_set 10 := ⟨gd2 (i := 141) rfl rfl, RX10, TX10, 13, rfl, gd2 (i := 142) rfl rfl⟩
abbrev mX10_read : am_M := (RX10, cX10_read, 6, (some .int))
set_option maxRecDepth 100000 in
theorem ylX10_read : yl_ok yX10_read mX10_read 1 := ⟨⟨by decide, by decide, by decide +kernel⟩, gd2 (i := 161) rfl rfl, gd1 (i := 1) rfl rfl⟩
set_option maxRecDepth 100000 in
theorem yvX10_read : yv_ok yX10_read 10 := ⟨gd2 (i := 159) rfl rfl, RX10, TX10, 13, rfl, gd2 (i := 160) rfl rfl⟩
abbrev mX10_hear : am_M := (RX10, cX10_hear, 3, (some .int))
set_option maxRecDepth 100000 in
theorem ylX10_hear : yl_ok yX10_hear mX10_hear 2 := ⟨⟨by decide, by decide, by decide +kernel⟩, gd2 (i := 189) rfl rfl, gd1 (i := 1) rfl rfl⟩
set_option maxRecDepth 100000 in
theorem yvX10_hear : yv_ok yX10_hear 10 := ⟨gd2 (i := 187) rfl rfl, RX10, TX10, 13, rfl, gd2 (i := 188) rfl rfl⟩
abbrev mX10_shown : am_M := (RX10, cX10_shown, 3, (some .int))
set_option maxRecDepth 100000 in
theorem ylX10_shown : yl_ok yX10_shown mX10_shown 2 := ⟨⟨by decide, by decide, by decide +kernel⟩, gd2 (i := 201) rfl rfl, gd1 (i := 1) rfl rfl⟩
set_option maxRecDepth 100000 in
theorem yvX10_shown : yv_ok yX10_shown 10 := ⟨gd2 (i := 199) rfl rfl, RX10, TX10, 13, rfl, gd2 (i := 200) rfl rfl⟩
abbrev mX10_forget : am_M := (RX10, cX10_forget, 2, (some .int))
set_option maxRecDepth 100000 in
theorem ylX10_forget : yl_ok yX10_forget mX10_forget 0 := ⟨⟨by decide, by decide, by decide +kernel⟩, gd2 (i := 205) rfl rfl, gd1 (i := 1) rfl rfl⟩
set_option maxRecDepth 100000 in
theorem yvX10_forget : yv_ok yX10_forget 10 := ⟨gd2 (i := 203) rfl rfl, RX10, TX10, 13, rfl, gd2 (i := 204) rfl rfl⟩
abbrev mX10_where : am_M := (RX10, cX10_where, 6, (some .long))
set_option maxRecDepth 100000 in
theorem ylX10_where : yl_ok yX10_where mX10_where 3 := ⟨⟨by decide, by decide, by decide +kernel⟩, gd2 (i := 209) rfl rfl, gd1 (i := 1) rfl rfl⟩
set_option maxRecDepth 100000 in
theorem yvX10_where : yv_ok yX10_where 10 := ⟨gd2 (i := 207) rfl rfl, RX10, TX10, 13, rfl, gd2 (i := 208) rfl rfl⟩
abbrev mX10_likeliest : am_M := (RX10, cX10_likeliest, 8, (some .int))
set_option maxRecDepth 100000 in
theorem ylX10_likeliest : yl_ok yX10_likeliest mX10_likeliest 1 := ⟨⟨by decide, by decide, by decide +kernel⟩, gd3 (i := 42) rfl rfl, gd1 (i := 1) rfl rfl⟩
set_option maxRecDepth 100000 in
theorem yvX10_likeliest : yv_ok yX10_likeliest 10 := ⟨gd3 (i := 40) rfl rfl, RX10, TX10, 13, rfl, gd3 (i := 41) rfl rfl⟩
abbrev mX10_strike : am_M := (RX10, cX10_strike, 5, (some .long))
set_option maxRecDepth 100000 in
theorem ylX10_strike : yl_ok yX10_strike mX10_strike 2 := ⟨⟨by decide, by decide, by decide +kernel⟩, gd3 (i := 46) rfl rfl, gd1 (i := 1) rfl rfl⟩
set_option maxRecDepth 100000 in
theorem yvX10_strike : yv_ok yX10_strike 10 := ⟨gd3 (i := 44) rfl rfl, RX10, TX10, 13, rfl, gd3 (i := 45) rfl rfl⟩
abbrev mX10_line : am_M := (RX10, cX10_line, 9, (some .int))
set_option maxRecDepth 100000 in
theorem ylX10_line : yl_ok yX10_line mX10_line 0 := ⟨⟨by decide, by decide, by decide +kernel⟩, gd3 (i := 54) rfl rfl, gd1 (i := 1) rfl rfl⟩
set_option maxRecDepth 100000 in
theorem yvX10_line : yv_ok yX10_line 10 := ⟨gd3 (i := 52) rfl rfl, RX10, TX10, 13, rfl, gd3 (i := 53) rfl rfl⟩
abbrev mX10_slips : am_M := (RX10, cX10_slips, 4, (some .long))
set_option maxRecDepth 100000 in
theorem ylX10_slips : yl_ok yX10_slips mX10_slips 3 := ⟨⟨by decide, by decide, by decide +kernel⟩, gd3 (i := 61) rfl rfl, gd1 (i := 1) rfl rfl⟩
set_option maxRecDepth 100000 in
theorem yvX10_slips : yv_ok yX10_slips 10 := ⟨gd3 (i := 59) rfl rfl, RX10, TX10, 13, rfl, gd3 (i := 60) rfl rfl⟩
abbrev mX10_safe : am_M := (RX10, cX10_safe, 4, (some .long))
set_option maxRecDepth 100000 in
theorem ylX10_safe : yl_ok yX10_safe mX10_safe 2 := ⟨⟨by decide, by decide, by decide +kernel⟩, gd3 (i := 96) rfl rfl, gd1 (i := 1) rfl rfl⟩
set_option maxRecDepth 100000 in
theorem yvX10_safe : yv_ok yX10_safe 10 := ⟨gd3 (i := 94) rfl rfl, RX10, TX10, 13, rfl, gd3 (i := 95) rfl rfl⟩
abbrev mX10_write : am_M := (RX10, cX10_write, 8, (some .int))
set_option maxRecDepth 100000 in
theorem ylX10_write : yl_ok yX10_write mX10_write 1 := ⟨⟨by decide, by decide, by decide +kernel⟩, gd3 (i := 110) rfl rfl, gd1 (i := 1) rfl rfl⟩
set_option maxRecDepth 100000 in
theorem yvX10_write : yv_ok yX10_write 10 := ⟨gd3 (i := 108) rfl rfl, RX10, TX10, 13, rfl, gd3 (i := 109) rfl rfl⟩
abbrev mX10_few : am_M := (RX10, cX10_few, 6, (some .int))
set_option maxRecDepth 100000 in
theorem ylX10_few : yl_ok yX10_few mX10_few 1 := ⟨⟨by decide, by decide, by decide +kernel⟩, gd3 (i := 116) rfl rfl, gd1 (i := 1) rfl rfl⟩
set_option maxRecDepth 100000 in
theorem yvX10_few : yv_ok yX10_few 10 := ⟨gd3 (i := 114) rfl rfl, RX10, TX10, 13, rfl, gd3 (i := 115) rfl rfl⟩
abbrev mX10_anew : am_M := (RX10, cX10_anew, 9, (some .int))
set_option maxRecDepth 100000 in
theorem ylX10_anew : yl_ok yX10_anew mX10_anew 1 := ⟨⟨by decide, by decide, by decide +kernel⟩, gd3 (i := 121) rfl rfl, gd1 (i := 1) rfl rfl⟩
set_option maxRecDepth 100000 in
theorem yvX10_anew : yv_ok yX10_anew 10 := ⟨gd3 (i := 119) rfl rfl, RX10, TX10, 13, rfl, gd3 (i := 120) rfl rfl⟩
abbrev mX10_joint : am_M := (RX10, cX10_joint, 6, (some .long))
set_option maxRecDepth 100000 in
theorem ylX10_joint : yl_ok yX10_joint mX10_joint 3 := ⟨⟨by decide, by decide, by decide +kernel⟩, gd3 (i := 129) rfl rfl, gd1 (i := 1) rfl rfl⟩
set_option maxRecDepth 100000 in
theorem yvX10_joint : yv_ok yX10_joint 10 := ⟨gd3 (i := 127) rfl rfl, RX10, TX10, 13, rfl, gd3 (i := 128) rfl rfl⟩
abbrev mX10_evening : am_M := (RX10, cX10_evening, 3, (some .long))
set_option maxRecDepth 100000 in
theorem ylX10_evening : yl_ok yX10_evening mX10_evening 2 := ⟨⟨by decide, by decide, by decide +kernel⟩, gd3 (i := 133) rfl rfl, gd1 (i := 1) rfl rfl⟩
set_option maxRecDepth 100000 in
theorem yvX10_evening : yv_ok yX10_evening 10 := ⟨gd3 (i := 131) rfl rfl, RX10, TX10, 13, rfl, gd3 (i := 132) rfl rfl⟩
abbrev mX10_prime : am_M := (RX10, cX10_prime, 9, (some .int))
set_option maxRecDepth 100000 in
theorem ylX10_prime : yl_ok yX10_prime mX10_prime 1 := ⟨⟨by decide, by decide, by decide +kernel⟩, gd3 (i := 146) rfl rfl, gd1 (i := 1) rfl rfl⟩
set_option maxRecDepth 100000 in
theorem yvX10_prime : yv_ok yX10_prime 10 := ⟨gd3 (i := 144) rfl rfl, RX10, TX10, 13, rfl, gd3 (i := 145) rfl rfl⟩
abbrev mX10_player : am_M := (RX10, cX10_player, 3, (some .int))
set_option maxRecDepth 100000 in
theorem ylX10_player : yl_ok yX10_player mX10_player 2 := ⟨⟨by decide, by decide, by decide +kernel⟩, gd3 (i := 150) rfl rfl, gd1 (i := 1) rfl rfl⟩
set_option maxRecDepth 100000 in
theorem yvX10_player : yv_ok yX10_player 10 := ⟨gd3 (i := 148) rfl rfl, RX10, TX10, 13, rfl, gd3 (i := 149) rfl rfl⟩
abbrev mX10_leave : am_M := (RX10, cX10_leave, 2, (some .int))
set_option maxRecDepth 100000 in
theorem ylX10_leave : yl_ok yX10_leave mX10_leave 0 := ⟨⟨by decide, by decide, by decide +kernel⟩, gd3 (i := 159) rfl rfl, gd1 (i := 1) rfl rfl⟩
set_option maxRecDepth 100000 in
theorem yvX10_leave : yv_ok yX10_leave 10 := ⟨gd3 (i := 157) rfl rfl, RX10, TX10, 13, rfl, gd3 (i := 158) rfl rfl⟩
abbrev mX10_worth : am_M := (RX10, cX10_worth, 3, (some .int))
set_option maxRecDepth 100000 in
theorem ylX10_worth : yl_ok yX10_worth mX10_worth 1 := ⟨⟨by decide, by decide, by decide +kernel⟩, gd3 (i := 163) rfl rfl, gd1 (i := 1) rfl rfl⟩
set_option maxRecDepth 100000 in
theorem yvX10_worth : yv_ok yX10_worth 10 := ⟨gd3 (i := 161) rfl rfl, RX10, TX10, 13, rfl, gd3 (i := 162) rfl rfl⟩
abbrev mX10_look : am_M := (RX10, cX10_look, 2, (some .int))
set_option maxRecDepth 100000 in
theorem ylX10_look : yl_ok yX10_look mX10_look 1 := ⟨⟨by decide, by decide, by decide +kernel⟩, gd3 (i := 181) rfl rfl, gd1 (i := 1) rfl rfl⟩
set_option maxRecDepth 100000 in
theorem yvX10_look : yv_ok yX10_look 10 := ⟨gd3 (i := 179) rfl rfl, RX10, TX10, 13, rfl, gd3 (i := 180) rfl rfl⟩
abbrev mX10_from : am_M := (RX10, cX10_from, 3, (some .int))
set_option maxRecDepth 100000 in
theorem ylX10_from : yl_ok yX10_from mX10_from 1 := ⟨⟨by decide, by decide, by decide +kernel⟩, gd3 (i := 189) rfl rfl, gd1 (i := 1) rfl rfl⟩
set_option maxRecDepth 100000 in
theorem yvX10_from : yv_ok yX10_from 10 := ⟨gd3 (i := 187) rfl rfl, RX10, TX10, 13, rfl, gd3 (i := 188) rfl rfl⟩
abbrev mX10_said : am_M := (RX10, cX10_said, 2, (some .int))
set_option maxRecDepth 100000 in
theorem ylX10_said : yl_ok yX10_said mX10_said 1 := ⟨⟨by decide, by decide, by decide +kernel⟩, gd3 (i := 193) rfl rfl, gd1 (i := 1) rfl rfl⟩
set_option maxRecDepth 100000 in
theorem yvX10_said : yv_ok yX10_said 10 := ⟨gd3 (i := 191) rfl rfl, RX10, TX10, 13, rfl, gd3 (i := 192) rfl rfl⟩
abbrev mX10_wrong : am_M := (RX10, cX10_wrong, 2, (some .int))
set_option maxRecDepth 100000 in
theorem ylX10_wrong : yl_ok yX10_wrong mX10_wrong 1 := ⟨⟨by decide, by decide, by decide +kernel⟩, gd3 (i := 197) rfl rfl, gd1 (i := 1) rfl rfl⟩
set_option maxRecDepth 100000 in
theorem yvX10_wrong : yv_ok yX10_wrong 10 := ⟨gd3 (i := 195) rfl rfl, RX10, TX10, 13, rfl, gd3 (i := 196) rfl rfl⟩
abbrev mX10_blame : am_M := (RX10, cX10_blame, 3, (some .int))
set_option maxRecDepth 100000 in
theorem ylX10_blame : yl_ok yX10_blame mX10_blame 0 := ⟨⟨by decide, by decide, by decide +kernel⟩, gd3 (i := 214) rfl rfl, gd1 (i := 1) rfl rfl⟩
set_option maxRecDepth 100000 in
theorem yvX10_blame : yv_ok yX10_blame 10 := ⟨gd3 (i := 212) rfl rfl, RX10, TX10, 13, rfl, gd3 (i := 213) rfl rfl⟩
abbrev mX10_night : am_M := (RX10, cX10_night, 5, (some .int))
set_option maxRecDepth 100000 in
theorem ylX10_night : yl_ok yX10_night mX10_night 2 := ⟨⟨by decide, by decide, by decide +kernel⟩, gd3 (i := 219) rfl rfl, gd1 (i := 1) rfl rfl⟩
set_option maxRecDepth 100000 in
theorem yvX10_night : yv_ok yX10_night 10 := ⟨gd3 (i := 217) rfl rfl, RX10, TX10, 13, rfl, gd3 (i := 218) rfl rfl⟩
abbrev mX10_sheet : am_M := (RX10, cX10_sheet, 5, (some .int))
set_option maxRecDepth 100000 in
theorem ylX10_sheet : yl_ok yX10_sheet mX10_sheet 3 := ⟨⟨by decide, by decide, by decide +kernel⟩, gd3 (i := 232) rfl rfl, gd1 (i := 1) rfl rfl⟩
set_option maxRecDepth 100000 in
theorem yvX10_sheet : yv_ok yX10_sheet 10 := ⟨gd3 (i := 230) rfl rfl, RX10, TX10, 13, rfl, gd3 (i := 231) rfl rfl⟩
abbrev mX10_lose : am_M := (RX10, cX10_lose, 3, (some .int))
set_option maxRecDepth 100000 in
theorem ylX10_lose : yl_ok yX10_lose mX10_lose 1 := ⟨⟨by decide, by decide, by decide +kernel⟩, gd4 (i := 1) rfl rfl, gd1 (i := 1) rfl rfl⟩
set_option maxRecDepth 100000 in
theorem yvX10_lose : yv_ok yX10_lose 10 := ⟨gd3 (i := 239) rfl rfl, RX10, TX10, 13, rfl, gd4 (i := 0) rfl rfl⟩
abbrev mX10_put : am_M := (RX10, cX10_put, 7, (some .int))
set_option maxRecDepth 100000 in
theorem ylX10_put : yl_ok yX10_put mX10_put 4 := ⟨⟨by decide, by decide, by decide +kernel⟩, gd4 (i := 5) rfl rfl, gd1 (i := 1) rfl rfl⟩
set_option maxRecDepth 100000 in
theorem yvX10_put : yv_ok yX10_put 10 := ⟨gd4 (i := 3) rfl rfl, RX10, TX10, 13, rfl, gd4 (i := 4) rfl rfl⟩
abbrev mX10_get : am_M := (RX10, cX10_get, 6, (some .int))
set_option maxRecDepth 100000 in
theorem ylX10_get : yl_ok yX10_get mX10_get 3 := ⟨⟨by decide, by decide, by decide +kernel⟩, gd4 (i := 21) rfl rfl, gd1 (i := 1) rfl rfl⟩
set_option maxRecDepth 100000 in
theorem yvX10_get : yv_ok yX10_get 10 := ⟨gd4 (i := 19) rfl rfl, RX10, TX10, 13, rfl, gd4 (i := 20) rfl rfl⟩
abbrev mX10_copy : am_M := (RX10, cX10_copy, 8, (some .int))
set_option maxRecDepth 100000 in
theorem ylX10_copy : yl_ok yX10_copy mX10_copy 5 := ⟨⟨by decide, by decide, by decide +kernel⟩, gd4 (i := 26) rfl rfl, gd1 (i := 1) rfl rfl⟩
set_option maxRecDepth 100000 in
theorem yvX10_copy : yv_ok yX10_copy 10 := ⟨gd4 (i := 24) rfl rfl, RX10, TX10, 13, rfl, gd4 (i := 25) rfl rfl⟩
abbrev mX10_tell : am_M := (RX10, cX10_tell, 5, (some .int))
set_option maxRecDepth 100000 in
theorem ylX10_tell : yl_ok yX10_tell mX10_tell 1 := ⟨⟨by decide, by decide, by decide +kernel⟩, gd4 (i := 32) rfl rfl, gd1 (i := 1) rfl rfl⟩
set_option maxRecDepth 100000 in
theorem yvX10_tell : yv_ok yX10_tell 10 := ⟨gd4 (i := 30) rfl rfl, RX10, TX10, 13, rfl, gd4 (i := 31) rfl rfl⟩
abbrev mX10_count : am_M := (RX10, cX10_count, 2, (some .int))
set_option maxRecDepth 100000 in
theorem ylX10_count : yl_ok yX10_count mX10_count 1 := ⟨⟨by decide, by decide, by decide +kernel⟩, gd4 (i := 36) rfl rfl, gd1 (i := 1) rfl rfl⟩
set_option maxRecDepth 100000 in
theorem yvX10_count : yv_ok yX10_count 10 := ⟨gd4 (i := 34) rfl rfl, RX10, TX10, 13, rfl, gd4 (i := 35) rfl rfl⟩
abbrev mX10_digest : am_M := (RX10, cX10_digest, 5, (some .long))
set_option maxRecDepth 100000 in
theorem ylX10_digest : yl_ok yX10_digest mX10_digest 0 := ⟨⟨by decide, by decide, by decide +kernel⟩, gd4 (i := 40) rfl rfl, gd1 (i := 1) rfl rfl⟩
set_option maxRecDepth 100000 in
theorem yvX10_digest : yv_ok yX10_digest 10 := ⟨gd4 (i := 38) rfl rfl, RX10, TX10, 13, rfl, gd4 (i := 39) rfl rfl⟩
abbrev mX10_within : am_M := (RX10, cX10_within, 3, (some .boolean))
set_option maxRecDepth 100000 in
theorem ylX10_within : yl_ok yX10_within mX10_within 3 := ⟨⟨by decide, by decide, by decide +kernel⟩, gd2 (i := 42) rfl rfl, gd1 (i := 1) rfl rfl⟩
set_option maxRecDepth 100000 in
theorem ysX10_within : Cond.static yX10_within ∈ lw_gd := gd2 (i := 41) rfl rfl
abbrev mX10_isNumber : am_M := (RX10, cX10_isNumber, 1, (some .boolean))
set_option maxRecDepth 100000 in
theorem ylX10_isNumber : yl_ok yX10_isNumber mX10_isNumber 1 := ⟨⟨by decide, by decide, by decide +kernel⟩, gd2 (i := 181) rfl rfl, gd1 (i := 1) rfl rfl⟩
set_option maxRecDepth 100000 in
theorem ysX10_isNumber : Cond.static yX10_isNumber ∈ lw_gd := gd2 (i := 180) rfl rfl
abbrev mX10_isPart : am_M := (RX10, cX10_isPart, 1, (some .boolean))
set_option maxRecDepth 100000 in
theorem ylX10_isPart : yl_ok yX10_isPart mX10_isPart 1 := ⟨⟨by decide, by decide, by decide +kernel⟩, gd2 (i := 212) rfl rfl, gd1 (i := 1) rfl rfl⟩
set_option maxRecDepth 100000 in
theorem ysX10_isPart : Cond.static yX10_isPart ∈ lw_gd := gd2 (i := 211) rfl rfl
abbrev mX10_refusal : am_M := (RX10, cX10_refusal, 1, (some .long))
set_option maxRecDepth 100000 in
theorem ylX10_refusal : yl_ok yX10_refusal mX10_refusal 1 := ⟨⟨by decide, by decide, by decide +kernel⟩, gd2 (i := 215) rfl rfl, gd1 (i := 1) rfl rfl⟩
set_option maxRecDepth 100000 in
theorem ysX10_refusal : Cond.static yX10_refusal ∈ lw_gd := gd2 (i := 214) rfl rfl
abbrev mX10_found : am_M := (RX10, cX10_found, 2, (some .int))
set_option maxRecDepth 100000 in
theorem ylX10_found : yl_ok yX10_found mX10_found 1 := ⟨⟨by decide, by decide, by decide +kernel⟩, gd2 (i := 169) rfl rfl, gd1 (i := 1) rfl rfl⟩
set_option maxRecDepth 100000 in
theorem yvX10_found : yv_ok yX10_found 10 := ⟨gd2 (i := 168) rfl rfl, RX10, TX10, 13, rfl, lw_gd_p (i := 9) rfl rfl⟩
abbrev mX10_sheetAt : am_M := (RX10, cX10_sheetAt, 2, (some (.object "OneTriangle$Sheet")))
set_option maxRecDepth 100000 in
theorem ylX10_sheetAt : yl_ok yX10_sheetAt mX10_sheetAt 1 := ⟨⟨by decide, by decide, by decide +kernel⟩, gd2 (i := 165) rfl rfl, gd1 (i := 1) rfl rfl⟩
set_option maxRecDepth 100000 in
theorem yvX10_sheetAt : yv_ok yX10_sheetAt 10 := ⟨gd2 (i := 164) rfl rfl, RX10, TX10, 13, rfl, lw_gd_p (i := 8) rfl rfl⟩
abbrev mX10_addNote : am_M := (RX10, cX10_addNote, 4, (some .int))
set_option maxRecDepth 100000 in
theorem ylX10_addNote : yl_ok yX10_addNote mX10_addNote 3 := ⟨⟨by decide, by decide, by decide +kernel⟩, gd2 (i := 193) rfl rfl, gd1 (i := 1) rfl rfl⟩
set_option maxRecDepth 100000 in
theorem yvX10_addNote : yv_ok yX10_addNote 10 := ⟨gd2 (i := 192) rfl rfl, RX10, TX10, 13, rfl, lw_gd_p (i := 10) rfl rfl⟩
abbrev mX10_refreshWays : am_M := (RX10, cX10_refreshWays, 1, none)
set_option maxRecDepth 100000 in
theorem ylX10_refreshWays : yl_ok yX10_refreshWays mX10_refreshWays 0 := ⟨⟨by decide, by decide, by decide +kernel⟩, gd2 (i := 220) rfl rfl, gd1 (i := 1) rfl rfl⟩
set_option maxRecDepth 100000 in
theorem yvX10_refreshWays : yv_ok yX10_refreshWays 10 := ⟨gd2 (i := 219) rfl rfl, RX10, TX10, 13, rfl, lw_gd_p (i := 11) rfl rfl⟩
abbrev mX10_costAbove : am_M := (RX10, cX10_costAbove, 4, (some .long))
set_option maxRecDepth 100000 in
theorem ylX10_costAbove : yl_ok yX10_costAbove mX10_costAbove 1 := ⟨⟨by decide, by decide, by decide +kernel⟩, gd3 (i := 50) rfl rfl, gd1 (i := 1) rfl rfl⟩
set_option maxRecDepth 100000 in
theorem yvX10_costAbove : yv_ok yX10_costAbove 10 := ⟨gd3 (i := 49) rfl rfl, RX10, TX10, 13, rfl, lw_gd_p (i := 14) rfl rfl⟩
abbrev mX10_safety : am_M := (RX10, cX10_safety, 2, (some .long))
set_option maxRecDepth 100000 in
theorem ylX10_safety : yl_ok yX10_safety mX10_safety 1 := ⟨⟨by decide, by decide, by decide +kernel⟩, gd3 (i := 106) rfl rfl, gd1 (i := 1) rfl rfl⟩
set_option maxRecDepth 100000 in
theorem yvX10_safety : yv_ok yX10_safety 10 := ⟨gd3 (i := 105) rfl rfl, RX10, TX10, 13, rfl, lw_gd_p (i := 17) rfl rfl⟩
abbrev mX10_comeTo : am_M := (RX10, cX10_comeTo, 8, (some .boolean))
set_option maxRecDepth 100000 in
theorem ylX10_comeTo : yl_ok yX10_comeTo mX10_comeTo 1 := ⟨⟨by decide, by decide, by decide +kernel⟩, gd3 (i := 137) rfl rfl, gd1 (i := 1) rfl rfl⟩
set_option maxRecDepth 100000 in
theorem yvX10_comeTo : yv_ok yX10_comeTo 10 := ⟨gd3 (i := 136) rfl rfl, RX10, TX10, 13, rfl, lw_gd_p (i := 18) rfl rfl⟩
abbrev mX10_trueLater : am_M := (RX10, cX10_trueLater, 1, (some .long))
set_option maxRecDepth 100000 in
theorem ylX10_trueLater : yl_ok yX10_trueLater mX10_trueLater 0 := ⟨⟨by decide, by decide, by decide +kernel⟩, gd3 (i := 142) rfl rfl, gd1 (i := 1) rfl rfl⟩
set_option maxRecDepth 100000 in
theorem yvX10_trueLater : yv_ok yX10_trueLater 10 := ⟨gd3 (i := 141) rfl rfl, RX10, TX10, 13, rfl, lw_gd_p (i := 19) rfl rfl⟩
abbrev mX10_slipOfNight : am_M := (RX10, cX10_slipOfNight, 6, (some .int))
set_option maxRecDepth 100000 in
theorem ylX10_slipOfNight : yl_ok yX10_slipOfNight mX10_slipOfNight 0 := ⟨⟨by decide, by decide, by decide +kernel⟩, gd3 (i := 223) rfl rfl, gd1 (i := 1) rfl rfl⟩
set_option maxRecDepth 100000 in
theorem yvX10_slipOfNight : yv_ok yX10_slipOfNight 10 := ⟨gd3 (i := 222) rfl rfl, RX10, TX10, 13, rfl, lw_gd_p (i := 21) rfl rfl⟩
abbrev mX10_mixed : am_M := (RX10, cX10_mixed, 4, (some .long))
set_option maxRecDepth 100000 in
theorem ylX10_mixed : yl_ok yX10_mixed mX10_mixed 2 := ⟨⟨by decide, by decide, by decide +kernel⟩, gd4 (i := 45) rfl rfl, gd1 (i := 1) rfl rfl⟩
set_option maxRecDepth 100000 in
theorem ysX10_mixed : Cond.static yX10_mixed ∈ lw_gd := gd4 (i := 44) rfl rfl
abbrev mX10_told : am_M := (RX10, cX10_told, 9, (some .long))
set_option maxRecDepth 100000 in
theorem ylX10_told : yl_ok yX10_told mX10_told 3 := ⟨⟨by decide, by decide, by decide +kernel⟩, gd3 (i := 35) rfl rfl, gd1 (i := 1) rfl rfl⟩
set_option maxRecDepth 100000 in
theorem ysX10_told : Cond.static yX10_told ∈ lw_gd := gd3 (i := 34) rfl rfl
abbrev mX10_greatestCommon : am_M := (RX10, cX10_greatestCommon, 11, (some .long))
set_option maxRecDepth 100000 in
theorem ylX10_greatestCommon : yl_ok yX10_greatestCommon mX10_greatestCommon 2 := ⟨⟨by decide, by decide, by decide +kernel⟩, gd3 (i := 38) rfl rfl, gd1 (i := 1) rfl rfl⟩
set_option maxRecDepth 100000 in
theorem ysX10_greatestCommon : Cond.static yX10_greatestCommon ∈ lw_gd := gd3 (i := 37) rfl rfl
abbrev mX10_isLess : am_M := (RX10, cX10_isLess, 25, (some .boolean))
set_option maxRecDepth 100000 in
theorem ylX10_isLess : yl_ok yX10_isLess mX10_isLess 4 := ⟨⟨by decide, by decide, by decide +kernel⟩, gd3 (i := 57) rfl rfl, gd1 (i := 1) rfl rfl⟩
set_option maxRecDepth 100000 in
theorem ysX10_isLess : Cond.static yX10_isLess ∈ lw_gd := gd3 (i := 56) rfl rfl
abbrev mX10_itemAt : am_M := (RX10, cX10_itemAt, 2, (some .int))
set_option maxRecDepth 100000 in
theorem ylX10_itemAt : yl_ok yX10_itemAt mX10_itemAt 2 := ⟨⟨by decide, by decide, by decide +kernel⟩, gd2 (i := 57) rfl rfl, gd1 (i := 1) rfl rfl⟩
set_option maxRecDepth 100000 in
theorem ysX10_itemAt : Cond.static yX10_itemAt ∈ lw_gd := gd2 (i := 56) rfl rfl
abbrev mX10_longAt : am_M := (RX10, cX10_longAt, 2, (some .long))
set_option maxRecDepth 100000 in
theorem ylX10_longAt : yl_ok yX10_longAt mX10_longAt 2 := ⟨⟨by decide, by decide, by decide +kernel⟩, gd2 (i := 234) rfl rfl, gd1 (i := 1) rfl rfl⟩
set_option maxRecDepth 100000 in
theorem ysX10_longAt : Cond.static yX10_longAt ∈ lw_gd := gd2 (i := 233) rfl rfl
abbrev mX10_addTo : am_M := (RX10, cX10_addTo, 4, none)
set_option maxRecDepth 100000 in
theorem ylX10_addTo : yl_ok yX10_addTo mX10_addTo 3 := ⟨⟨by decide, by decide, by decide +kernel⟩, gd2 (i := 231) rfl rfl, gd1 (i := 1) rfl rfl⟩
set_option maxRecDepth 100000 in
theorem ysX10_addTo : Cond.static yX10_addTo ∈ lw_gd := gd2 (i := 230) rfl rfl
abbrev mX11_init : am_M := (RX11, cX11_init, 1, none)
abbrev mX11_in : am_M := (RX11, cX11_in, 3, (some .boolean))
set_option maxRecDepth 100000 in
theorem ylX11_in : yl_ok yX11_in mX11_in 3 := ⟨⟨by decide, by decide, by decide +kernel⟩, gd4 (i := 189) rfl rfl, gd1 (i := 12) rfl rfl⟩
set_option maxRecDepth 100000 in
theorem ysX11_in : Cond.static yX11_in ∈ lw_gd := gd4 (i := 188) rfl rfl
abbrev mX11_isIn : am_M := (RX11, cX11_isIn, 2, (some .boolean))
set_option maxRecDepth 100000 in
theorem ylX11_isIn : yl_ok yX11_isIn mX11_isIn 2 := ⟨⟨by decide, by decide, by decide +kernel⟩, gd5 (i := 109) rfl rfl, gd1 (i := 12) rfl rfl⟩
set_option maxRecDepth 100000 in
theorem ysX11_isIn : Cond.static yX11_isIn ∈ lw_gd := gd5 (i := 108) rfl rfl
abbrev mX11_ones : am_M := (RX11, cX11_ones, 3, (some .int))
set_option maxRecDepth 100000 in
theorem ylX11_ones : yl_ok yX11_ones mX11_ones 1 := ⟨⟨by decide, by decide, by decide +kernel⟩, gd5 (i := 120) rfl rfl, gd1 (i := 12) rfl rfl⟩
set_option maxRecDepth 100000 in
theorem ysX11_ones : Cond.static yX11_ones ∈ lw_gd := gd5 (i := 119) rfl rfl
abbrev mX11_no : am_M := (RX11, cX11_no, 1, (some .long))
set_option maxRecDepth 100000 in
theorem ylX11_no : yl_ok yX11_no mX11_no 1 := ⟨⟨by decide, by decide, by decide +kernel⟩, gd5 (i := 55) rfl rfl, gd1 (i := 12) rfl rfl⟩
set_option maxRecDepth 100000 in
theorem ysX11_no : Cond.static yX11_no ∈ lw_gd := gd5 (i := 54) rfl rfl
abbrev mX11_lowest : am_M := (RX11, cX11_lowest, 11, (some .long))
set_option maxRecDepth 100000 in
theorem ylX11_lowest : yl_ok yX11_lowest mX11_lowest 3 := ⟨⟨by decide, by decide, by decide +kernel⟩, gd5 (i := 59) rfl rfl, gd1 (i := 12) rfl rfl⟩
set_option maxRecDepth 100000 in
theorem ysX11_lowest : Cond.static yX11_lowest ∈ lw_gd := gd5 (i := 58) rfl rfl
abbrev mX11_type : am_M := (RX11, cX11_type, 2, (some .int))
set_option maxRecDepth 100000 in
theorem ylX11_type : yl_ok yX11_type mX11_type 1 := ⟨⟨by decide, by decide, by decide +kernel⟩, gd4 (i := 186) rfl rfl, gd1 (i := 12) rfl rfl⟩
set_option maxRecDepth 100000 in
theorem yvX11_type : yv_ok yX11_type 11 := ⟨gd4 (i := 184) rfl rfl, RX11, TX11, 36, rfl, gd4 (i := 185) rfl rfl⟩
abbrev mX11_wipe : am_M := (RX11, cX11_wipe, 2, (some .int))
set_option maxRecDepth 100000 in
theorem ylX11_wipe : yl_ok yX11_wipe mX11_wipe 0 := ⟨⟨by decide, by decide, by decide +kernel⟩, gd4 (i := 193) rfl rfl, gd1 (i := 12) rfl rfl⟩
set_option maxRecDepth 100000 in
theorem yvX11_wipe : yv_ok yX11_wipe 11 := ⟨gd4 (i := 191) rfl rfl, RX11, TX11, 36, rfl, gd4 (i := 192) rfl rfl⟩
abbrev mX11_undo : am_M := (RX11, cX11_undo, 1, (some .int))
set_option maxRecDepth 100000 in
theorem ylX11_undo : yl_ok yX11_undo mX11_undo 0 := ⟨⟨by decide, by decide, by decide +kernel⟩, gd4 (i := 197) rfl rfl, gd1 (i := 12) rfl rfl⟩
set_option maxRecDepth 100000 in
theorem yvX11_undo : yv_ok yX11_undo 11 := ⟨gd4 (i := 195) rfl rfl, RX11, TX11, 36, rfl, gd4 (i := 196) rfl rfl⟩
abbrev mX11_adds : am_M := (RX11, cX11_adds, 3, none)
set_option maxRecDepth 100000 in
theorem ylX11_adds : yl_ok yX11_adds mX11_adds 2 := ⟨⟨by decide, by decide, by decide +kernel⟩, gd4 (i := 217) rfl rfl, gd1 (i := 12) rfl rfl⟩
set_option maxRecDepth 100000 in
theorem yvX11_adds : yv_ok yX11_adds 11 := ⟨gd4 (i := 216) rfl rfl, RX11, TX11, 36, rfl, lw_gd_p (i := 25) rfl rfl⟩
abbrev mX11_figureAt : am_M := (RX11, cX11_figureAt, 3, (some .int))
set_option maxRecDepth 100000 in
theorem ylX11_figureAt : yl_ok yX11_figureAt mX11_figureAt 1 := ⟨⟨by decide, by decide, by decide +kernel⟩, gd4 (i := 213) rfl rfl, gd1 (i := 12) rfl rfl⟩
set_option maxRecDepth 100000 in
theorem yvX11_figureAt : yv_ok yX11_figureAt 11 := ⟨gd4 (i := 212) rfl rfl, RX11, TX11, 36, rfl, lw_gd_p (i := 24) rfl rfl⟩
abbrev mX11_readsPiece : am_M := (RX11, cX11_readsPiece, 9, (some .int))
set_option maxRecDepth 100000 in
theorem ylX11_readsPiece : yl_ok yX11_readsPiece mX11_readsPiece 0 := ⟨⟨by decide, by decide, by decide +kernel⟩, gd4 (i := 209) rfl rfl, gd1 (i := 12) rfl rfl⟩
set_option maxRecDepth 100000 in
theorem yvX11_readsPiece : yv_ok yX11_readsPiece 11 := ⟨gd4 (i := 208) rfl rfl, RX11, TX11, 36, rfl, lw_gd_p (i := 23) rfl rfl⟩
abbrev mX11_faultNow : am_M := (RX11, cX11_faultNow, 2, (some .int))
set_option maxRecDepth 100000 in
theorem ylX11_faultNow : yl_ok yX11_faultNow mX11_faultNow 0 := ⟨⟨by decide, by decide, by decide +kernel⟩, gd4 (i := 205) rfl rfl, gd1 (i := 12) rfl rfl⟩
set_option maxRecDepth 100000 in
theorem yvX11_faultNow : yv_ok yX11_faultNow 11 := ⟨gd4 (i := 204) rfl rfl, RX11, TX11, 36, rfl, lw_gd_p (i := 22) rfl rfl⟩
abbrev mX11_fault : am_M := (RX11, cX11_fault, 1, (some .int))
set_option maxRecDepth 100000 in
theorem ylX11_fault : yl_ok yX11_fault mX11_fault 0 := ⟨⟨by decide, by decide, by decide +kernel⟩, gd4 (i := 201) rfl rfl, gd1 (i := 12) rfl rfl⟩
set_option maxRecDepth 100000 in
theorem yvX11_fault : yv_ok yX11_fault 11 := ⟨gd4 (i := 199) rfl rfl, RX11, TX11, 36, rfl, gd4 (i := 200) rfl rfl⟩
abbrev mX11_reads : am_M := (RX11, cX11_reads, 2, none)
set_option maxRecDepth 100000 in
theorem ylX11_reads : yl_ok yX11_reads mX11_reads 0 := ⟨⟨by decide, by decide, by decide +kernel⟩, gd4 (i := 229) rfl rfl, gd1 (i := 12) rfl rfl⟩
set_option maxRecDepth 100000 in
theorem yvX11_reads : yv_ok yX11_reads 11 := ⟨gd4 (i := 228) rfl rfl, RX11, TX11, 36, rfl, lw_gd_p (i := 27) rfl rfl⟩
abbrev mX11_isBar : am_M := (RX11, cX11_isBar, 2, (some .boolean))
set_option maxRecDepth 100000 in
theorem ylX11_isBar : yl_ok yX11_isBar mX11_isBar 1 := ⟨⟨by decide, by decide, by decide +kernel⟩, gd4 (i := 225) rfl rfl, gd1 (i := 12) rfl rfl⟩
set_option maxRecDepth 100000 in
theorem yvX11_isBar : yv_ok yX11_isBar 11 := ⟨gd4 (i := 224) rfl rfl, RX11, TX11, 36, rfl, lw_gd_p (i := 26) rfl rfl⟩
abbrev mX11_barOf : am_M := (RX11, cX11_barOf, 3, (some .int))
set_option maxRecDepth 100000 in
theorem ylX11_barOf : yl_ok yX11_barOf mX11_barOf 2 := ⟨⟨by decide, by decide, by decide +kernel⟩, gd4 (i := 233) rfl rfl, gd1 (i := 12) rfl rfl⟩
set_option maxRecDepth 100000 in
theorem yvX11_barOf : yv_ok yX11_barOf 11 := ⟨gd4 (i := 232) rfl rfl, RX11, TX11, 36, rfl, lw_gd_p (i := 28) rfl rfl⟩
abbrev mX11_bar : am_M := (RX11, cX11_bar, 3, (some .int))
set_option maxRecDepth 100000 in
theorem ylX11_bar : yl_ok yX11_bar mX11_bar 2 := ⟨⟨by decide, by decide, by decide +kernel⟩, gd4 (i := 221) rfl rfl, gd1 (i := 12) rfl rfl⟩
set_option maxRecDepth 100000 in
theorem yvX11_bar : yv_ok yX11_bar 11 := ⟨gd4 (i := 219) rfl rfl, RX11, TX11, 36, rfl, gd4 (i := 220) rfl rfl⟩
abbrev mX11_odds : am_M := (RX11, cX11_odds, 5, (some .int))
set_option maxRecDepth 100000 in
theorem ylX11_odds : yl_ok yX11_odds mX11_odds 3 := ⟨⟨by decide, by decide, by decide +kernel⟩, gd4 (i := 237) rfl rfl, gd1 (i := 12) rfl rfl⟩
set_option maxRecDepth 100000 in
theorem yvX11_odds : yv_ok yX11_odds 11 := ⟨gd4 (i := 235) rfl rfl, RX11, TX11, 36, rfl, gd4 (i := 236) rfl rfl⟩
abbrev mX11_set : am_M := (RX11, cX11_set, 5, (some .int))
set_option maxRecDepth 100000 in
theorem ylX11_set : yl_ok yX11_set mX11_set 2 := ⟨⟨by decide, by decide, by decide +kernel⟩, gd5 (i := 1) rfl rfl, gd1 (i := 12) rfl rfl⟩
set_option maxRecDepth 100000 in
theorem yvX11_set : yv_ok yX11_set 11 := ⟨gd4 (i := 239) rfl rfl, RX11, TX11, 36, rfl, gd5 (i := 0) rfl rfl⟩
abbrev mX11_isNumber : am_M := (RX11, cX11_isNumber, 1, (some .boolean))
set_option maxRecDepth 100000 in
theorem ylX11_isNumber : yl_ok yX11_isNumber mX11_isNumber 1 := ⟨⟨by decide, by decide, by decide +kernel⟩, gd5 (i := 15) rfl rfl, gd1 (i := 12) rfl rfl⟩
set_option maxRecDepth 100000 in
theorem ysX11_isNumber : Cond.static yX11_isNumber ∈ lw_gd := gd5 (i := 14) rfl rfl
abbrev mX11_read : am_M := (RX11, cX11_read, 3, (some .int))
set_option maxRecDepth 100000 in
theorem ylX11_read : yl_ok yX11_read mX11_read 1 := ⟨⟨by decide, by decide, by decide +kernel⟩, gd5 (i := 5) rfl rfl, gd1 (i := 12) rfl rfl⟩
set_option maxRecDepth 100000 in
theorem yvX11_read : yv_ok yX11_read 11 := ⟨gd5 (i := 3) rfl rfl, RX11, TX11, 36, rfl, gd5 (i := 4) rfl rfl⟩
abbrev mX11_notesMore : am_M := (RX11, cX11_notesMore, 4, (some .int))
set_option maxRecDepth 100000 in
theorem ylX11_notesMore : yl_ok yX11_notesMore mX11_notesMore 3 := ⟨⟨by decide, by decide, by decide +kernel⟩, gd5 (i := 23) rfl rfl, gd1 (i := 12) rfl rfl⟩
set_option maxRecDepth 100000 in
theorem yvX11_notesMore : yv_ok yX11_notesMore 11 := ⟨gd5 (i := 22) rfl rfl, RX11, TX11, 36, rfl, lw_gd_p (i := 30) rfl rfl⟩
abbrev mX11_hear : am_M := (RX11, cX11_hear, 3, (some .int))
set_option maxRecDepth 100000 in
theorem ylX11_hear : yl_ok yX11_hear mX11_hear 2 := ⟨⟨by decide, by decide, by decide +kernel⟩, gd5 (i := 19) rfl rfl, gd1 (i := 12) rfl rfl⟩
set_option maxRecDepth 100000 in
theorem yvX11_hear : yv_ok yX11_hear 11 := ⟨gd5 (i := 17) rfl rfl, RX11, TX11, 36, rfl, gd5 (i := 18) rfl rfl⟩
abbrev mX11_shown : am_M := (RX11, cX11_shown, 3, (some .int))
set_option maxRecDepth 100000 in
theorem ylX11_shown : yl_ok yX11_shown mX11_shown 2 := ⟨⟨by decide, by decide, by decide +kernel⟩, gd5 (i := 27) rfl rfl, gd1 (i := 12) rfl rfl⟩
set_option maxRecDepth 100000 in
theorem yvX11_shown : yv_ok yX11_shown 11 := ⟨gd5 (i := 25) rfl rfl, RX11, TX11, 36, rfl, gd5 (i := 26) rfl rfl⟩
abbrev mX11_forget : am_M := (RX11, cX11_forget, 2, (some .int))
set_option maxRecDepth 100000 in
theorem ylX11_forget : yl_ok yX11_forget mX11_forget 0 := ⟨⟨by decide, by decide, by decide +kernel⟩, gd5 (i := 31) rfl rfl, gd1 (i := 12) rfl rfl⟩
set_option maxRecDepth 100000 in
theorem yvX11_forget : yv_ok yX11_forget 11 := ⟨gd5 (i := 29) rfl rfl, RX11, TX11, 36, rfl, gd5 (i := 30) rfl rfl⟩
abbrev mX11_notesWeigh : am_M := (RX11, cX11_notesWeigh, 6, (some .long))
set_option maxRecDepth 100000 in
theorem ylX11_notesWeigh : yl_ok yX11_notesWeigh mX11_notesWeigh 2 := ⟨⟨by decide, by decide, by decide +kernel⟩, gd5 (i := 52) rfl rfl, gd1 (i := 12) rfl rfl⟩
set_option maxRecDepth 100000 in
theorem yvX11_notesWeigh : yv_ok yX11_notesWeigh 11 := ⟨gd5 (i := 51) rfl rfl, RX11, TX11, 36, rfl, lw_gd_p (i := 34) rfl rfl⟩
abbrev mX11_saysOdds : am_M := (RX11, cX11_saysOdds, 4, (some .int))
set_option maxRecDepth 100000 in
theorem ylX11_saysOdds : yl_ok yX11_saysOdds mX11_saysOdds 2 := ⟨⟨by decide, by decide, by decide +kernel⟩, gd5 (i := 48) rfl rfl, gd1 (i := 12) rfl rfl⟩
set_option maxRecDepth 100000 in
theorem yvX11_saysOdds : yv_ok yX11_saysOdds 11 := ⟨gd5 (i := 47) rfl rfl, RX11, TX11, 36, rfl, lw_gd_p (i := 33) rfl rfl⟩
abbrev mX11_findsWhere : am_M := (RX11, cX11_findsWhere, 10, none)
set_option maxRecDepth 100000 in
theorem ylX11_findsWhere : yl_ok yX11_findsWhere mX11_findsWhere 1 := ⟨⟨by decide, by decide, by decide +kernel⟩, gd5 (i := 43) rfl rfl, gd1 (i := 12) rfl rfl⟩
set_option maxRecDepth 100000 in
theorem yvX11_findsWhere : yv_ok yX11_findsWhere 11 := ⟨gd5 (i := 42) rfl rfl, RX11, TX11, 36, rfl, lw_gd_p (i := 32) rfl rfl⟩
abbrev mX11_whereOf : am_M := (RX11, cX11_whereOf, 4, (some .long))
set_option maxRecDepth 100000 in
theorem ylX11_whereOf : yl_ok yX11_whereOf mX11_whereOf 3 := ⟨⟨by decide, by decide, by decide +kernel⟩, gd5 (i := 39) rfl rfl, gd1 (i := 12) rfl rfl⟩
set_option maxRecDepth 100000 in
theorem yvX11_whereOf : yv_ok yX11_whereOf 11 := ⟨gd5 (i := 38) rfl rfl, RX11, TX11, 36, rfl, lw_gd_p (i := 31) rfl rfl⟩
abbrev mX11_where : am_M := (RX11, cX11_where, 4, (some .long))
set_option maxRecDepth 100000 in
theorem ylX11_where : yl_ok yX11_where mX11_where 3 := ⟨⟨by decide, by decide, by decide +kernel⟩, gd5 (i := 35) rfl rfl, gd1 (i := 12) rfl rfl⟩
set_option maxRecDepth 100000 in
theorem yvX11_where : yv_ok yX11_where 11 := ⟨gd5 (i := 33) rfl rfl, RX11, TX11, 36, rfl, gd5 (i := 34) rfl rfl⟩
abbrev mX11_likeliestOf : am_M := (RX11, cX11_likeliestOf, 4, (some .int))
set_option maxRecDepth 100000 in
theorem ylX11_likeliestOf : yl_ok yX11_likeliestOf mX11_likeliestOf 1 := ⟨⟨by decide, by decide, by decide +kernel⟩, gd5 (i := 67) rfl rfl, gd1 (i := 12) rfl rfl⟩
set_option maxRecDepth 100000 in
theorem yvX11_likeliestOf : yv_ok yX11_likeliestOf 11 := ⟨gd5 (i := 66) rfl rfl, RX11, TX11, 36, rfl, lw_gd_p (i := 35) rfl rfl⟩
abbrev mX11_likeliest : am_M := (RX11, cX11_likeliest, 2, (some .int))
set_option maxRecDepth 100000 in
theorem ylX11_likeliest : yl_ok yX11_likeliest mX11_likeliest 1 := ⟨⟨by decide, by decide, by decide +kernel⟩, gd5 (i := 63) rfl rfl, gd1 (i := 12) rfl rfl⟩
set_option maxRecDepth 100000 in
theorem yvX11_likeliest : yv_ok yX11_likeliest 11 := ⟨gd5 (i := 61) rfl rfl, RX11, TX11, 36, rfl, gd5 (i := 62) rfl rfl⟩
abbrev mX11_strikeOf : am_M := (RX11, cX11_strikeOf, 3, (some .long))
set_option maxRecDepth 100000 in
theorem ylX11_strikeOf : yl_ok yX11_strikeOf mX11_strikeOf 2 := ⟨⟨by decide, by decide, by decide +kernel⟩, gd5 (i := 75) rfl rfl, gd1 (i := 12) rfl rfl⟩
set_option maxRecDepth 100000 in
theorem yvX11_strikeOf : yv_ok yX11_strikeOf 11 := ⟨gd5 (i := 74) rfl rfl, RX11, TX11, 36, rfl, lw_gd_p (i := 36) rfl rfl⟩
abbrev mX11_strike : am_M := (RX11, cX11_strike, 3, (some .long))
set_option maxRecDepth 100000 in
theorem ylX11_strike : yl_ok yX11_strike mX11_strike 2 := ⟨⟨by decide, by decide, by decide +kernel⟩, gd5 (i := 71) rfl rfl, gd1 (i := 12) rfl rfl⟩
set_option maxRecDepth 100000 in
theorem yvX11_strike : yv_ok yX11_strike 11 := ⟨gd5 (i := 69) rfl rfl, RX11, TX11, 36, rfl, gd5 (i := 70) rfl rfl⟩
abbrev mX11_isLess : am_M := (RX11, cX11_isLess, 23, (some .boolean))
set_option maxRecDepth 100000 in
theorem ylX11_isLess : yl_ok yX11_isLess mX11_isLess 4 := ⟨⟨by decide, by decide, by decide +kernel⟩, gd5 (i := 86) rfl rfl, gd1 (i := 12) rfl rfl⟩
set_option maxRecDepth 100000 in
theorem ysX11_isLess : Cond.static yX11_isLess ∈ lw_gd := gd5 (i := 85) rfl rfl
abbrev mX11_lineNow : am_M := (RX11, cX11_lineNow, 9, (some .int))
set_option maxRecDepth 100000 in
theorem ylX11_lineNow : yl_ok yX11_lineNow mX11_lineNow 0 := ⟨⟨by decide, by decide, by decide +kernel⟩, gd5 (i := 83) rfl rfl, gd1 (i := 12) rfl rfl⟩
set_option maxRecDepth 100000 in
theorem yvX11_lineNow : yv_ok yX11_lineNow 11 := ⟨gd5 (i := 82) rfl rfl, RX11, TX11, 36, rfl, lw_gd_p (i := 37) rfl rfl⟩
abbrev mX11_line : am_M := (RX11, cX11_line, 1, (some .int))
set_option maxRecDepth 100000 in
theorem ylX11_line : yl_ok yX11_line mX11_line 0 := ⟨⟨by decide, by decide, by decide +kernel⟩, gd5 (i := 79) rfl rfl, gd1 (i := 12) rfl rfl⟩
set_option maxRecDepth 100000 in
theorem yvX11_line : yv_ok yX11_line 11 := ⟨gd5 (i := 77) rfl rfl, RX11, TX11, 36, rfl, gd5 (i := 78) rfl rfl⟩
abbrev mX11_findsSlips : am_M := (RX11, cX11_findsSlips, 6, none)
set_option maxRecDepth 100000 in
theorem ylX11_findsSlips : yl_ok yX11_findsSlips mX11_findsSlips 3 := ⟨⟨by decide, by decide, by decide +kernel⟩, gd5 (i := 98) rfl rfl, gd1 (i := 12) rfl rfl⟩
set_option maxRecDepth 100000 in
theorem yvX11_findsSlips : yv_ok yX11_findsSlips 11 := ⟨gd5 (i := 97) rfl rfl, RX11, TX11, 36, rfl, lw_gd_p (i := 39) rfl rfl⟩
abbrev mX11_missedIn : am_M := (RX11, cX11_missedIn, 5, (some .int))
set_option maxRecDepth 100000 in
theorem ylX11_missedIn : yl_ok yX11_missedIn mX11_missedIn 2 := ⟨⟨by decide, by decide, by decide +kernel⟩, gd5 (i := 106) rfl rfl, gd1 (i := 12) rfl rfl⟩
set_option maxRecDepth 100000 in
theorem yvX11_missedIn : yv_ok yX11_missedIn 11 := ⟨gd5 (i := 105) rfl rfl, RX11, TX11, 36, rfl, lw_gd_p (i := 41) rfl rfl⟩
abbrev mX11_slipLoose : am_M := (RX11, cX11_slipLoose, 10, none)
set_option maxRecDepth 100000 in
theorem ylX11_slipLoose : yl_ok yX11_slipLoose mX11_slipLoose 2 := ⟨⟨by decide, by decide, by decide +kernel⟩, gd5 (i := 102) rfl rfl, gd1 (i := 12) rfl rfl⟩
set_option maxRecDepth 100000 in
theorem yvX11_slipLoose : yv_ok yX11_slipLoose 11 := ⟨gd5 (i := 101) rfl rfl, RX11, TX11, 36, rfl, lw_gd_p (i := 40) rfl rfl⟩
abbrev mX11_slipsOf : am_M := (RX11, cX11_slipsOf, 4, (some .long))
set_option maxRecDepth 100000 in
theorem ylX11_slipsOf : yl_ok yX11_slipsOf mX11_slipsOf 3 := ⟨⟨by decide, by decide, by decide +kernel⟩, gd5 (i := 94) rfl rfl, gd1 (i := 12) rfl rfl⟩
set_option maxRecDepth 100000 in
theorem yvX11_slipsOf : yv_ok yX11_slipsOf 11 := ⟨gd5 (i := 93) rfl rfl, RX11, TX11, 36, rfl, lw_gd_p (i := 38) rfl rfl⟩
abbrev mX11_slips : am_M := (RX11, cX11_slips, 4, (some .long))
set_option maxRecDepth 100000 in
theorem ylX11_slips : yl_ok yX11_slips mX11_slips 3 := ⟨⟨by decide, by decide, by decide +kernel⟩, gd5 (i := 90) rfl rfl, gd1 (i := 12) rfl rfl⟩
set_option maxRecDepth 100000 in
theorem yvX11_slips : yv_ok yX11_slips 11 := ⟨gd5 (i := 88) rfl rfl, RX11, TX11, 36, rfl, gd5 (i := 89) rfl rfl⟩
abbrev mX11_isSome : am_M := (RX11, cX11_isSome, 2, (some .boolean))
set_option maxRecDepth 100000 in
theorem ylX11_isSome : yl_ok yX11_isSome mX11_isSome 1 := ⟨⟨by decide, by decide, by decide +kernel⟩, gd5 (i := 117) rfl rfl, gd1 (i := 12) rfl rfl⟩
set_option maxRecDepth 100000 in
theorem yvX11_isSome : yv_ok yX11_isSome 11 := ⟨gd5 (i := 116) rfl rfl, RX11, TX11, 36, rfl, lw_gd_p (i := 42) rfl rfl⟩
abbrev mX11_safeBy : am_M := (RX11, cX11_safeBy, 2, (some .long))
set_option maxRecDepth 100000 in
theorem ylX11_safeBy : yl_ok yX11_safeBy mX11_safeBy 1 := ⟨⟨by decide, by decide, by decide +kernel⟩, gd5 (i := 128) rfl rfl, gd1 (i := 12) rfl rfl⟩
set_option maxRecDepth 100000 in
theorem yvX11_safeBy : yv_ok yX11_safeBy 11 := ⟨gd5 (i := 127) rfl rfl, RX11, TX11, 36, rfl, lw_gd_p (i := 44) rfl rfl⟩
abbrev mX11_safeOf : am_M := (RX11, cX11_safeOf, 5, (some .long))
set_option maxRecDepth 100000 in
theorem ylX11_safeOf : yl_ok yX11_safeOf mX11_safeOf 2 := ⟨⟨by decide, by decide, by decide +kernel⟩, gd5 (i := 124) rfl rfl, gd1 (i := 12) rfl rfl⟩
set_option maxRecDepth 100000 in
theorem yvX11_safeOf : yv_ok yX11_safeOf 11 := ⟨gd5 (i := 123) rfl rfl, RX11, TX11, 36, rfl, lw_gd_p (i := 43) rfl rfl⟩
abbrev mX11_safe : am_M := (RX11, cX11_safe, 3, (some .long))
set_option maxRecDepth 100000 in
theorem ylX11_safe : yl_ok yX11_safe mX11_safe 2 := ⟨⟨by decide, by decide, by decide +kernel⟩, gd5 (i := 113) rfl rfl, gd1 (i := 12) rfl rfl⟩
set_option maxRecDepth 100000 in
theorem yvX11_safe : yv_ok yX11_safe 11 := ⟨gd5 (i := 111) rfl rfl, RX11, TX11, 36, rfl, gd5 (i := 112) rfl rfl⟩
abbrev mX11_writeOf : am_M := (RX11, cX11_writeOf, 8, (some .int))
set_option maxRecDepth 100000 in
theorem ylX11_writeOf : yl_ok yX11_writeOf mX11_writeOf 1 := ⟨⟨by decide, by decide, by decide +kernel⟩, gd5 (i := 140) rfl rfl, gd1 (i := 12) rfl rfl⟩
set_option maxRecDepth 100000 in
theorem yvX11_writeOf : yv_ok yX11_writeOf 11 := ⟨gd5 (i := 139) rfl rfl, RX11, TX11, 36, rfl, lw_gd_p (i := 46) rfl rfl⟩
abbrev mX11_cuesNow : am_M := (RX11, cX11_cuesNow, 1, (some .int))
set_option maxRecDepth 100000 in
theorem ylX11_cuesNow : yl_ok yX11_cuesNow mX11_cuesNow 0 := ⟨⟨by decide, by decide, by decide +kernel⟩, gd5 (i := 136) rfl rfl, gd1 (i := 12) rfl rfl⟩
set_option maxRecDepth 100000 in
theorem yvX11_cuesNow : yv_ok yX11_cuesNow 11 := ⟨gd5 (i := 135) rfl rfl, RX11, TX11, 36, rfl, lw_gd_p (i := 45) rfl rfl⟩
abbrev mX11_write : am_M := (RX11, cX11_write, 3, (some .int))
set_option maxRecDepth 100000 in
theorem ylX11_write : yl_ok yX11_write mX11_write 1 := ⟨⟨by decide, by decide, by decide +kernel⟩, gd5 (i := 132) rfl rfl, gd1 (i := 12) rfl rfl⟩
set_option maxRecDepth 100000 in
theorem yvX11_write : yv_ok yX11_write 11 := ⟨gd5 (i := 130) rfl rfl, RX11, TX11, 36, rfl, gd5 (i := 131) rfl rfl⟩
abbrev mX11_fewOf : am_M := (RX11, cX11_fewOf, 6, (some .int))
set_option maxRecDepth 100000 in
theorem ylX11_fewOf : yl_ok yX11_fewOf mX11_fewOf 1 := ⟨⟨by decide, by decide, by decide +kernel⟩, gd5 (i := 149) rfl rfl, gd1 (i := 12) rfl rfl⟩
set_option maxRecDepth 100000 in
theorem yvX11_fewOf : yv_ok yX11_fewOf 11 := ⟨gd5 (i := 148) rfl rfl, RX11, TX11, 36, rfl, lw_gd_p (i := 47) rfl rfl⟩
abbrev mX11_few : am_M := (RX11, cX11_few, 2, (some .int))
set_option maxRecDepth 100000 in
theorem ylX11_few : yl_ok yX11_few mX11_few 1 := ⟨⟨by decide, by decide, by decide +kernel⟩, gd5 (i := 145) rfl rfl, gd1 (i := 12) rfl rfl⟩
set_option maxRecDepth 100000 in
theorem yvX11_few : yv_ok yX11_few 11 := ⟨gd5 (i := 143) rfl rfl, RX11, TX11, 36, rfl, gd5 (i := 144) rfl rfl⟩
abbrev mX11_anewOf : am_M := (RX11, cX11_anewOf, 5, (some .int))
set_option maxRecDepth 100000 in
theorem ylX11_anewOf : yl_ok yX11_anewOf mX11_anewOf 1 := ⟨⟨by decide, by decide, by decide +kernel⟩, gd5 (i := 157) rfl rfl, gd1 (i := 12) rfl rfl⟩
set_option maxRecDepth 100000 in
theorem yvX11_anewOf : yv_ok yX11_anewOf 11 := ⟨gd5 (i := 156) rfl rfl, RX11, TX11, 36, rfl, lw_gd_p (i := 48) rfl rfl⟩
abbrev mX11_anew : am_M := (RX11, cX11_anew, 2, (some .int))
set_option maxRecDepth 100000 in
theorem ylX11_anew : yl_ok yX11_anew mX11_anew 1 := ⟨⟨by decide, by decide, by decide +kernel⟩, gd5 (i := 153) rfl rfl, gd1 (i := 12) rfl rfl⟩
set_option maxRecDepth 100000 in
theorem yvX11_anew : yv_ok yX11_anew 11 := ⟨gd5 (i := 151) rfl rfl, RX11, TX11, 36, rfl, gd5 (i := 152) rfl rfl⟩
abbrev mX11_joint : am_M := (RX11, cX11_joint, 6, (some .long))
set_option maxRecDepth 100000 in
theorem ylX11_joint : yl_ok yX11_joint mX11_joint 3 := ⟨⟨by decide, by decide, by decide +kernel⟩, gd5 (i := 161) rfl rfl, gd1 (i := 12) rfl rfl⟩
set_option maxRecDepth 100000 in
theorem yvX11_joint : yv_ok yX11_joint 11 := ⟨gd5 (i := 159) rfl rfl, RX11, TX11, 36, rfl, gd5 (i := 160) rfl rfl⟩
abbrev mX11_eveningBy : am_M := (RX11, cX11_eveningBy, 2, (some .long))
set_option maxRecDepth 100000 in
theorem ylX11_eveningBy : yl_ok yX11_eveningBy mX11_eveningBy 1 := ⟨⟨by decide, by decide, by decide +kernel⟩, gd5 (i := 173) rfl rfl, gd1 (i := 12) rfl rfl⟩
set_option maxRecDepth 100000 in
theorem yvX11_eveningBy : yv_ok yX11_eveningBy 11 := ⟨gd5 (i := 172) rfl rfl, RX11, TX11, 36, rfl, lw_gd_p (i := 50) rfl rfl⟩
abbrev mX11_eveningOf : am_M := (RX11, cX11_eveningOf, 5, (some .long))
set_option maxRecDepth 100000 in
theorem ylX11_eveningOf : yl_ok yX11_eveningOf mX11_eveningOf 2 := ⟨⟨by decide, by decide, by decide +kernel⟩, gd5 (i := 169) rfl rfl, gd1 (i := 12) rfl rfl⟩
set_option maxRecDepth 100000 in
theorem yvX11_eveningOf : yv_ok yX11_eveningOf 11 := ⟨gd5 (i := 168) rfl rfl, RX11, TX11, 36, rfl, lw_gd_p (i := 49) rfl rfl⟩
abbrev mX11_evening : am_M := (RX11, cX11_evening, 3, (some .long))
set_option maxRecDepth 100000 in
theorem ylX11_evening : yl_ok yX11_evening mX11_evening 2 := ⟨⟨by decide, by decide, by decide +kernel⟩, gd5 (i := 165) rfl rfl, gd1 (i := 12) rfl rfl⟩
set_option maxRecDepth 100000 in
theorem yvX11_evening : yv_ok yX11_evening 11 := ⟨gd5 (i := 163) rfl rfl, RX11, TX11, 36, rfl, gd5 (i := 164) rfl rfl⟩
abbrev mX11_primeOf : am_M := (RX11, cX11_primeOf, 4, (some .int))
set_option maxRecDepth 100000 in
theorem ylX11_primeOf : yl_ok yX11_primeOf mX11_primeOf 1 := ⟨⟨by decide, by decide, by decide +kernel⟩, gd5 (i := 181) rfl rfl, gd1 (i := 12) rfl rfl⟩
set_option maxRecDepth 100000 in
theorem yvX11_primeOf : yv_ok yX11_primeOf 11 := ⟨gd5 (i := 180) rfl rfl, RX11, TX11, 36, rfl, lw_gd_p (i := 51) rfl rfl⟩
abbrev mX11_prime : am_M := (RX11, cX11_prime, 2, (some .int))
set_option maxRecDepth 100000 in
theorem ylX11_prime : yl_ok yX11_prime mX11_prime 1 := ⟨⟨by decide, by decide, by decide +kernel⟩, gd5 (i := 177) rfl rfl, gd1 (i := 12) rfl rfl⟩
set_option maxRecDepth 100000 in
theorem yvX11_prime : yv_ok yX11_prime 11 := ⟨gd5 (i := 175) rfl rfl, RX11, TX11, 36, rfl, gd5 (i := 176) rfl rfl⟩
abbrev mX11_player : am_M := (RX11, cX11_player, 3, (some .int))
set_option maxRecDepth 100000 in
theorem ylX11_player : yl_ok yX11_player mX11_player 2 := ⟨⟨by decide, by decide, by decide +kernel⟩, gd5 (i := 185) rfl rfl, gd1 (i := 12) rfl rfl⟩
set_option maxRecDepth 100000 in
theorem yvX11_player : yv_ok yX11_player 11 := ⟨gd5 (i := 183) rfl rfl, RX11, TX11, 36, rfl, gd5 (i := 184) rfl rfl⟩
abbrev mX11_leave : am_M := (RX11, cX11_leave, 2, (some .int))
set_option maxRecDepth 100000 in
theorem ylX11_leave : yl_ok yX11_leave mX11_leave 0 := ⟨⟨by decide, by decide, by decide +kernel⟩, gd5 (i := 189) rfl rfl, gd1 (i := 12) rfl rfl⟩
set_option maxRecDepth 100000 in
theorem yvX11_leave : yv_ok yX11_leave 11 := ⟨gd5 (i := 187) rfl rfl, RX11, TX11, 36, rfl, gd5 (i := 188) rfl rfl⟩
abbrev mX11_looksBy : am_M := (RX11, cX11_looksBy, 7, (some .int))
set_option maxRecDepth 100000 in
theorem ylX11_looksBy : yl_ok yX11_looksBy mX11_looksBy 1 := ⟨⟨by decide, by decide, by decide +kernel⟩, gd5 (i := 201) rfl rfl, gd1 (i := 12) rfl rfl⟩
set_option maxRecDepth 100000 in
theorem yvX11_looksBy : yv_ok yX11_looksBy 11 := ⟨gd5 (i := 200) rfl rfl, RX11, TX11, 36, rfl, lw_gd_p (i := 53) rfl rfl⟩
abbrev mX11_worthOf : am_M := (RX11, cX11_worthOf, 7, (some .int))
set_option maxRecDepth 100000 in
theorem ylX11_worthOf : yl_ok yX11_worthOf mX11_worthOf 1 := ⟨⟨by decide, by decide, by decide +kernel⟩, gd5 (i := 197) rfl rfl, gd1 (i := 12) rfl rfl⟩
set_option maxRecDepth 100000 in
theorem yvX11_worthOf : yv_ok yX11_worthOf 11 := ⟨gd5 (i := 196) rfl rfl, RX11, TX11, 36, rfl, lw_gd_p (i := 52) rfl rfl⟩
abbrev mX11_worth : am_M := (RX11, cX11_worth, 2, (some .int))
set_option maxRecDepth 100000 in
theorem ylX11_worth : yl_ok yX11_worth mX11_worth 1 := ⟨⟨by decide, by decide, by decide +kernel⟩, gd5 (i := 193) rfl rfl, gd1 (i := 12) rfl rfl⟩
set_option maxRecDepth 100000 in
theorem yvX11_worth : yv_ok yX11_worth 11 := ⟨gd5 (i := 191) rfl rfl, RX11, TX11, 36, rfl, gd5 (i := 192) rfl rfl⟩
abbrev mX11_lookOf : am_M := (RX11, cX11_lookOf, 3, (some .int))
set_option maxRecDepth 100000 in
theorem ylX11_lookOf : yl_ok yX11_lookOf mX11_lookOf 1 := ⟨⟨by decide, by decide, by decide +kernel⟩, gd5 (i := 209) rfl rfl, gd1 (i := 12) rfl rfl⟩
set_option maxRecDepth 100000 in
theorem yvX11_lookOf : yv_ok yX11_lookOf 11 := ⟨gd5 (i := 208) rfl rfl, RX11, TX11, 36, rfl, lw_gd_p (i := 54) rfl rfl⟩
abbrev mX11_look : am_M := (RX11, cX11_look, 2, (some .int))
set_option maxRecDepth 100000 in
theorem ylX11_look : yl_ok yX11_look mX11_look 1 := ⟨⟨by decide, by decide, by decide +kernel⟩, gd5 (i := 205) rfl rfl, gd1 (i := 12) rfl rfl⟩
set_option maxRecDepth 100000 in
theorem yvX11_look : yv_ok yX11_look 11 := ⟨gd5 (i := 203) rfl rfl, RX11, TX11, 36, rfl, gd5 (i := 204) rfl rfl⟩
abbrev mX11_from : am_M := (RX11, cX11_from, 3, (some .int))
set_option maxRecDepth 100000 in
theorem ylX11_from : yl_ok yX11_from mX11_from 1 := ⟨⟨by decide, by decide, by decide +kernel⟩, gd5 (i := 213) rfl rfl, gd1 (i := 12) rfl rfl⟩
set_option maxRecDepth 100000 in
theorem yvX11_from : yv_ok yX11_from 11 := ⟨gd5 (i := 211) rfl rfl, RX11, TX11, 36, rfl, gd5 (i := 212) rfl rfl⟩
abbrev mX11_said : am_M := (RX11, cX11_said, 2, (some .int))
set_option maxRecDepth 100000 in
theorem ylX11_said : yl_ok yX11_said mX11_said 1 := ⟨⟨by decide, by decide, by decide +kernel⟩, gd5 (i := 217) rfl rfl, gd1 (i := 12) rfl rfl⟩
set_option maxRecDepth 100000 in
theorem yvX11_said : yv_ok yX11_said 11 := ⟨gd5 (i := 215) rfl rfl, RX11, TX11, 36, rfl, gd5 (i := 216) rfl rfl⟩
abbrev mX11_wrongOf : am_M := (RX11, cX11_wrongOf, 6, (some .int))
set_option maxRecDepth 100000 in
theorem ylX11_wrongOf : yl_ok yX11_wrongOf mX11_wrongOf 1 := ⟨⟨by decide, by decide, by decide +kernel⟩, gd5 (i := 225) rfl rfl, gd1 (i := 12) rfl rfl⟩
set_option maxRecDepth 100000 in
theorem yvX11_wrongOf : yv_ok yX11_wrongOf 11 := ⟨gd5 (i := 224) rfl rfl, RX11, TX11, 36, rfl, lw_gd_p (i := 55) rfl rfl⟩
abbrev mX11_wrong : am_M := (RX11, cX11_wrong, 2, (some .int))
set_option maxRecDepth 100000 in
theorem ylX11_wrong : yl_ok yX11_wrong mX11_wrong 1 := ⟨⟨by decide, by decide, by decide +kernel⟩, gd5 (i := 221) rfl rfl, gd1 (i := 12) rfl rfl⟩
set_option maxRecDepth 100000 in
theorem yvX11_wrong : yv_ok yX11_wrong 11 := ⟨gd5 (i := 219) rfl rfl, RX11, TX11, 36, rfl, gd5 (i := 220) rfl rfl⟩
abbrev mX11_blameNow : am_M := (RX11, cX11_blameNow, 3, (some .int))
set_option maxRecDepth 100000 in
theorem ylX11_blameNow : yl_ok yX11_blameNow mX11_blameNow 0 := ⟨⟨by decide, by decide, by decide +kernel⟩, gd5 (i := 233) rfl rfl, gd1 (i := 12) rfl rfl⟩
set_option maxRecDepth 100000 in
theorem yvX11_blameNow : yv_ok yX11_blameNow 11 := ⟨gd5 (i := 232) rfl rfl, RX11, TX11, 36, rfl, lw_gd_p (i := 56) rfl rfl⟩
abbrev mX11_blame : am_M := (RX11, cX11_blame, 1, (some .int))
set_option maxRecDepth 100000 in
theorem ylX11_blame : yl_ok yX11_blame mX11_blame 0 := ⟨⟨by decide, by decide, by decide +kernel⟩, gd5 (i := 229) rfl rfl, gd1 (i := 12) rfl rfl⟩
set_option maxRecDepth 100000 in
theorem yvX11_blame : yv_ok yX11_blame 11 := ⟨gd5 (i := 227) rfl rfl, RX11, TX11, 36, rfl, gd5 (i := 228) rfl rfl⟩
abbrev mX11_nightOf : am_M := (RX11, cX11_nightOf, 10, (some .int))
set_option maxRecDepth 100000 in
theorem ylX11_nightOf : yl_ok yX11_nightOf mX11_nightOf 2 := ⟨⟨by decide, by decide, by decide +kernel⟩, gd6 (i := 1) rfl rfl, gd1 (i := 12) rfl rfl⟩
set_option maxRecDepth 100000 in
theorem yvX11_nightOf : yv_ok yX11_nightOf 11 := ⟨gd6 (i := 0) rfl rfl, RX11, TX11, 36, rfl, lw_gd_p (i := 57) rfl rfl⟩
abbrev mX11_night : am_M := (RX11, cX11_night, 3, (some .int))
set_option maxRecDepth 100000 in
theorem ylX11_night : yl_ok yX11_night mX11_night 2 := ⟨⟨by decide, by decide, by decide +kernel⟩, gd5 (i := 237) rfl rfl, gd1 (i := 12) rfl rfl⟩
set_option maxRecDepth 100000 in
theorem yvX11_night : yv_ok yX11_night 11 := ⟨gd5 (i := 235) rfl rfl, RX11, TX11, 36, rfl, gd5 (i := 236) rfl rfl⟩
abbrev mX11_meets : am_M := (RX11, cX11_meets, 2, (some .int))
set_option maxRecDepth 100000 in
theorem ylX11_meets : yl_ok yX11_meets mX11_meets 1 := ⟨⟨by decide, by decide, by decide +kernel⟩, gd5 (i := 12) rfl rfl, gd1 (i := 12) rfl rfl⟩
set_option maxRecDepth 100000 in
theorem yvX11_meets : yv_ok yX11_meets 11 := ⟨gd5 (i := 11) rfl rfl, RX11, TX11, 36, rfl, lw_gd_p (i := 29) rfl rfl⟩
abbrev mX11_isSheet : am_M := (RX11, cX11_isSheet, 1, (some .boolean))
set_option maxRecDepth 100000 in
theorem ylX11_isSheet : yl_ok yX11_isSheet mX11_isSheet 1 := ⟨⟨by decide, by decide, by decide +kernel⟩, gd5 (i := 8) rfl rfl, gd1 (i := 12) rfl rfl⟩
set_option maxRecDepth 100000 in
theorem ysX11_isSheet : Cond.static yX11_isSheet ∈ lw_gd := gd5 (i := 7) rfl rfl
abbrev mX11_sheet : am_M := (RX11, cX11_sheet, 5, (some .int))
set_option maxRecDepth 100000 in
theorem ylX11_sheet : yl_ok yX11_sheet mX11_sheet 3 := ⟨⟨by decide, by decide, by decide +kernel⟩, gd6 (i := 6) rfl rfl, gd1 (i := 12) rfl rfl⟩
set_option maxRecDepth 100000 in
theorem yvX11_sheet : yv_ok yX11_sheet 11 := ⟨gd6 (i := 4) rfl rfl, RX11, TX11, 36, rfl, gd6 (i := 5) rfl rfl⟩
abbrev mX11_lose : am_M := (RX11, cX11_lose, 2, (some .int))
set_option maxRecDepth 100000 in
theorem ylX11_lose : yl_ok yX11_lose mX11_lose 1 := ⟨⟨by decide, by decide, by decide +kernel⟩, gd6 (i := 10) rfl rfl, gd1 (i := 12) rfl rfl⟩
set_option maxRecDepth 100000 in
theorem yvX11_lose : yv_ok yX11_lose 11 := ⟨gd6 (i := 8) rfl rfl, RX11, TX11, 36, rfl, gd6 (i := 9) rfl rfl⟩
abbrev mX11_lacks : am_M := (RX11, cX11_lacks, 4, (some .int))
set_option maxRecDepth 100000 in
theorem ylX11_lacks : yl_ok yX11_lacks mX11_lacks 3 := ⟨⟨by decide, by decide, by decide +kernel⟩, gd6 (i := 18) rfl rfl, gd1 (i := 12) rfl rfl⟩
set_option maxRecDepth 100000 in
theorem yvX11_lacks : yv_ok yX11_lacks 11 := ⟨gd6 (i := 17) rfl rfl, RX11, TX11, 36, rfl, lw_gd_p (i := 58) rfl rfl⟩
abbrev mX11_keep : am_M := (RX11, cX11_keep, 4, none)
set_option maxRecDepth 100000 in
theorem ylX11_keep : yl_ok yX11_keep mX11_keep 3 := ⟨⟨by decide, by decide, by decide +kernel⟩, gd6 (i := 22) rfl rfl, gd1 (i := 12) rfl rfl⟩
set_option maxRecDepth 100000 in
theorem yvX11_keep : yv_ok yX11_keep 11 := ⟨gd6 (i := 21) rfl rfl, RX11, TX11, 36, rfl, lw_gd_p (i := 59) rfl rfl⟩
abbrev mX11_put : am_M := (RX11, cX11_put, 6, (some .int))
set_option maxRecDepth 100000 in
theorem ylX11_put : yl_ok yX11_put mX11_put 4 := ⟨⟨by decide, by decide, by decide +kernel⟩, gd6 (i := 14) rfl rfl, gd1 (i := 12) rfl rfl⟩
set_option maxRecDepth 100000 in
theorem yvX11_put : yv_ok yX11_put 11 := ⟨gd6 (i := 12) rfl rfl, RX11, TX11, 36, rfl, gd6 (i := 13) rfl rfl⟩
abbrev mX11_get : am_M := (RX11, cX11_get, 5, (some .int))
set_option maxRecDepth 100000 in
theorem ylX11_get : yl_ok yX11_get mX11_get 3 := ⟨⟨by decide, by decide, by decide +kernel⟩, gd6 (i := 26) rfl rfl, gd1 (i := 12) rfl rfl⟩
set_option maxRecDepth 100000 in
theorem yvX11_get : yv_ok yX11_get 11 := ⟨gd6 (i := 24) rfl rfl, RX11, TX11, 36, rfl, gd6 (i := 25) rfl rfl⟩
abbrev mX11_copy : am_M := (RX11, cX11_copy, 7, (some .int))
set_option maxRecDepth 100000 in
theorem ylX11_copy : yl_ok yX11_copy mX11_copy 5 := ⟨⟨by decide, by decide, by decide +kernel⟩, gd6 (i := 31) rfl rfl, gd1 (i := 12) rfl rfl⟩
set_option maxRecDepth 100000 in
theorem yvX11_copy : yv_ok yX11_copy 11 := ⟨gd6 (i := 29) rfl rfl, RX11, TX11, 36, rfl, gd6 (i := 30) rfl rfl⟩
abbrev mX11_tell : am_M := (RX11, cX11_tell, 3, (some .int))
set_option maxRecDepth 100000 in
theorem ylX11_tell : yl_ok yX11_tell mX11_tell 1 := ⟨⟨by decide, by decide, by decide +kernel⟩, gd6 (i := 35) rfl rfl, gd1 (i := 12) rfl rfl⟩
set_option maxRecDepth 100000 in
theorem yvX11_tell : yv_ok yX11_tell 11 := ⟨gd6 (i := 33) rfl rfl, RX11, TX11, 36, rfl, gd6 (i := 34) rfl rfl⟩
abbrev mX11_readsMany : am_M := (RX11, cX11_readsMany, 2, (some .int))
set_option maxRecDepth 100000 in
theorem ylX11_readsMany : yl_ok yX11_readsMany mX11_readsMany 1 := ⟨⟨by decide, by decide, by decide +kernel⟩, gd6 (i := 43) rfl rfl, gd1 (i := 12) rfl rfl⟩
set_option maxRecDepth 100000 in
theorem yvX11_readsMany : yv_ok yX11_readsMany 11 := ⟨gd6 (i := 42) rfl rfl, RX11, TX11, 36, rfl, lw_gd_p (i := 60) rfl rfl⟩
abbrev mX11_count : am_M := (RX11, cX11_count, 2, (some .int))
set_option maxRecDepth 100000 in
theorem ylX11_count : yl_ok yX11_count mX11_count 1 := ⟨⟨by decide, by decide, by decide +kernel⟩, gd6 (i := 39) rfl rfl, gd1 (i := 12) rfl rfl⟩
set_option maxRecDepth 100000 in
theorem yvX11_count : yv_ok yX11_count 11 := ⟨gd6 (i := 37) rfl rfl, RX11, TX11, 36, rfl, gd6 (i := 38) rfl rfl⟩
abbrev mX11_numberDigest : am_M := (RX11, cX11_numberDigest, 6, (some .long))
set_option maxRecDepth 100000 in
theorem ylX11_numberDigest : yl_ok yX11_numberDigest mX11_numberDigest 2 := ⟨⟨by decide, by decide, by decide +kernel⟩, gd6 (i := 54) rfl rfl, gd1 (i := 12) rfl rfl⟩
set_option maxRecDepth 100000 in
theorem yvX11_numberDigest : yv_ok yX11_numberDigest 11 := ⟨gd6 (i := 53) rfl rfl, RX11, TX11, 36, rfl, lw_gd_p (i := 61) rfl rfl⟩
abbrev mX11_digest : am_M := (RX11, cX11_digest, 4, (some .long))
set_option maxRecDepth 100000 in
theorem ylX11_digest : yl_ok yX11_digest mX11_digest 0 := ⟨⟨by decide, by decide, by decide +kernel⟩, gd6 (i := 47) rfl rfl, gd1 (i := 12) rfl rfl⟩
set_option maxRecDepth 100000 in
theorem yvX11_digest : yv_ok yX11_digest 11 := ⟨gd6 (i := 45) rfl rfl, RX11, TX11, 36, rfl, gd6 (i := 46) rfl rfl⟩
abbrev mJ6_bitCount_0f7a4 : am_M := (RJ6, cJ6_bitCount_0f7a4, 1, (some .int))
set_option maxRecDepth 100000 in
theorem ylJ6_bitCount_0f7a4 : yl_ok yJ6_bitCount_0f7a4 mJ6_bitCount_0f7a4 1 := ⟨⟨by decide, by decide, by decide +kernel⟩, gd3 (i := 99) rfl rfl, gd1 (i := 16) rfl rfl⟩
set_option maxRecDepth 100000 in
theorem ysJ6_bitCount_0f7a4 : Cond.static yJ6_bitCount_0f7a4 ∈ lw_gd := gd3 (i := 98) rfl rfl
abbrev mJ9_max_7cf53 : am_M := (RJ9, cJ9_max_7cf53, 2, (some .int))
set_option maxRecDepth 100000 in
theorem ylJ9_max_7cf53 : yl_ok yJ9_max_7cf53 mJ9_max_7cf53 2 := ⟨⟨by decide, by decide, by decide +kernel⟩, gd2 (i := 77) rfl rfl, gd1 (i := 13) rfl rfl⟩
set_option maxRecDepth 100000 in
theorem ysJ9_max_7cf53 : Cond.static yJ9_max_7cf53 ∈ lw_gd := gd2 (i := 76) rfl rfl
abbrev mJ9_min_7cf53 : am_M := (RJ9, cJ9_min_7cf53, 2, (some .int))
set_option maxRecDepth 100000 in
theorem ylJ9_min_7cf53 : yl_ok yJ9_min_7cf53 mJ9_min_7cf53 2 := ⟨⟨by decide, by decide, by decide +kernel⟩, gd3 (i := 23) rfl rfl, gd1 (i := 13) rfl rfl⟩
set_option maxRecDepth 100000 in
theorem ysJ9_min_7cf53 : Cond.static yJ9_min_7cf53 ∈ lw_gd := gd3 (i := 22) rfl rfl
abbrev mJ7_fill_d0a16 : am_M := (RJ7, cJ7_fill_d0a16, 5, none)
set_option maxRecDepth 100000 in
theorem ylJ7_fill_d0a16 : yl_ok yJ7_fill_d0a16 mJ7_fill_d0a16 2 := ⟨⟨by decide, by decide, by decide +kernel⟩, gd2 (i := 227) rfl rfl, gd1 (i := 14) rfl rfl⟩
set_option maxRecDepth 100000 in
theorem ysJ7_fill_d0a16 : Cond.static yJ7_fill_d0a16 ∈ lw_gd := gd2 (i := 226) rfl rfl
abbrev mJ7_fill_53178 : am_M := (RJ7, cJ7_fill_53178, 4, none)
set_option maxRecDepth 100000 in
theorem ylJ7_fill_53178 : yl_ok yJ7_fill_53178 mJ7_fill_53178 2 := ⟨⟨by decide, by decide, by decide +kernel⟩, gd3 (i := 174) rfl rfl, gd1 (i := 14) rfl rfl⟩
set_option maxRecDepth 100000 in
theorem ysJ7_fill_53178 : Cond.static yJ7_fill_53178 ∈ lw_gd := gd3 (i := 173) rfl rfl
set_option maxRecDepth 100000 in
theorem flRX4_11 : fl_ok RX4 11 4 0 := ⟨RX4, TX4, 10, rfl, by decide, giX4, Or.inl (gd1 (i := 31) rfl rfl)⟩
set_option maxRecDepth 100000 in
theorem flRX4_15 : fl_ok RX4 15 4 1 := ⟨RX4, TX4, 10, rfl, by decide, giX4, Or.inl (gd1 (i := 32) rfl rfl)⟩
set_option maxRecDepth 100000 in
theorem flRX4_18 : fl_ok RX4 18 4 2 := ⟨RX4, TX4, 10, rfl, by decide, giX4, Or.inl (gd1 (i := 33) rfl rfl)⟩
set_option maxRecDepth 100000 in
theorem flRX4_21 : fl_ok RX4 21 4 3 := ⟨RX4, TX4, 10, rfl, by decide, giX4, Or.inl (gd1 (i := 34) rfl rfl)⟩
set_option maxRecDepth 100000 in
theorem flRX4_24 : fl_ok RX4 24 4 4 := ⟨RX4, TX4, 10, rfl, by decide, giX4, Or.inl (gd1 (i := 35) rfl rfl)⟩
set_option maxRecDepth 100000 in
theorem flRX4_27 : fl_ok RX4 27 4 5 := ⟨RX4, TX4, 10, rfl, by decide, giX4, Or.inl (gd1 (i := 36) rfl rfl)⟩
set_option maxRecDepth 100000 in
theorem fpRX4_27 : fp_ok RX4 27 4 5 .int := ⟨RX4, TX4, 10, tyX4, rfl, by decide, giX4, Or.inl (gd1 (i := 36) rfl rfl), tyX4_ok, nmX4, rfl, by decide +kernel⟩
set_option maxRecDepth 100000 in
theorem flRX10_102 : fl_ok RX10 102 4 5 := ⟨RX4, TX4, 10, rfl, by decide, giX4, Or.inr ⟨"OneTriangle", nw1 (i := 37) rfl rfl⟩⟩
set_option maxRecDepth 100000 in
theorem fpRX10_102 : fp_ok RX10 102 4 5 .int := ⟨RX4, TX4, 10, tyX4, rfl, by decide, giX4, Or.inr ⟨"OneTriangle", nw1 (i := 37) rfl rfl⟩, tyX4_ok, nmX4, rfl, by decide +kernel⟩
set_option maxRecDepth 100000 in
theorem flRX4_31 : fl_ok RX4 31 4 6 := ⟨RX4, TX4, 10, rfl, by decide, giX4, Or.inl (gd1 (i := 38) rfl rfl)⟩
set_option maxRecDepth 100000 in
theorem fpRX4_31 : fp_ok RX4 31 4 6 .int := ⟨RX4, TX4, 10, tyX4, rfl, by decide, giX4, Or.inl (gd1 (i := 38) rfl rfl), tyX4_ok, nmX4, rfl, by decide +kernel⟩
set_option maxRecDepth 100000 in
theorem flRX9_66 : fl_ok RX9 66 4 6 := ⟨RX4, TX4, 10, rfl, by decide, giX4, Or.inr ⟨"OneTriangle", nw1 (i := 39) rfl rfl⟩⟩
set_option maxRecDepth 100000 in
theorem fpRX9_66 : fp_ok RX9 66 4 6 .int := ⟨RX4, TX4, 10, tyX4, rfl, by decide, giX4, Or.inr ⟨"OneTriangle", nw1 (i := 39) rfl rfl⟩, tyX4_ok, nmX4, rfl, by decide +kernel⟩
set_option maxRecDepth 100000 in
theorem flRX10_192 : fl_ok RX10 192 4 6 := ⟨RX4, TX4, 10, rfl, by decide, giX4, Or.inr ⟨"OneTriangle", nw1 (i := 40) rfl rfl⟩⟩
set_option maxRecDepth 100000 in
theorem fpRX10_192 : fp_ok RX10 192 4 6 .int := ⟨RX4, TX4, 10, tyX4, rfl, by decide, giX4, Or.inr ⟨"OneTriangle", nw1 (i := 40) rfl rfl⟩, tyX4_ok, nmX4, rfl, by decide +kernel⟩
set_option maxRecDepth 100000 in
theorem flRX4_34 : fl_ok RX4 34 4 7 := ⟨RX4, TX4, 10, rfl, by decide, giX4, Or.inl (gd1 (i := 41) rfl rfl)⟩
set_option maxRecDepth 100000 in
theorem fpRX4_34 : fp_ok RX4 34 4 7 .int := ⟨RX4, TX4, 10, tyX4, rfl, by decide, giX4, Or.inl (gd1 (i := 41) rfl rfl), tyX4_ok, nmX4, rfl, by decide +kernel⟩
set_option maxRecDepth 100000 in
theorem flRX10_298 : fl_ok RX10 298 4 7 := ⟨RX4, TX4, 10, rfl, by decide, giX4, Or.inr ⟨"OneTriangle", nw1 (i := 42) rfl rfl⟩⟩
set_option maxRecDepth 100000 in
theorem fpRX10_298 : fp_ok RX10 298 4 7 .int := ⟨RX4, TX4, 10, tyX4, rfl, by decide, giX4, Or.inr ⟨"OneTriangle", nw1 (i := 42) rfl rfl⟩, tyX4_ok, nmX4, rfl, by decide +kernel⟩
set_option maxRecDepth 100000 in
theorem flRX4_37 : fl_ok RX4 37 4 8 := ⟨RX4, TX4, 10, rfl, by decide, giX4, Or.inl (gd1 (i := 43) rfl rfl)⟩
set_option maxRecDepth 100000 in
theorem fpRX4_37 : fp_ok RX4 37 4 8 .int := ⟨RX4, TX4, 10, tyX4, rfl, by decide, giX4, Or.inl (gd1 (i := 43) rfl rfl), tyX4_ok, nmX4, rfl, by decide +kernel⟩
set_option maxRecDepth 100000 in
theorem flRX10_211 : fl_ok RX10 211 4 8 := ⟨RX4, TX4, 10, rfl, by decide, giX4, Or.inr ⟨"OneTriangle", nw1 (i := 44) rfl rfl⟩⟩
set_option maxRecDepth 100000 in
theorem fpRX10_211 : fp_ok RX10 211 4 8 .int := ⟨RX4, TX4, 10, tyX4, rfl, by decide, giX4, Or.inr ⟨"OneTriangle", nw1 (i := 44) rfl rfl⟩, tyX4_ok, nmX4, rfl, by decide +kernel⟩
set_option maxRecDepth 100000 in
theorem flRX4_40 : fl_ok RX4 40 4 9 := ⟨RX4, TX4, 10, rfl, by decide, giX4, Or.inl (gd1 (i := 45) rfl rfl)⟩
set_option maxRecDepth 100000 in
theorem fpRX4_40 : fp_ok RX4 40 4 9 .int := ⟨RX4, TX4, 10, tyX4, rfl, by decide, giX4, Or.inl (gd1 (i := 45) rfl rfl), tyX4_ok, nmX4, rfl, by decide +kernel⟩
set_option maxRecDepth 100000 in
theorem flRX10_109 : fl_ok RX10 109 4 9 := ⟨RX4, TX4, 10, rfl, by decide, giX4, Or.inr ⟨"OneTriangle", nw1 (i := 46) rfl rfl⟩⟩
set_option maxRecDepth 100000 in
theorem fpRX10_109 : fp_ok RX10 109 4 9 .int := ⟨RX4, TX4, 10, tyX4, rfl, by decide, giX4, Or.inr ⟨"OneTriangle", nw1 (i := 46) rfl rfl⟩, tyX4_ok, nmX4, rfl, by decide +kernel⟩
set_option maxRecDepth 100000 in
theorem flRX6_7 : fl_ok RX6 7 6 0 := ⟨RX6, TX6, 1, rfl, by decide, giX6, Or.inl (gd1 (i := 75) rfl rfl)⟩
set_option maxRecDepth 100000 in
theorem flRX3_7 : fl_ok RX3 7 3 0 := ⟨RX3, TX3, 2, rfl, by decide, giX3, Or.inl (gd1 (i := 85) rfl rfl)⟩
set_option maxRecDepth 100000 in
theorem flRX3_13 : fl_ok RX3 13 3 1 := ⟨RX3, TX3, 2, rfl, by decide, giX3, Or.inl (gd1 (i := 86) rfl rfl)⟩
set_option maxRecDepth 100000 in
theorem flRX2_11 : fl_ok RX2 11 2 0 := ⟨RX2, TX2, 4, rfl, by decide, giX2, Or.inl (gd1 (i := 98) rfl rfl)⟩
set_option maxRecDepth 100000 in
theorem flRX2_15 : fl_ok RX2 15 2 1 := ⟨RX2, TX2, 4, rfl, by decide, giX2, Or.inl (gd1 (i := 99) rfl rfl)⟩
set_option maxRecDepth 100000 in
theorem flRX2_18 : fl_ok RX2 18 2 2 := ⟨RX2, TX2, 4, rfl, by decide, giX2, Or.inl (gd1 (i := 100) rfl rfl)⟩
set_option maxRecDepth 100000 in
theorem flRX2_21 : fl_ok RX2 21 2 3 := ⟨RX2, TX2, 4, rfl, by decide, giX2, Or.inl (gd1 (i := 101) rfl rfl)⟩
set_option maxRecDepth 100000 in
theorem fpRX2_21 : fp_ok RX2 21 2 3 .int := ⟨RX2, TX2, 4, tyX2, rfl, by decide, giX2, Or.inl (gd1 (i := 101) rfl rfl), tyX2_ok, nmX2, rfl, by decide +kernel⟩
set_option maxRecDepth 100000 in
theorem flRX10_170 : fl_ok RX10 170 2 3 := ⟨RX2, TX2, 4, rfl, by decide, giX2, Or.inr ⟨"OneTriangle", nw1 (i := 102) rfl rfl⟩⟩
set_option maxRecDepth 100000 in
theorem fpRX10_170 : fp_ok RX10 170 2 3 .int := ⟨RX2, TX2, 4, tyX2, rfl, by decide, giX2, Or.inr ⟨"OneTriangle", nw1 (i := 102) rfl rfl⟩, tyX2_ok, nmX2, rfl, by decide +kernel⟩
set_option maxRecDepth 100000 in
theorem flRX9_24 : fl_ok RX9 24 9 0 := ⟨RX9, TX9, 8, rfl, by decide, giX9, Or.inl (gd1 (i := 118) rfl rfl)⟩
set_option maxRecDepth 100000 in
theorem flRX9_28 : fl_ok RX9 28 9 1 := ⟨RX9, TX9, 8, rfl, by decide, giX9, Or.inl (gd1 (i := 119) rfl rfl)⟩
set_option maxRecDepth 100000 in
theorem flRX9_32 : fl_ok RX9 32 9 2 := ⟨RX9, TX9, 8, rfl, by decide, giX9, Or.inl (gd1 (i := 120) rfl rfl)⟩
set_option maxRecDepth 100000 in
theorem flRX9_36 : fl_ok RX9 36 9 3 := ⟨RX9, TX9, 8, rfl, by decide, giX9, Or.inl (gd1 (i := 121) rfl rfl)⟩
set_option maxRecDepth 100000 in
theorem flRX9_9 : fl_ok RX9 9 9 4 := ⟨RX9, TX9, 8, rfl, by decide, giX9, Or.inl (gd1 (i := 122) rfl rfl)⟩
set_option maxRecDepth 100000 in
theorem flRX9_15 : fl_ok RX9 15 9 5 := ⟨RX9, TX9, 8, rfl, by decide, giX9, Or.inl (gd1 (i := 123) rfl rfl)⟩
set_option maxRecDepth 100000 in
theorem flRX9_18 : fl_ok RX9 18 9 6 := ⟨RX9, TX9, 8, rfl, by decide, giX9, Or.inl (gd1 (i := 124) rfl rfl)⟩
set_option maxRecDepth 100000 in
theorem flRX9_21 : fl_ok RX9 21 9 7 := ⟨RX9, TX9, 8, rfl, by decide, giX9, Or.inl (gd1 (i := 125) rfl rfl)⟩
set_option maxRecDepth 100000 in
theorem flRX8_18 : fl_ok RX8 18 8 0 := ⟨RX8, TX8, 3, rfl, by decide, giX8, Or.inl (gd1 (i := 150) rfl rfl)⟩
set_option maxRecDepth 100000 in
theorem flRX8_9 : fl_ok RX8 9 8 1 := ⟨RX8, TX8, 3, rfl, by decide, giX8, Or.inl (gd1 (i := 151) rfl rfl)⟩
set_option maxRecDepth 100000 in
theorem flRX8_15 : fl_ok RX8 15 8 2 := ⟨RX8, TX8, 3, rfl, by decide, giX8, Or.inl (gd1 (i := 152) rfl rfl)⟩
set_option maxRecDepth 100000 in
theorem flRX5_11 : fl_ok RX5 11 5 0 := ⟨RX5, TX5, 5, rfl, by decide, giX5, Or.inl (gd1 (i := 166) rfl rfl)⟩
set_option maxRecDepth 100000 in
theorem flRX5_15 : fl_ok RX5 15 5 1 := ⟨RX5, TX5, 5, rfl, by decide, giX5, Or.inl (gd1 (i := 167) rfl rfl)⟩
set_option maxRecDepth 100000 in
theorem flRX5_18 : fl_ok RX5 18 5 2 := ⟨RX5, TX5, 5, rfl, by decide, giX5, Or.inl (gd1 (i := 168) rfl rfl)⟩
set_option maxRecDepth 100000 in
theorem flRX5_21 : fl_ok RX5 21 5 3 := ⟨RX5, TX5, 5, rfl, by decide, giX5, Or.inl (gd1 (i := 169) rfl rfl)⟩
set_option maxRecDepth 100000 in
theorem flRX5_24 : fl_ok RX5 24 5 4 := ⟨RX5, TX5, 5, rfl, by decide, giX5, Or.inl (gd1 (i := 170) rfl rfl)⟩
set_option maxRecDepth 100000 in
theorem fpRX5_24 : fp_ok RX5 24 5 4 .int := ⟨RX5, TX5, 5, tyX5, rfl, by decide, giX5, Or.inl (gd1 (i := 170) rfl rfl), tyX5_ok, nmX5, rfl, by decide +kernel⟩
set_option maxRecDepth 100000 in
theorem flRX10_245 : fl_ok RX10 245 5 4 := ⟨RX5, TX5, 5, rfl, by decide, giX5, Or.inr ⟨"OneTriangle", nw1 (i := 171) rfl rfl⟩⟩
set_option maxRecDepth 100000 in
theorem fpRX10_245 : fp_ok RX10 245 5 4 .int := ⟨RX5, TX5, 5, tyX5, rfl, by decide, giX5, Or.inr ⟨"OneTriangle", nw1 (i := 171) rfl rfl⟩, tyX5_ok, nmX5, rfl, by decide +kernel⟩
set_option maxRecDepth 100000 in
theorem flRX0_11 : fl_ok RX0 11 0 0 := ⟨RX0, TX0, 3, rfl, by decide, giX0, Or.inl (gd1 (i := 189) rfl rfl)⟩
set_option maxRecDepth 100000 in
theorem flRX0_15 : fl_ok RX0 15 0 1 := ⟨RX0, TX0, 3, rfl, by decide, giX0, Or.inl (gd1 (i := 190) rfl rfl)⟩
set_option maxRecDepth 100000 in
theorem fpRX0_15 : fp_ok RX0 15 0 1 .int := ⟨RX0, TX0, 3, tyX0, rfl, by decide, giX0, Or.inl (gd1 (i := 190) rfl rfl), tyX0_ok, nmX0, rfl, by decide +kernel⟩
set_option maxRecDepth 100000 in
theorem flRX10_165 : fl_ok RX10 165 0 1 := ⟨RX0, TX0, 3, rfl, by decide, giX0, Or.inr ⟨"OneTriangle", nw1 (i := 191) rfl rfl⟩⟩
set_option maxRecDepth 100000 in
theorem fpRX10_165 : fp_ok RX10 165 0 1 .int := ⟨RX0, TX0, 3, tyX0, rfl, by decide, giX0, Or.inr ⟨"OneTriangle", nw1 (i := 191) rfl rfl⟩, tyX0_ok, nmX0, rfl, by decide +kernel⟩
set_option maxRecDepth 100000 in
theorem flRX0_19 : fl_ok RX0 19 0 2 := ⟨RX0, TX0, 3, rfl, by decide, giX0, Or.inl (gd1 (i := 192) rfl rfl)⟩
set_option maxRecDepth 100000 in
theorem fpRX0_19 : fp_ok RX0 19 0 2 .int := ⟨RX0, TX0, 3, tyX0, rfl, by decide, giX0, Or.inl (gd1 (i := 192) rfl rfl), tyX0_ok, nmX0, rfl, by decide +kernel⟩
set_option maxRecDepth 100000 in
theorem flRX10_256 : fl_ok RX10 256 0 2 := ⟨RX0, TX0, 3, rfl, by decide, giX0, Or.inr ⟨"OneTriangle", nw1 (i := 193) rfl rfl⟩⟩
set_option maxRecDepth 100000 in
theorem fpRX10_256 : fp_ok RX10 256 0 2 .int := ⟨RX0, TX0, 3, tyX0, rfl, by decide, giX0, Or.inr ⟨"OneTriangle", nw1 (i := 193) rfl rfl⟩, tyX0_ok, nmX0, rfl, by decide +kernel⟩
set_option maxRecDepth 100000 in
theorem flRX1_9 : fl_ok RX1 9 1 0 := ⟨RX1, TX1, 1, rfl, by decide, giX1, Or.inl (gd1 (i := 207) rfl rfl)⟩
set_option maxRecDepth 100000 in
theorem fpRX1_9 : fp_ok RX1 9 1 0 .int := ⟨RX1, TX1, 1, tyX1, rfl, by decide, giX1, Or.inl (gd1 (i := 207) rfl rfl), tyX1_ok, nmX1, rfl, by decide +kernel⟩
set_option maxRecDepth 100000 in
theorem flRX10_268 : fl_ok RX10 268 1 0 := ⟨RX1, TX1, 1, rfl, by decide, giX1, Or.inr ⟨"OneTriangle", nw1 (i := 208) rfl rfl⟩⟩
set_option maxRecDepth 100000 in
theorem fpRX10_268 : fp_ok RX10 268 1 0 .int := ⟨RX1, TX1, 1, tyX1, rfl, by decide, giX1, Or.inr ⟨"OneTriangle", nw1 (i := 208) rfl rfl⟩, tyX1_ok, nmX1, rfl, by decide +kernel⟩
set_option maxRecDepth 100000 in
theorem flRX7_11 : fl_ok RX7 11 7 0 := ⟨RX7, TX7, 4, rfl, by decide, giX7, Or.inl (gd1 (i := 219) rfl rfl)⟩
set_option maxRecDepth 100000 in
theorem flRX10_288 : fl_ok RX10 288 7 0 := ⟨RX7, TX7, 4, rfl, by decide, giX7, Or.inr ⟨"OneTriangle", nw1 (i := 220) rfl rfl⟩⟩
set_option maxRecDepth 100000 in
theorem flRX7_15 : fl_ok RX7 15 7 1 := ⟨RX7, TX7, 4, rfl, by decide, giX7, Or.inl (gd1 (i := 221) rfl rfl)⟩
set_option maxRecDepth 100000 in
theorem fpRX7_15 : fp_ok RX7 15 7 1 .boolean := ⟨RX7, TX7, 4, tyX7, rfl, by decide, giX7, Or.inl (gd1 (i := 221) rfl rfl), tyX7_ok, nmX7, rfl, by decide +kernel⟩
set_option maxRecDepth 100000 in
theorem flRX10_148 : fl_ok RX10 148 7 1 := ⟨RX7, TX7, 4, rfl, by decide, giX7, Or.inr ⟨"OneTriangle", nw1 (i := 222) rfl rfl⟩⟩
set_option maxRecDepth 100000 in
theorem fpRX10_148 : fp_ok RX10 148 7 1 .boolean := ⟨RX7, TX7, 4, tyX7, rfl, by decide, giX7, Or.inr ⟨"OneTriangle", nw1 (i := 222) rfl rfl⟩, tyX7_ok, nmX7, rfl, by decide +kernel⟩
set_option maxRecDepth 100000 in
theorem flRX7_19 : fl_ok RX7 19 7 2 := ⟨RX7, TX7, 4, rfl, by decide, giX7, Or.inl (gd1 (i := 223) rfl rfl)⟩
set_option maxRecDepth 100000 in
theorem fpRX7_19 : fp_ok RX7 19 7 2 .int := ⟨RX7, TX7, 4, tyX7, rfl, by decide, giX7, Or.inl (gd1 (i := 223) rfl rfl), tyX7_ok, nmX7, rfl, by decide +kernel⟩
set_option maxRecDepth 100000 in
theorem flRX10_282 : fl_ok RX10 282 7 2 := ⟨RX7, TX7, 4, rfl, by decide, giX7, Or.inr ⟨"OneTriangle", nw1 (i := 224) rfl rfl⟩⟩
set_option maxRecDepth 100000 in
theorem fpRX10_282 : fp_ok RX10 282 7 2 .int := ⟨RX7, TX7, 4, tyX7, rfl, by decide, giX7, Or.inr ⟨"OneTriangle", nw1 (i := 224) rfl rfl⟩, tyX7_ok, nmX7, rfl, by decide +kernel⟩
set_option maxRecDepth 100000 in
theorem flRX7_23 : fl_ok RX7 23 7 3 := ⟨RX7, TX7, 4, rfl, by decide, giX7, Or.inl (gd1 (i := 225) rfl rfl)⟩
set_option maxRecDepth 100000 in
theorem fpRX7_23 : fp_ok RX7 23 7 3 .int := ⟨RX7, TX7, 4, tyX7, rfl, by decide, giX7, Or.inl (gd1 (i := 225) rfl rfl), tyX7_ok, nmX7, rfl, by decide +kernel⟩
set_option maxRecDepth 100000 in
theorem flRX10_157 : fl_ok RX10 157 7 3 := ⟨RX7, TX7, 4, rfl, by decide, giX7, Or.inr ⟨"OneTriangle", nw1 (i := 226) rfl rfl⟩⟩
set_option maxRecDepth 100000 in
theorem fpRX10_157 : fp_ok RX10 157 7 3 .int := ⟨RX7, TX7, 4, tyX7, rfl, by decide, giX7, Or.inr ⟨"OneTriangle", nw1 (i := 226) rfl rfl⟩, tyX7_ok, nmX7, rfl, by decide +kernel⟩
set_option maxRecDepth 100000 in
theorem flRX10_12 : fl_ok RX10 12 10 0 := ⟨RX10, TX10, 13, rfl, by decide, giX10, Or.inl (gd1 (i := 236) rfl rfl)⟩
set_option maxRecDepth 100000 in
theorem flRX10_19 : fl_ok RX10 19 10 1 := ⟨RX10, TX10, 13, rfl, by decide, giX10, Or.inl (gd1 (i := 237) rfl rfl)⟩
set_option maxRecDepth 100000 in
theorem flRX10_26 : fl_ok RX10 26 10 2 := ⟨RX10, TX10, 13, rfl, by decide, giX10, Or.inl (gd1 (i := 238) rfl rfl)⟩
set_option maxRecDepth 100000 in
theorem flRX10_30 : fl_ok RX10 30 10 3 := ⟨RX10, TX10, 13, rfl, by decide, giX10, Or.inl (gd1 (i := 239) rfl rfl)⟩
set_option maxRecDepth 100000 in
theorem flRX10_36 : fl_ok RX10 36 10 4 := ⟨RX10, TX10, 13, rfl, by decide, giX10, Or.inl (gd2 (i := 0) rfl rfl)⟩
set_option maxRecDepth 100000 in
theorem flRX10_45 : fl_ok RX10 45 10 5 := ⟨RX10, TX10, 13, rfl, by decide, giX10, Or.inl (gd2 (i := 1) rfl rfl)⟩
set_option maxRecDepth 100000 in
theorem flRX10_54 : fl_ok RX10 54 10 6 := ⟨RX10, TX10, 13, rfl, by decide, giX10, Or.inl (gd2 (i := 2) rfl rfl)⟩
set_option maxRecDepth 100000 in
theorem flRX10_61 : fl_ok RX10 61 10 7 := ⟨RX10, TX10, 13, rfl, by decide, giX10, Or.inl (gd2 (i := 3) rfl rfl)⟩
set_option maxRecDepth 100000 in
theorem flRX10_68 : fl_ok RX10 68 10 8 := ⟨RX10, TX10, 13, rfl, by decide, giX10, Or.inl (gd2 (i := 4) rfl rfl)⟩
set_option maxRecDepth 100000 in
theorem flRX10_75 : fl_ok RX10 75 10 9 := ⟨RX10, TX10, 13, rfl, by decide, giX10, Or.inl (gd2 (i := 5) rfl rfl)⟩
set_option maxRecDepth 100000 in
theorem flRX10_81 : fl_ok RX10 81 10 10 := ⟨RX10, TX10, 13, rfl, by decide, giX10, Or.inl (gd2 (i := 6) rfl rfl)⟩
set_option maxRecDepth 100000 in
theorem flRX10_86 : fl_ok RX10 86 10 11 := ⟨RX10, TX10, 13, rfl, by decide, giX10, Or.inl (gd2 (i := 7) rfl rfl)⟩
set_option maxRecDepth 100000 in
theorem fpRX10_86 : fp_ok RX10 86 10 11 .boolean := ⟨RX10, TX10, 13, tyX10, rfl, by decide, giX10, Or.inl (gd2 (i := 7) rfl rfl), tyX10_ok, nmX10, rfl, by decide +kernel⟩
set_option maxRecDepth 100000 in
theorem flRX10_90 : fl_ok RX10 90 10 12 := ⟨RX10, TX10, 13, rfl, by decide, giX10, Or.inl (gd2 (i := 8) rfl rfl)⟩
set_option maxRecDepth 100000 in
theorem fpRX10_90 : fp_ok RX10 90 10 12 .int := ⟨RX10, TX10, 13, tyX10, rfl, by decide, giX10, Or.inl (gd2 (i := 8) rfl rfl), tyX10_ok, nmX10, rfl, by decide +kernel⟩
set_option maxRecDepth 100000 in
theorem mlRL_13 : ml_ok RL 13 yX10_type := Or.inl (gd2 (i := 36) rfl rfl)
set_option maxRecDepth 100000 in
theorem mlRX10_94 : ml_ok RX10 94 yX10_within := Or.inl (gd2 (i := 40) rfl rfl)
set_option maxRecDepth 100000 in
theorem mlRX10_98 : ml_ok RX10 98 yX4_append := Or.inl (gd2 (i := 43) rfl rfl)
set_option maxRecDepth 100000 in
theorem mlRX4_43 : ml_ok RX4 43 yX4_understand := Or.inl (gd2 (i := 47) rfl rfl)
set_option maxRecDepth 100000 in
theorem mlRX4_60 : ml_ok RX4 60 yX4_byteAt := Or.inl (gd2 (i := 51) rfl rfl)
set_option maxRecDepth 100000 in
theorem mlRX4_56 : ml_ok RX4 56 yX10_itemAt := Or.inr ⟨"OneTriangle", nw2 (i := 55) rfl rfl⟩
set_option maxRecDepth 100000 in
theorem mlRX4_64 : ml_ok RX4 64 yX4_passed := Or.inl (gd2 (i := 58) rfl rfl)
set_option maxRecDepth 100000 in
theorem mlRX4_67 : ml_ok RX4 67 yX4_passedPlain := Or.inl (gd2 (i := 62) rfl rfl)
set_option maxRecDepth 100000 in
theorem mlRX4_83 : ml_ok RX4 83 yX10_within := Or.inr ⟨"OneTriangle", nw2 (i := 66) rfl rfl⟩
set_option maxRecDepth 100000 in
theorem mlRX4_80 : ml_ok RX4 80 yX4_faultAt := Or.inl (gd2 (i := 67) rfl rfl)
set_option maxRecDepth 100000 in
theorem mlRX4_76 : ml_ok RX4 76 yX4_addBars := Or.inl (gd2 (i := 71) rfl rfl)
set_option maxRecDepth 100000 in
theorem mlRX4_46 : ml_ok RX4 46 yJ9_max_7cf53 := Or.inl (gd2 (i := 75) rfl rfl)
set_option maxRecDepth 100000 in
theorem mlRX4_70 : ml_ok RX4 70 yX4_passedLoose := Or.inl (gd2 (i := 78) rfl rfl)
set_option maxRecDepth 100000 in
theorem mlRX4_73 : ml_ok RX4 73 yX4_passedCue := Or.inl (gd2 (i := 82) rfl rfl)
set_option maxRecDepth 100000 in
theorem mlRL_18 : ml_ok RL 18 yX10_wipe := Or.inl (gd2 (i := 86) rfl rfl)
set_option maxRecDepth 100000 in
theorem mlRX10_105 : ml_ok RX10 105 yX4_shorten := Or.inl (gd2 (i := 90) rfl rfl)
set_option maxRecDepth 100000 in
theorem mlRL_23 : ml_ok RL 23 yX10_undo := Or.inl (gd2 (i := 94) rfl rfl)
set_option maxRecDepth 100000 in
theorem mlRL_27 : ml_ok RL 27 yX10_fault := Or.inl (gd2 (i := 98) rfl rfl)
set_option maxRecDepth 100000 in
theorem mlRL_31 : ml_ok RL 31 yX10_bar := Or.inl (gd2 (i := 102) rfl rfl)
set_option maxRecDepth 100000 in
theorem mlRX10_112 : ml_ok RX10 112 yX4_hasBar := Or.inl (gd2 (i := 106) rfl rfl)
set_option maxRecDepth 100000 in
theorem mlRX10_115 : ml_ok RX10 115 yX4_kindOf := Or.inl (gd2 (i := 110) rfl rfl)
set_option maxRecDepth 100000 in
theorem mlRX10_119 : ml_ok RX10 119 yX4_tuneOf := Or.inl (gd2 (i := 114) rfl rfl)
set_option maxRecDepth 100000 in
theorem mlRX4_52 : ml_ok RX4 52 yX4_hasBar := Or.inl (gd2 (i := 118) rfl rfl)
set_option maxRecDepth 100000 in
theorem mlRX10_122 : ml_ok RX10 122 yX4_cueIn := Or.inl (gd2 (i := 119) rfl rfl)
set_option maxRecDepth 100000 in
theorem mlRL_36 : ml_ok RL 36 yX10_odds := Or.inl (gd2 (i := 123) rfl rfl)
set_option maxRecDepth 100000 in
theorem mlRX10_125 : ml_ok RX10 125 yX3_missedOf := Or.inl (gd2 (i := 127) rfl rfl)
set_option maxRecDepth 100000 in
theorem mlRX3_16 : ml_ok RX3 16 yX10_itemAt := Or.inr ⟨"OneTriangle", nw2 (i := 131) rfl rfl⟩
set_option maxRecDepth 100000 in
theorem mlRX10_128 : ml_ok RX10 128 yX3_doubledOf := Or.inl (gd2 (i := 132) rfl rfl)
set_option maxRecDepth 100000 in
theorem mlRX10_131 : ml_ok RX10 131 yX3_become := Or.inl (gd2 (i := 136) rfl rfl)
set_option maxRecDepth 100000 in
theorem mlRL_41 : ml_ok RL 41 yX10_set := Or.inl (gd2 (i := 140) rfl rfl)
set_option maxRecDepth 100000 in
theorem mlRX10_135 : ml_ok RX10 135 yX6_most := Or.inl (gd2 (i := 144) rfl rfl)
set_option maxRecDepth 100000 in
theorem fsRX6_13 : Cond.fieldLink RX6 13 "OneTriangle$Settings" "MOST" "[I" ∈ lw_gd := gd2 (i := 147) rfl rfl
set_option maxRecDepth 100000 in
theorem mlRX6_16 : ml_ok RX6 16 yX10_itemAt := Or.inr ⟨"OneTriangle", nw2 (i := 149) rfl rfl⟩
set_option maxRecDepth 100000 in
theorem mlRX10_138 : ml_ok RX10 138 yX6_valueOf := Or.inl (gd2 (i := 150) rfl rfl)
set_option maxRecDepth 100000 in
theorem mlRX10_141 : ml_ok RX10 141 yX6_become := Or.inl (gd2 (i := 154) rfl rfl)
set_option maxRecDepth 100000 in
theorem mlRL_45 : ml_ok RL 45 yX10_read := Or.inl (gd2 (i := 158) rfl rfl)
set_option maxRecDepth 100000 in
theorem mlRX10_144 : ml_ok RX10 144 yX10_sheetAt := Or.inl (gd2 (i := 162) rfl rfl)
set_option maxRecDepth 100000 in
theorem mlRX10_151 : ml_ok RX10 151 yX10_found := Or.inl (gd2 (i := 166) rfl rfl)
set_option maxRecDepth 100000 in
theorem mlRX10_154 : ml_ok RX10 154 yX0_clear := Or.inl (gd2 (i := 170) rfl rfl)
set_option maxRecDepth 100000 in
theorem mlRX10_158 : ml_ok RX10 158 yX7_itemOf := Or.inl (gd2 (i := 174) rfl rfl)
set_option maxRecDepth 100000 in
theorem mlRX7_36 : ml_ok RX7 36 yX10_itemAt := Or.inr ⟨"OneTriangle", nw2 (i := 178) rfl rfl⟩
set_option maxRecDepth 100000 in
theorem mlRX10_161 : ml_ok RX10 161 yX10_isNumber := Or.inl (gd2 (i := 179) rfl rfl)
set_option maxRecDepth 100000 in
theorem mlRX10_164 : ml_ok RX10 164 yX0_append := Or.inl (gd2 (i := 182) rfl rfl)
set_option maxRecDepth 100000 in
theorem mlRL_49 : ml_ok RL 49 yX10_hear := Or.inl (gd2 (i := 186) rfl rfl)
set_option maxRecDepth 100000 in
theorem mlRX10_166 : ml_ok RX10 166 yX10_addNote := Or.inl (gd2 (i := 190) rfl rfl)
set_option maxRecDepth 100000 in
theorem mlRX10_372 : ml_ok RX10 372 yX2_append := Or.inl (gd2 (i := 194) rfl rfl)
set_option maxRecDepth 100000 in
theorem mlRL_53 : ml_ok RL 53 yX10_shown := Or.inl (gd2 (i := 198) rfl rfl)
set_option maxRecDepth 100000 in
theorem mlRL_57 : ml_ok RL 57 yX10_forget := Or.inl (gd2 (i := 202) rfl rfl)
set_option maxRecDepth 100000 in
theorem mlRL_61 : ml_ok RL 61 yX10_where := Or.inl (gd2 (i := 206) rfl rfl)
set_option maxRecDepth 100000 in
theorem mlRX10_171 : ml_ok RX10 171 yX10_isPart := Or.inl (gd2 (i := 210) rfl rfl)
set_option maxRecDepth 100000 in
theorem mlRX10_174 : ml_ok RX10 174 yX10_refusal := Or.inl (gd2 (i := 213) rfl rfl)
set_option maxRecDepth 100000 in
theorem kcRX10_370 : Cond.constantLong RX10 370 (-9223372036854775808) ∈ lw_gd := gd2 (i := 216) rfl rfl
set_option maxRecDepth 100000 in
theorem mlRX10_178 : ml_ok RX10 178 yX10_refreshWays := Or.inl (gd2 (i := 217) rfl rfl)
set_option maxRecDepth 100000 in
theorem mlRX10_374 : ml_ok RX10 374 yX9_find := Or.inl (gd2 (i := 221) rfl rfl)
set_option maxRecDepth 100000 in
theorem mlRX9_54 : ml_ok RX9 54 yJ7_fill_d0a16 := Or.inl (gd2 (i := 225) rfl rfl)
set_option maxRecDepth 100000 in
theorem kcRX9_60 : Cond.constantLong RX9 60 (1099511627776) ∈ lw_gd := gd2 (i := 228) rfl rfl
set_option maxRecDepth 100000 in
theorem mlRX9_62 : ml_ok RX9 62 yX10_addTo := Or.inr ⟨"OneTriangle", nw2 (i := 229) rfl rfl⟩
set_option maxRecDepth 100000 in
theorem mlRX9_40 : ml_ok RX9 40 yX10_longAt := Or.inr ⟨"OneTriangle", nw2 (i := 232) rfl rfl⟩
set_option maxRecDepth 100000 in
theorem mlRX9_70 : ml_ok RX9 70 yX9_pass := Or.inl (gd2 (i := 235) rfl rfl)
set_option maxRecDepth 100000 in
theorem mlRX9_89 : ml_ok RX9 89 yX4_tuneOf := Or.inl (gd2 (i := 239) rfl rfl)
set_option maxRecDepth 100000 in
theorem mlRX9_93 : ml_ok RX9 93 yX2_weigh := Or.inl (gd3 (i := 0) rfl rfl)
set_option maxRecDepth 100000 in
theorem mlRX2_25 : ml_ok RX2 25 yX6_valueOf := Or.inl (gd3 (i := 4) rfl rfl)
set_option maxRecDepth 100000 in
theorem mlRX9_80 : ml_ok RX9 80 yX4_isLoose := Or.inl (gd3 (i := 5) rfl rfl)
set_option maxRecDepth 100000 in
theorem mlRX9_99 : ml_ok RX9 99 yX9_addSaid := Or.inl (gd3 (i := 9) rfl rfl)
set_option maxRecDepth 100000 in
theorem mlRX9_50 : ml_ok RX9 50 yX10_within := Or.inr ⟨"OneTriangle", nw3 (i := 13) rfl rfl⟩
set_option maxRecDepth 100000 in
theorem mlRX9_103 : ml_ok RX9 103 yX4_kindOf := Or.inl (gd3 (i := 14) rfl rfl)
set_option maxRecDepth 100000 in
theorem mlRX9_106 : ml_ok RX9 106 yX3_missedOf := Or.inl (gd3 (i := 15) rfl rfl)
set_option maxRecDepth 100000 in
theorem mlRX9_111 : ml_ok RX9 111 yX3_doubledOf := Or.inl (gd3 (i := 16) rfl rfl)
set_option maxRecDepth 100000 in
theorem kcRX9_114 : Cond.constantLong RX9 114 (16) ∈ lw_gd := gd3 (i := 17) rfl rfl
set_option maxRecDepth 100000 in
theorem acRX9_74 : ac_ok RX9 74 := ⟨gd3 (i := 18) rfl rfl, gd3 (i := 20) rfl rfl, gd3 (i := 19) rfl rfl, gd1 (i := 15) rfl rfl⟩
set_option maxRecDepth 100000 in
theorem mlRX9_83 : ml_ok RX9 83 yJ9_min_7cf53 := Or.inl (gd3 (i := 21) rfl rfl)
set_option maxRecDepth 100000 in
theorem mlRX10_181 : ml_ok RX10 181 yX9_ofAll := Or.inl (gd3 (i := 24) rfl rfl)
set_option maxRecDepth 100000 in
theorem mlRX10_184 : ml_ok RX10 184 yX9_saidIn := Or.inl (gd3 (i := 28) rfl rfl)
set_option maxRecDepth 100000 in
theorem mlRX9_44 : ml_ok RX9 44 yX4_hasBar := Or.inl (gd3 (i := 32) rfl rfl)
set_option maxRecDepth 100000 in
theorem mlRX10_188 : ml_ok RX10 188 yX10_told := Or.inl (gd3 (i := 33) rfl rfl)
set_option maxRecDepth 100000 in
theorem mlRX10_385 : ml_ok RX10 385 yX10_greatestCommon := Or.inl (gd3 (i := 36) rfl rfl)
set_option maxRecDepth 100000 in
theorem mlRL_66 : ml_ok RL 66 yX10_likeliest := Or.inl (gd3 (i := 39) rfl rfl)
set_option maxRecDepth 100000 in
theorem mlRL_70 : ml_ok RL 70 yX10_strike := Or.inl (gd3 (i := 43) rfl rfl)
set_option maxRecDepth 100000 in
theorem mlRX10_195 : ml_ok RX10 195 yX10_costAbove := Or.inl (gd3 (i := 47) rfl rfl)
set_option maxRecDepth 100000 in
theorem mlRL_75 : ml_ok RL 75 yX10_line := Or.inl (gd3 (i := 51) rfl rfl)
set_option maxRecDepth 100000 in
theorem mlRX10_198 : ml_ok RX10 198 yX10_isLess := Or.inl (gd3 (i := 55) rfl rfl)
set_option maxRecDepth 100000 in
theorem mlRL_79 : ml_ok RL 79 yX10_slips := Or.inl (gd3 (i := 58) rfl rfl)
set_option maxRecDepth 100000 in
theorem mlRX10_202 : ml_ok RX10 202 yX8_walk := Or.inl (gd3 (i := 62) rfl rfl)
set_option maxRecDepth 100000 in
theorem mlRX8_26 : ml_ok RX8 26 yJ7_fill_d0a16 := Or.inl (gd3 (i := 66) rfl rfl)
set_option maxRecDepth 100000 in
theorem kcRX8_32 : Cond.constantLong RX8 32 (4503599627370496) ∈ lw_gd := gd3 (i := 67) rfl rfl
set_option maxRecDepth 100000 in
theorem mlRX8_34 : ml_ok RX8 34 yX10_addTo := Or.inr ⟨"OneTriangle", nw3 (i := 68) rfl rfl⟩
set_option maxRecDepth 100000 in
theorem mlRX8_38 : ml_ok RX8 38 yX4_isLoose := Or.inl (gd3 (i := 69) rfl rfl)
set_option maxRecDepth 100000 in
theorem mlRX8_44 : ml_ok RX8 44 yX4_kindOf := Or.inl (gd3 (i := 70) rfl rfl)
set_option maxRecDepth 100000 in
theorem mlRX8_48 : ml_ok RX8 48 yJ9_min_7cf53 := Or.inl (gd3 (i := 71) rfl rfl)
set_option maxRecDepth 100000 in
theorem mlRX8_54 : ml_ok RX8 54 yX3_missedOf := Or.inl (gd3 (i := 72) rfl rfl)
set_option maxRecDepth 100000 in
theorem mlRX8_59 : ml_ok RX8 59 yX3_doubledOf := Or.inl (gd3 (i := 73) rfl rfl)
set_option maxRecDepth 100000 in
theorem mlRX8_62 : ml_ok RX8 62 yX8_drift := Or.inl (gd3 (i := 74) rfl rfl)
set_option maxRecDepth 100000 in
theorem mlRX8_73 : ml_ok RX8 73 yJ9_max_7cf53 := Or.inl (gd3 (i := 78) rfl rfl)
set_option maxRecDepth 100000 in
theorem mlRX8_22 : ml_ok RX8 22 yX10_longAt := Or.inr ⟨"OneTriangle", nw3 (i := 79) rfl rfl⟩
set_option maxRecDepth 100000 in
theorem kcRX8_76 : Cond.constantLong RX8 76 (16) ∈ lw_gd := gd3 (i := 80) rfl rfl
set_option maxRecDepth 100000 in
theorem acRX8_78 : ac_ok RX8 78 := ⟨gd3 (i := 81) rfl rfl, gd3 (i := 20) rfl rfl, gd3 (i := 19) rfl rfl, gd1 (i := 15) rfl rfl⟩
set_option maxRecDepth 100000 in
theorem mlRX8_66 : ml_ok RX8 66 yX4_cueIn := Or.inl (gd3 (i := 82) rfl rfl)
set_option maxRecDepth 100000 in
theorem mlRX8_69 : ml_ok RX8 69 yX8_gather := Or.inl (gd3 (i := 83) rfl rfl)
set_option maxRecDepth 100000 in
theorem kcRX8_84 : Cond.constantLong RX8 84 (281474976710656) ∈ lw_gd := gd3 (i := 87) rfl rfl
set_option maxRecDepth 100000 in
theorem mlRX10_206 : ml_ok RX10 206 yX8_chanceOf := Or.inl (gd3 (i := 88) rfl rfl)
set_option maxRecDepth 100000 in
theorem kcRX10_209 : Cond.constantLong RX10 209 (4503599627370496) ∈ lw_gd := gd3 (i := 92) rfl rfl
set_option maxRecDepth 100000 in
theorem mlRL_83 : ml_ok RL 83 yX10_safe := Or.inl (gd3 (i := 93) rfl rfl)
set_option maxRecDepth 100000 in
theorem mlRX10_214 : ml_ok RX10 214 yJ6_bitCount_0f7a4 := Or.inl (gd3 (i := 97) rfl rfl)
set_option maxRecDepth 100000 in
theorem kcRJ6_265 : Cond.constant RJ6 265 (1431655765) ∈ lw_gd := gd3 (i := 100) rfl rfl
set_option maxRecDepth 100000 in
theorem kcRJ6_266 : Cond.constant RJ6 266 (858993459) ∈ lw_gd := gd3 (i := 101) rfl rfl
set_option maxRecDepth 100000 in
theorem kcRJ6_267 : Cond.constant RJ6 267 (252645135) ∈ lw_gd := gd3 (i := 102) rfl rfl
set_option maxRecDepth 100000 in
theorem mlRX10_219 : ml_ok RX10 219 yX10_safety := Or.inl (gd3 (i := 103) rfl rfl)
set_option maxRecDepth 100000 in
theorem mlRL_87 : ml_ok RL 87 yX10_write := Or.inl (gd3 (i := 107) rfl rfl)
set_option maxRecDepth 100000 in
theorem mlRX10_222 : ml_ok RX10 222 yJ9_min_7cf53 := Or.inl (gd3 (i := 111) rfl rfl)
set_option maxRecDepth 100000 in
theorem kcRX10_228 : Cond.constantLong RX10 228 (-1) ∈ lw_gd := gd3 (i := 112) rfl rfl
set_option maxRecDepth 100000 in
theorem mlRL_91 : ml_ok RL 91 yX10_few := Or.inl (gd3 (i := 113) rfl rfl)
set_option maxRecDepth 100000 in
theorem kcRX10_230 : Cond.constantLong RX10 230 (281474976710656) ∈ lw_gd := gd3 (i := 117) rfl rfl
set_option maxRecDepth 100000 in
theorem mlRL_95 : ml_ok RL 95 yX10_anew := Or.inl (gd3 (i := 118) rfl rfl)
set_option maxRecDepth 100000 in
theorem mlRX10_232 : ml_ok RX10 232 yX4_barOf := Or.inl (gd3 (i := 122) rfl rfl)
set_option maxRecDepth 100000 in
theorem mlRL_99 : ml_ok RL 99 yX10_joint := Or.inl (gd3 (i := 126) rfl rfl)
set_option maxRecDepth 100000 in
theorem mlRL_103 : ml_ok RL 103 yX10_evening := Or.inl (gd3 (i := 130) rfl rfl)
set_option maxRecDepth 100000 in
theorem mlRX10_235 : ml_ok RX10 235 yX10_comeTo := Or.inl (gd3 (i := 134) rfl rfl)
set_option maxRecDepth 100000 in
theorem mlRX10_377 : ml_ok RX10 377 yJ9_max_7cf53 := Or.inl (gd3 (i := 138) rfl rfl)
set_option maxRecDepth 100000 in
theorem mlRX10_238 : ml_ok RX10 238 yX10_trueLater := Or.inl (gd3 (i := 139) rfl rfl)
set_option maxRecDepth 100000 in
theorem mlRL_107 : ml_ok RL 107 yX10_prime := Or.inl (gd3 (i := 143) rfl rfl)
set_option maxRecDepth 100000 in
theorem mlRL_111 : ml_ok RL 111 yX10_player := Or.inl (gd3 (i := 147) rfl rfl)
set_option maxRecDepth 100000 in
theorem mlRX10_242 : ml_ok RX10 242 yX5_append := Or.inl (gd3 (i := 151) rfl rfl)
set_option maxRecDepth 100000 in
theorem mlRX5_28 : ml_ok RX5 28 yX10_itemAt := Or.inr ⟨"OneTriangle", nw3 (i := 155) rfl rfl⟩
set_option maxRecDepth 100000 in
theorem mlRL_115 : ml_ok RL 115 yX10_leave := Or.inl (gd3 (i := 156) rfl rfl)
set_option maxRecDepth 100000 in
theorem mlRL_119 : ml_ok RL 119 yX10_worth := Or.inl (gd3 (i := 160) rfl rfl)
set_option maxRecDepth 100000 in
theorem mlRX10_246 : ml_ok RX10 246 yX5_bestBits := Or.inl (gd3 (i := 164) rfl rfl)
set_option maxRecDepth 100000 in
theorem mlRX5_32 : ml_ok RX5 32 yX5_plan := Or.inl (gd3 (i := 168) rfl rfl)
set_option maxRecDepth 100000 in
theorem mlRX5_36 : ml_ok RX5 36 yJ7_fill_53178 := Or.inl (gd3 (i := 172) rfl rfl)
set_option maxRecDepth 100000 in
theorem mlRX5_42 : ml_ok RX5 42 yX10_within := Or.inr ⟨"OneTriangle", nw3 (i := 175) rfl rfl⟩
set_option maxRecDepth 100000 in
theorem mlRX5_46 : ml_ok RX5 46 yJ9_max_7cf53 := Or.inl (gd3 (i := 176) rfl rfl)
set_option maxRecDepth 100000 in
theorem mlRX10_250 : ml_ok RX10 250 yX5_plan := Or.inl (gd3 (i := 177) rfl rfl)
set_option maxRecDepth 100000 in
theorem mlRL_123 : ml_ok RL 123 yX10_look := Or.inl (gd3 (i := 178) rfl rfl)
set_option maxRecDepth 100000 in
theorem mlRX10_253 : ml_ok RX10 253 yX5_lookedAtIn := Or.inl (gd3 (i := 182) rfl rfl)
set_option maxRecDepth 100000 in
theorem mlRL_127 : ml_ok RL 127 yX10_from := Or.inl (gd3 (i := 186) rfl rfl)
set_option maxRecDepth 100000 in
theorem mlRL_131 : ml_ok RL 131 yX10_said := Or.inl (gd3 (i := 190) rfl rfl)
set_option maxRecDepth 100000 in
theorem mlRL_135 : ml_ok RL 135 yX10_wrong := Or.inl (gd3 (i := 194) rfl rfl)
set_option maxRecDepth 100000 in
theorem mlRX10_259 : ml_ok RX10 259 yX0_firstWrong := Or.inl (gd3 (i := 198) rfl rfl)
set_option maxRecDepth 100000 in
theorem mlRX0_22 : ml_ok RX0 22 yX0_isWrong := Or.inl (gd3 (i := 202) rfl rfl)
set_option maxRecDepth 100000 in
theorem mlRX0_26 : ml_ok RX0 26 yX10_itemAt := Or.inr ⟨"OneTriangle", nw3 (i := 206) rfl rfl⟩
set_option maxRecDepth 100000 in
theorem mlRX10_262 : ml_ok RX10 262 yX0_allWrong := Or.inl (gd3 (i := 207) rfl rfl)
set_option maxRecDepth 100000 in
theorem mlRL_139 : ml_ok RL 139 yX10_blame := Or.inl (gd3 (i := 211) rfl rfl)
set_option maxRecDepth 100000 in
theorem mlRX10_265 : ml_ok RX10 265 yX4_isLoose := Or.inl (gd3 (i := 215) rfl rfl)
set_option maxRecDepth 100000 in
theorem mlRL_143 : ml_ok RL 143 yX10_night := Or.inl (gd3 (i := 216) rfl rfl)
set_option maxRecDepth 100000 in
theorem mlRX10_271 : ml_ok RX10 271 yX10_slipOfNight := Or.inl (gd3 (i := 220) rfl rfl)
set_option maxRecDepth 100000 in
theorem mlRX10_380 : ml_ok RX10 380 yX1_draw := Or.inl (gd3 (i := 224) rfl rfl)
set_option maxRecDepth 100000 in
theorem kcRX1_15 : Cond.constant RX1 15 (1103515245) ∈ lw_gd := gd3 (i := 228) rfl rfl
set_option maxRecDepth 100000 in
theorem mlRL_147 : ml_ok RL 147 yX10_sheet := Or.inl (gd3 (i := 229) rfl rfl)
set_option maxRecDepth 100000 in
theorem mlRX10_274 : ml_ok RX10 274 yX7_renew := Or.inl (gd3 (i := 233) rfl rfl)
set_option maxRecDepth 100000 in
theorem mlRX7_26 : ml_ok RX7 26 yJ7_fill_53178 := Or.inl (gd3 (i := 237) rfl rfl)
set_option maxRecDepth 100000 in
theorem mlRL_151 : ml_ok RL 151 yX10_lose := Or.inl (gd3 (i := 238) rfl rfl)
set_option maxRecDepth 100000 in
theorem mlRL_155 : ml_ok RL 155 yX10_put := Or.inl (gd4 (i := 2) rfl rfl)
set_option maxRecDepth 100000 in
theorem mlRX10_277 : ml_ok RX10 277 yX7_findingAt := Or.inl (gd4 (i := 6) rfl rfl)
set_option maxRecDepth 100000 in
theorem mlRX7_32 : ml_ok RX7 32 yX7_hasItems := Or.inl (gd4 (i := 10) rfl rfl)
set_option maxRecDepth 100000 in
theorem mlRX10_280 : ml_ok RX10 280 yX7_become := Or.inl (gd4 (i := 14) rfl rfl)
set_option maxRecDepth 100000 in
theorem mlRL_160 : ml_ok RL 160 yX10_get := Or.inl (gd4 (i := 18) rfl rfl)
set_option maxRecDepth 100000 in
theorem kcRX10_281 : Cond.constant RX10 281 (-2147483648) ∈ lw_gd := gd4 (i := 22) rfl rfl
set_option maxRecDepth 100000 in
theorem mlRL_164 : ml_ok RL 164 yX10_copy := Or.inl (gd4 (i := 23) rfl rfl)
set_option maxRecDepth 100000 in
theorem mlRX10_285 : ml_ok RX10 285 yX7_hasItems := Or.inl (gd4 (i := 27) rfl rfl)
set_option maxRecDepth 100000 in
theorem acRX10_292 : ac_ok RX10 292 := ⟨gd4 (i := 28) rfl rfl, gd3 (i := 20) rfl rfl, gd3 (i := 19) rfl rfl, gd1 (i := 15) rfl rfl⟩
set_option maxRecDepth 100000 in
theorem mlRL_169 : ml_ok RL 169 yX10_tell := Or.inl (gd4 (i := 29) rfl rfl)
set_option maxRecDepth 100000 in
theorem mlRL_173 : ml_ok RL 173 yX10_count := Or.inl (gd4 (i := 33) rfl rfl)
set_option maxRecDepth 100000 in
theorem mlRL_177 : ml_ok RL 177 yX10_digest := Or.inl (gd4 (i := 37) rfl rfl)
set_option maxRecDepth 100000 in
theorem kcRX10_301 : Cond.constantLong RX10 301 (17) ∈ lw_gd := gd4 (i := 41) rfl rfl
set_option maxRecDepth 100000 in
theorem mlRX10_303 : ml_ok RX10 303 yX10_count := Or.inl (gd4 (i := 42) rfl rfl)
set_option maxRecDepth 100000 in
theorem mlRX10_306 : ml_ok RX10 306 yX10_mixed := Or.inl (gd4 (i := 43) rfl rfl)
set_option maxRecDepth 100000 in
theorem kcRX10_383 : Cond.constantLong RX10 383 (31) ∈ lw_gd := gd4 (i := 46) rfl rfl
set_option maxRecDepth 100000 in
theorem mlRX10_310 : ml_ok RX10 310 yX10_fault := Or.inl (gd4 (i := 47) rfl rfl)
set_option maxRecDepth 100000 in
theorem fsRX10_313 : Cond.fieldLink RX10 313 "OneTriangle" "DIGEST_NUMBERS" "[I" ∈ lw_gd := gd4 (i := 48) rfl rfl
set_option maxRecDepth 100000 in
theorem mlRX10_316 : ml_ok RX10 316 yX10_where := Or.inl (gd4 (i := 50) rfl rfl)
set_option maxRecDepth 100000 in
theorem mlRX10_320 : ml_ok RX10 320 yX10_likeliest := Or.inl (gd4 (i := 51) rfl rfl)
set_option maxRecDepth 100000 in
theorem mlRX10_323 : ml_ok RX10 323 yX10_strike := Or.inl (gd4 (i := 52) rfl rfl)
set_option maxRecDepth 100000 in
theorem mlRX10_326 : ml_ok RX10 326 yX10_line := Or.inl (gd4 (i := 53) rfl rfl)
set_option maxRecDepth 100000 in
theorem mlRX10_329 : ml_ok RX10 329 yX10_slips := Or.inl (gd4 (i := 54) rfl rfl)
set_option maxRecDepth 100000 in
theorem mlRX10_332 : ml_ok RX10 332 yX10_safe := Or.inl (gd4 (i := 55) rfl rfl)
set_option maxRecDepth 100000 in
theorem mlRX10_335 : ml_ok RX10 335 yX10_write := Or.inl (gd4 (i := 56) rfl rfl)
set_option maxRecDepth 100000 in
theorem mlRX10_338 : ml_ok RX10 338 yX10_few := Or.inl (gd4 (i := 57) rfl rfl)
set_option maxRecDepth 100000 in
theorem mlRX10_341 : ml_ok RX10 341 yX10_anew := Or.inl (gd4 (i := 58) rfl rfl)
set_option maxRecDepth 100000 in
theorem mlRX10_344 : ml_ok RX10 344 yX10_joint := Or.inl (gd4 (i := 59) rfl rfl)
set_option maxRecDepth 100000 in
theorem mlRX10_347 : ml_ok RX10 347 yX10_evening := Or.inl (gd4 (i := 60) rfl rfl)
set_option maxRecDepth 100000 in
theorem mlRX10_350 : ml_ok RX10 350 yX10_prime := Or.inl (gd4 (i := 61) rfl rfl)
set_option maxRecDepth 100000 in
theorem mlRX10_353 : ml_ok RX10 353 yX10_worth := Or.inl (gd4 (i := 62) rfl rfl)
set_option maxRecDepth 100000 in
theorem mlRX10_356 : ml_ok RX10 356 yX10_look := Or.inl (gd4 (i := 63) rfl rfl)
set_option maxRecDepth 100000 in
theorem mlRX10_359 : ml_ok RX10 359 yX10_wrong := Or.inl (gd4 (i := 64) rfl rfl)
set_option maxRecDepth 100000 in
theorem mlRX10_362 : ml_ok RX10 362 yX10_blame := Or.inl (gd4 (i := 65) rfl rfl)
set_option maxRecDepth 100000 in
theorem mlRX10_365 : ml_ok RX10 365 yX10_night := Or.inl (gd4 (i := 66) rfl rfl)
set_option maxRecDepth 100000 in
theorem flRX11_7 : fl_ok RX11 7 11 0 := ⟨RX11, TX11, 36, rfl, by decide, giX11, Or.inl (gd4 (i := 73) rfl rfl)⟩
set_option maxRecDepth 100000 in
theorem flRX11_93 : fl_ok RX11 93 11 1 := ⟨RX11, TX11, 36, rfl, by decide, giX11, Or.inl (gd4 (i := 74) rfl rfl)⟩
set_option maxRecDepth 100000 in
theorem fpRX11_93 : fp_ok RX11 93 11 1 .int := ⟨RX11, TX11, 36, tyX11, rfl, by decide, giX11, Or.inl (gd4 (i := 74) rfl rfl), tyX11_ok, nmX11, rfl, by decide +kernel⟩
set_option maxRecDepth 100000 in
theorem flRX11_97 : fl_ok RX11 97 11 2 := ⟨RX11, TX11, 36, rfl, by decide, giX11, Or.inl (gd4 (i := 75) rfl rfl)⟩
set_option maxRecDepth 100000 in
theorem fpRX11_97 : fp_ok RX11 97 11 2 .int := ⟨RX11, TX11, 36, tyX11, rfl, by decide, giX11, Or.inl (gd4 (i := 75) rfl rfl), tyX11_ok, nmX11, rfl, by decide +kernel⟩
set_option maxRecDepth 100000 in
theorem flRX11_13 : fl_ok RX11 13 11 3 := ⟨RX11, TX11, 36, rfl, by decide, giX11, Or.inl (gd4 (i := 76) rfl rfl)⟩
set_option maxRecDepth 100000 in
theorem flRX11_16 : fl_ok RX11 16 11 4 := ⟨RX11, TX11, 36, rfl, by decide, giX11, Or.inl (gd4 (i := 77) rfl rfl)⟩
set_option maxRecDepth 100000 in
theorem flRX11_19 : fl_ok RX11 19 11 5 := ⟨RX11, TX11, 36, rfl, by decide, giX11, Or.inl (gd4 (i := 78) rfl rfl)⟩
set_option maxRecDepth 100000 in
theorem flRX11_103 : fl_ok RX11 103 11 6 := ⟨RX11, TX11, 36, rfl, by decide, giX11, Or.inl (gd4 (i := 79) rfl rfl)⟩
set_option maxRecDepth 100000 in
theorem fpRX11_103 : fp_ok RX11 103 11 6 .int := ⟨RX11, TX11, 36, tyX11, rfl, by decide, giX11, Or.inl (gd4 (i := 79) rfl rfl), tyX11_ok, nmX11, rfl, by decide +kernel⟩
set_option maxRecDepth 100000 in
theorem flRX11_100 : fl_ok RX11 100 11 7 := ⟨RX11, TX11, 36, rfl, by decide, giX11, Or.inl (gd4 (i := 80) rfl rfl)⟩
set_option maxRecDepth 100000 in
theorem fpRX11_100 : fp_ok RX11 100 11 7 .int := ⟨RX11, TX11, 36, tyX11, rfl, by decide, giX11, Or.inl (gd4 (i := 80) rfl rfl), tyX11_ok, nmX11, rfl, by decide +kernel⟩
set_option maxRecDepth 100000 in
theorem flRX11_22 : fl_ok RX11 22 11 8 := ⟨RX11, TX11, 36, rfl, by decide, giX11, Or.inl (gd4 (i := 81) rfl rfl)⟩
set_option maxRecDepth 100000 in
theorem flRX11_25 : fl_ok RX11 25 11 9 := ⟨RX11, TX11, 36, rfl, by decide, giX11, Or.inl (gd4 (i := 82) rfl rfl)⟩
set_option maxRecDepth 100000 in
theorem flRX11_28 : fl_ok RX11 28 11 10 := ⟨RX11, TX11, 36, rfl, by decide, giX11, Or.inl (gd4 (i := 83) rfl rfl)⟩
set_option maxRecDepth 100000 in
theorem flRX11_31 : fl_ok RX11 31 11 11 := ⟨RX11, TX11, 36, rfl, by decide, giX11, Or.inl (gd4 (i := 84) rfl rfl)⟩
set_option maxRecDepth 100000 in
theorem flRX11_141 : fl_ok RX11 141 11 12 := ⟨RX11, TX11, 36, rfl, by decide, giX11, Or.inl (gd4 (i := 85) rfl rfl)⟩
set_option maxRecDepth 100000 in
theorem fpRX11_141 : fp_ok RX11 141 11 12 .int := ⟨RX11, TX11, 36, tyX11, rfl, by decide, giX11, Or.inl (gd4 (i := 85) rfl rfl), tyX11_ok, nmX11, rfl, by decide +kernel⟩
set_option maxRecDepth 100000 in
theorem flRX11_34 : fl_ok RX11 34 11 13 := ⟨RX11, TX11, 36, rfl, by decide, giX11, Or.inl (gd4 (i := 86) rfl rfl)⟩
set_option maxRecDepth 100000 in
theorem flRX11_260 : fl_ok RX11 260 11 14 := ⟨RX11, TX11, 36, rfl, by decide, giX11, Or.inl (gd4 (i := 87) rfl rfl)⟩
set_option maxRecDepth 100000 in
theorem fpRX11_260 : fp_ok RX11 260 11 14 .int := ⟨RX11, TX11, 36, tyX11, rfl, by decide, giX11, Or.inl (gd4 (i := 87) rfl rfl), tyX11_ok, nmX11, rfl, by decide +kernel⟩
set_option maxRecDepth 100000 in
theorem flRX11_144 : fl_ok RX11 144 11 15 := ⟨RX11, TX11, 36, rfl, by decide, giX11, Or.inl (gd4 (i := 88) rfl rfl)⟩
set_option maxRecDepth 100000 in
theorem fpRX11_144 : fp_ok RX11 144 11 15 .int := ⟨RX11, TX11, 36, tyX11, rfl, by decide, giX11, Or.inl (gd4 (i := 88) rfl rfl), tyX11_ok, nmX11, rfl, by decide +kernel⟩
set_option maxRecDepth 100000 in
theorem flRX11_37 : fl_ok RX11 37 11 16 := ⟨RX11, TX11, 36, rfl, by decide, giX11, Or.inl (gd4 (i := 89) rfl rfl)⟩
set_option maxRecDepth 100000 in
theorem flRX11_40 : fl_ok RX11 40 11 17 := ⟨RX11, TX11, 36, rfl, by decide, giX11, Or.inl (gd4 (i := 90) rfl rfl)⟩
set_option maxRecDepth 100000 in
theorem flRX11_43 : fl_ok RX11 43 11 18 := ⟨RX11, TX11, 36, rfl, by decide, giX11, Or.inl (gd4 (i := 91) rfl rfl)⟩
set_option maxRecDepth 100000 in
theorem flRX11_46 : fl_ok RX11 46 11 19 := ⟨RX11, TX11, 36, rfl, by decide, giX11, Or.inl (gd4 (i := 92) rfl rfl)⟩
set_option maxRecDepth 100000 in
theorem flRX11_50 : fl_ok RX11 50 11 20 := ⟨RX11, TX11, 36, rfl, by decide, giX11, Or.inl (gd4 (i := 93) rfl rfl)⟩
set_option maxRecDepth 100000 in
theorem flRX11_53 : fl_ok RX11 53 11 21 := ⟨RX11, TX11, 36, rfl, by decide, giX11, Or.inl (gd4 (i := 94) rfl rfl)⟩
set_option maxRecDepth 100000 in
theorem flRX11_153 : fl_ok RX11 153 11 22 := ⟨RX11, TX11, 36, rfl, by decide, giX11, Or.inl (gd4 (i := 95) rfl rfl)⟩
set_option maxRecDepth 100000 in
theorem fpRX11_153 : fp_ok RX11 153 11 22 .long := ⟨RX11, TX11, 36, tyX11, rfl, by decide, giX11, Or.inl (gd4 (i := 95) rfl rfl), tyX11_ok, nmX11, rfl, by decide +kernel⟩
set_option maxRecDepth 100000 in
theorem flRX11_56 : fl_ok RX11 56 11 23 := ⟨RX11, TX11, 36, rfl, by decide, giX11, Or.inl (gd4 (i := 96) rfl rfl)⟩
set_option maxRecDepth 100000 in
theorem flRX11_59 : fl_ok RX11 59 11 24 := ⟨RX11, TX11, 36, rfl, by decide, giX11, Or.inl (gd4 (i := 97) rfl rfl)⟩
set_option maxRecDepth 100000 in
theorem flRX11_193 : fl_ok RX11 193 11 25 := ⟨RX11, TX11, 36, rfl, by decide, giX11, Or.inl (gd4 (i := 98) rfl rfl)⟩
set_option maxRecDepth 100000 in
theorem fpRX11_193 : fp_ok RX11 193 11 25 .long := ⟨RX11, TX11, 36, tyX11, rfl, by decide, giX11, Or.inl (gd4 (i := 98) rfl rfl), tyX11_ok, nmX11, rfl, by decide +kernel⟩
set_option maxRecDepth 100000 in
theorem flRX11_248 : fl_ok RX11 248 11 26 := ⟨RX11, TX11, 36, rfl, by decide, giX11, Or.inl (gd4 (i := 99) rfl rfl)⟩
set_option maxRecDepth 100000 in
theorem fpRX11_248 : fp_ok RX11 248 11 26 .int := ⟨RX11, TX11, 36, tyX11, rfl, by decide, giX11, Or.inl (gd4 (i := 99) rfl rfl), tyX11_ok, nmX11, rfl, by decide +kernel⟩
set_option maxRecDepth 100000 in
theorem flRX11_62 : fl_ok RX11 62 11 27 := ⟨RX11, TX11, 36, rfl, by decide, giX11, Or.inl (gd4 (i := 100) rfl rfl)⟩
set_option maxRecDepth 100000 in
theorem flRX11_65 : fl_ok RX11 65 11 28 := ⟨RX11, TX11, 36, rfl, by decide, giX11, Or.inl (gd4 (i := 101) rfl rfl)⟩
set_option maxRecDepth 100000 in
theorem flRX11_68 : fl_ok RX11 68 11 29 := ⟨RX11, TX11, 36, rfl, by decide, giX11, Or.inl (gd4 (i := 102) rfl rfl)⟩
set_option maxRecDepth 100000 in
theorem flRX11_71 : fl_ok RX11 71 11 30 := ⟨RX11, TX11, 36, rfl, by decide, giX11, Or.inl (gd4 (i := 103) rfl rfl)⟩
set_option maxRecDepth 100000 in
theorem flRX11_75 : fl_ok RX11 75 11 31 := ⟨RX11, TX11, 36, rfl, by decide, giX11, Or.inl (gd4 (i := 104) rfl rfl)⟩
set_option maxRecDepth 100000 in
theorem flRX11_78 : fl_ok RX11 78 11 32 := ⟨RX11, TX11, 36, rfl, by decide, giX11, Or.inl (gd4 (i := 105) rfl rfl)⟩
set_option maxRecDepth 100000 in
theorem flRX11_81 : fl_ok RX11 81 11 33 := ⟨RX11, TX11, 36, rfl, by decide, giX11, Or.inl (gd4 (i := 106) rfl rfl)⟩
set_option maxRecDepth 100000 in
theorem flRX11_84 : fl_ok RX11 84 11 34 := ⟨RX11, TX11, 36, rfl, by decide, giX11, Or.inl (gd4 (i := 107) rfl rfl)⟩
set_option maxRecDepth 100000 in
theorem flRX11_273 : fl_ok RX11 273 11 35 := ⟨RX11, TX11, 36, rfl, by decide, giX11, Or.inl (gd4 (i := 108) rfl rfl)⟩
set_option maxRecDepth 100000 in
theorem fpRX11_273 : fp_ok RX11 273 11 35 .int := ⟨RX11, TX11, 36, tyX11, rfl, by decide, giX11, Or.inl (gd4 (i := 108) rfl rfl), tyX11_ok, nmX11, rfl, by decide +kernel⟩
set_option maxRecDepth 100000 in
theorem mlRL_17 : ml_ok RL 17 yX11_type := Or.inl (gd4 (i := 183) rfl rfl)
set_option maxRecDepth 100000 in
theorem mlRX11_89 : ml_ok RX11 89 yX11_in := Or.inl (gd4 (i := 187) rfl rfl)
set_option maxRecDepth 100000 in
theorem mlRL_22 : ml_ok RL 22 yX11_wipe := Or.inl (gd4 (i := 190) rfl rfl)
set_option maxRecDepth 100000 in
theorem mlRL_26 : ml_ok RL 26 yX11_undo := Or.inl (gd4 (i := 194) rfl rfl)
set_option maxRecDepth 100000 in
theorem mlRL_30 : ml_ok RL 30 yX11_fault := Or.inl (gd4 (i := 198) rfl rfl)
set_option maxRecDepth 100000 in
theorem mlRX11_118 : ml_ok RX11 118 yX11_faultNow := Or.inl (gd4 (i := 202) rfl rfl)
set_option maxRecDepth 100000 in
theorem mlRX11_114 : ml_ok RX11 114 yX11_readsPiece := Or.inl (gd4 (i := 206) rfl rfl)
set_option maxRecDepth 100000 in
theorem mlRX11_106 : ml_ok RX11 106 yX11_figureAt := Or.inl (gd4 (i := 210) rfl rfl)
set_option maxRecDepth 100000 in
theorem mlRX11_110 : ml_ok RX11 110 yX11_adds := Or.inl (gd4 (i := 214) rfl rfl)
set_option maxRecDepth 100000 in
theorem mlRL_35 : ml_ok RL 35 yX11_bar := Or.inl (gd4 (i := 218) rfl rfl)
set_option maxRecDepth 100000 in
theorem mlRX11_124 : ml_ok RX11 124 yX11_isBar := Or.inl (gd4 (i := 222) rfl rfl)
set_option maxRecDepth 100000 in
theorem mlRX11_121 : ml_ok RX11 121 yX11_reads := Or.inl (gd4 (i := 226) rfl rfl)
set_option maxRecDepth 100000 in
theorem mlRX11_128 : ml_ok RX11 128 yX11_barOf := Or.inl (gd4 (i := 230) rfl rfl)
set_option maxRecDepth 100000 in
theorem mlRL_40 : ml_ok RL 40 yX11_odds := Or.inl (gd4 (i := 234) rfl rfl)
set_option maxRecDepth 100000 in
theorem mlRL_44 : ml_ok RL 44 yX11_set := Or.inl (gd4 (i := 238) rfl rfl)
set_option maxRecDepth 100000 in
theorem mlRL_48 : ml_ok RL 48 yX11_read := Or.inl (gd5 (i := 2) rfl rfl)
set_option maxRecDepth 100000 in
theorem mlRX11_132 : ml_ok RX11 132 yX11_isSheet := Or.inl (gd5 (i := 6) rfl rfl)
set_option maxRecDepth 100000 in
theorem mlRX11_135 : ml_ok RX11 135 yX11_meets := Or.inl (gd5 (i := 9) rfl rfl)
set_option maxRecDepth 100000 in
theorem mlRX11_138 : ml_ok RX11 138 yX11_isNumber := Or.inl (gd5 (i := 13) rfl rfl)
set_option maxRecDepth 100000 in
theorem mlRL_52 : ml_ok RL 52 yX11_hear := Or.inl (gd5 (i := 16) rfl rfl)
set_option maxRecDepth 100000 in
theorem mlRX11_147 : ml_ok RX11 147 yX11_notesMore := Or.inl (gd5 (i := 20) rfl rfl)
set_option maxRecDepth 100000 in
theorem mlRL_56 : ml_ok RL 56 yX11_shown := Or.inl (gd5 (i := 24) rfl rfl)
set_option maxRecDepth 100000 in
theorem mlRL_60 : ml_ok RL 60 yX11_forget := Or.inl (gd5 (i := 28) rfl rfl)
set_option maxRecDepth 100000 in
theorem mlRL_65 : ml_ok RL 65 yX11_where := Or.inl (gd5 (i := 32) rfl rfl)
set_option maxRecDepth 100000 in
theorem mlRX11_176 : ml_ok RX11 176 yX11_whereOf := Or.inl (gd5 (i := 36) rfl rfl)
set_option maxRecDepth 100000 in
theorem mlRX11_164 : ml_ok RX11 164 yX11_findsWhere := Or.inl (gd5 (i := 40) rfl rfl)
set_option maxRecDepth 100000 in
theorem kcRX11_151 : Cond.constantLong RX11 151 (16) ∈ lw_gd := gd5 (i := 44) rfl rfl
set_option maxRecDepth 100000 in
theorem mlRX11_157 : ml_ok RX11 157 yX11_saysOdds := Or.inl (gd5 (i := 45) rfl rfl)
set_option maxRecDepth 100000 in
theorem mlRX11_160 : ml_ok RX11 160 yX11_notesWeigh := Or.inl (gd5 (i := 49) rfl rfl)
set_option maxRecDepth 100000 in
theorem mlRX11_168 : ml_ok RX11 168 yX11_no := Or.inl (gd5 (i := 53) rfl rfl)
set_option maxRecDepth 100000 in
theorem kcRX11_87 : Cond.constantLong RX11 87 (-9223372036854775808) ∈ lw_gd := gd5 (i := 56) rfl rfl
set_option maxRecDepth 100000 in
theorem mlRX11_172 : ml_ok RX11 172 yX11_lowest := Or.inl (gd5 (i := 57) rfl rfl)
set_option maxRecDepth 100000 in
theorem mlRL_69 : ml_ok RL 69 yX11_likeliest := Or.inl (gd5 (i := 60) rfl rfl)
set_option maxRecDepth 100000 in
theorem mlRX11_180 : ml_ok RX11 180 yX11_likeliestOf := Or.inl (gd5 (i := 64) rfl rfl)
set_option maxRecDepth 100000 in
theorem mlRL_74 : ml_ok RL 74 yX11_strike := Or.inl (gd5 (i := 68) rfl rfl)
set_option maxRecDepth 100000 in
theorem mlRX11_183 : ml_ok RX11 183 yX11_strikeOf := Or.inl (gd5 (i := 72) rfl rfl)
set_option maxRecDepth 100000 in
theorem mlRL_78 : ml_ok RL 78 yX11_line := Or.inl (gd5 (i := 76) rfl rfl)
set_option maxRecDepth 100000 in
theorem mlRX11_190 : ml_ok RX11 190 yX11_lineNow := Or.inl (gd5 (i := 80) rfl rfl)
set_option maxRecDepth 100000 in
theorem mlRX11_186 : ml_ok RX11 186 yX11_isLess := Or.inl (gd5 (i := 84) rfl rfl)
set_option maxRecDepth 100000 in
theorem mlRL_82 : ml_ok RL 82 yX11_slips := Or.inl (gd5 (i := 87) rfl rfl)
set_option maxRecDepth 100000 in
theorem mlRX11_210 : ml_ok RX11 210 yX11_slipsOf := Or.inl (gd5 (i := 91) rfl rfl)
set_option maxRecDepth 100000 in
theorem mlRX11_206 : ml_ok RX11 206 yX11_findsSlips := Or.inl (gd5 (i := 95) rfl rfl)
set_option maxRecDepth 100000 in
theorem mlRX11_196 : ml_ok RX11 196 yX11_slipLoose := Or.inl (gd5 (i := 99) rfl rfl)
set_option maxRecDepth 100000 in
theorem mlRX11_203 : ml_ok RX11 203 yX11_missedIn := Or.inl (gd5 (i := 103) rfl rfl)
set_option maxRecDepth 100000 in
theorem mlRX11_199 : ml_ok RX11 199 yX11_isIn := Or.inl (gd5 (i := 107) rfl rfl)
set_option maxRecDepth 100000 in
theorem mlRL_86 : ml_ok RL 86 yX11_safe := Or.inl (gd5 (i := 110) rfl rfl)
set_option maxRecDepth 100000 in
theorem mlRX11_219 : ml_ok RX11 219 yX11_isSome := Or.inl (gd5 (i := 114) rfl rfl)
set_option maxRecDepth 100000 in
theorem mlRX11_213 : ml_ok RX11 213 yX11_ones := Or.inl (gd5 (i := 118) rfl rfl)
set_option maxRecDepth 100000 in
theorem mlRX11_222 : ml_ok RX11 222 yX11_safeOf := Or.inl (gd5 (i := 121) rfl rfl)
set_option maxRecDepth 100000 in
theorem mlRX11_216 : ml_ok RX11 216 yX11_safeBy := Or.inl (gd5 (i := 125) rfl rfl)
set_option maxRecDepth 100000 in
theorem mlRL_90 : ml_ok RL 90 yX11_write := Or.inl (gd5 (i := 129) rfl rfl)
set_option maxRecDepth 100000 in
theorem mlRX11_227 : ml_ok RX11 227 yX11_cuesNow := Or.inl (gd5 (i := 133) rfl rfl)
set_option maxRecDepth 100000 in
theorem mlRX11_230 : ml_ok RX11 230 yX11_writeOf := Or.inl (gd5 (i := 137) rfl rfl)
set_option maxRecDepth 100000 in
theorem kcRX11_225 : Cond.constantLong RX11 225 (-1) ∈ lw_gd := gd5 (i := 141) rfl rfl
set_option maxRecDepth 100000 in
theorem mlRL_94 : ml_ok RL 94 yX11_few := Or.inl (gd5 (i := 142) rfl rfl)
set_option maxRecDepth 100000 in
theorem mlRX11_233 : ml_ok RX11 233 yX11_fewOf := Or.inl (gd5 (i := 146) rfl rfl)
set_option maxRecDepth 100000 in
theorem mlRL_98 : ml_ok RL 98 yX11_anew := Or.inl (gd5 (i := 150) rfl rfl)
set_option maxRecDepth 100000 in
theorem mlRX11_236 : ml_ok RX11 236 yX11_anewOf := Or.inl (gd5 (i := 154) rfl rfl)
set_option maxRecDepth 100000 in
theorem mlRL_102 : ml_ok RL 102 yX11_joint := Or.inl (gd5 (i := 158) rfl rfl)
set_option maxRecDepth 100000 in
theorem mlRL_106 : ml_ok RL 106 yX11_evening := Or.inl (gd5 (i := 162) rfl rfl)
set_option maxRecDepth 100000 in
theorem mlRX11_242 : ml_ok RX11 242 yX11_eveningOf := Or.inl (gd5 (i := 166) rfl rfl)
set_option maxRecDepth 100000 in
theorem mlRX11_239 : ml_ok RX11 239 yX11_eveningBy := Or.inl (gd5 (i := 170) rfl rfl)
set_option maxRecDepth 100000 in
theorem mlRL_110 : ml_ok RL 110 yX11_prime := Or.inl (gd5 (i := 174) rfl rfl)
set_option maxRecDepth 100000 in
theorem mlRX11_245 : ml_ok RX11 245 yX11_primeOf := Or.inl (gd5 (i := 178) rfl rfl)
set_option maxRecDepth 100000 in
theorem mlRL_114 : ml_ok RL 114 yX11_player := Or.inl (gd5 (i := 182) rfl rfl)
set_option maxRecDepth 100000 in
theorem mlRL_118 : ml_ok RL 118 yX11_leave := Or.inl (gd5 (i := 186) rfl rfl)
set_option maxRecDepth 100000 in
theorem mlRL_122 : ml_ok RL 122 yX11_worth := Or.inl (gd5 (i := 190) rfl rfl)
set_option maxRecDepth 100000 in
theorem mlRX11_254 : ml_ok RX11 254 yX11_worthOf := Or.inl (gd5 (i := 194) rfl rfl)
set_option maxRecDepth 100000 in
theorem mlRX11_251 : ml_ok RX11 251 yX11_looksBy := Or.inl (gd5 (i := 198) rfl rfl)
set_option maxRecDepth 100000 in
theorem mlRL_126 : ml_ok RL 126 yX11_look := Or.inl (gd5 (i := 202) rfl rfl)
set_option maxRecDepth 100000 in
theorem mlRX11_257 : ml_ok RX11 257 yX11_lookOf := Or.inl (gd5 (i := 206) rfl rfl)
set_option maxRecDepth 100000 in
theorem mlRL_130 : ml_ok RL 130 yX11_from := Or.inl (gd5 (i := 210) rfl rfl)
set_option maxRecDepth 100000 in
theorem mlRL_134 : ml_ok RL 134 yX11_said := Or.inl (gd5 (i := 214) rfl rfl)
set_option maxRecDepth 100000 in
theorem mlRL_138 : ml_ok RL 138 yX11_wrong := Or.inl (gd5 (i := 218) rfl rfl)
set_option maxRecDepth 100000 in
theorem mlRX11_263 : ml_ok RX11 263 yX11_wrongOf := Or.inl (gd5 (i := 222) rfl rfl)
set_option maxRecDepth 100000 in
theorem mlRL_142 : ml_ok RL 142 yX11_blame := Or.inl (gd5 (i := 226) rfl rfl)
set_option maxRecDepth 100000 in
theorem mlRX11_266 : ml_ok RX11 266 yX11_blameNow := Or.inl (gd5 (i := 230) rfl rfl)
set_option maxRecDepth 100000 in
theorem mlRL_146 : ml_ok RL 146 yX11_night := Or.inl (gd5 (i := 234) rfl rfl)
set_option maxRecDepth 100000 in
theorem mlRX11_270 : ml_ok RX11 270 yX11_nightOf := Or.inl (gd5 (i := 238) rfl rfl)
set_option maxRecDepth 100000 in
theorem kcRX11_269 : Cond.constant RX11 269 (1103515245) ∈ lw_gd := gd6 (i := 2) rfl rfl
set_option maxRecDepth 100000 in
theorem mlRL_150 : ml_ok RL 150 yX11_sheet := Or.inl (gd6 (i := 3) rfl rfl)
set_option maxRecDepth 100000 in
theorem mlRL_154 : ml_ok RL 154 yX11_lose := Or.inl (gd6 (i := 7) rfl rfl)
set_option maxRecDepth 100000 in
theorem mlRL_159 : ml_ok RL 159 yX11_put := Or.inl (gd6 (i := 11) rfl rfl)
set_option maxRecDepth 100000 in
theorem mlRX11_276 : ml_ok RX11 276 yX11_lacks := Or.inl (gd6 (i := 15) rfl rfl)
set_option maxRecDepth 100000 in
theorem mlRX11_279 : ml_ok RX11 279 yX11_keep := Or.inl (gd6 (i := 19) rfl rfl)
set_option maxRecDepth 100000 in
theorem mlRL_163 : ml_ok RL 163 yX11_get := Or.inl (gd6 (i := 23) rfl rfl)
set_option maxRecDepth 100000 in
theorem kcRX11_282 : Cond.constant RX11 282 (-2147483648) ∈ lw_gd := gd6 (i := 27) rfl rfl
set_option maxRecDepth 100000 in
theorem mlRL_168 : ml_ok RL 168 yX11_copy := Or.inl (gd6 (i := 28) rfl rfl)
set_option maxRecDepth 100000 in
theorem mlRL_172 : ml_ok RL 172 yX11_tell := Or.inl (gd6 (i := 32) rfl rfl)
set_option maxRecDepth 100000 in
theorem mlRL_176 : ml_ok RL 176 yX11_count := Or.inl (gd6 (i := 36) rfl rfl)
set_option maxRecDepth 100000 in
theorem mlRX11_283 : ml_ok RX11 283 yX11_readsMany := Or.inl (gd6 (i := 40) rfl rfl)
set_option maxRecDepth 100000 in
theorem mlRL_181 : ml_ok RL 181 yX11_digest := Or.inl (gd6 (i := 44) rfl rfl)
set_option maxRecDepth 100000 in
theorem kcRX11_291 : Cond.constantLong RX11 291 (17) ∈ lw_gd := gd6 (i := 48) rfl rfl
set_option maxRecDepth 100000 in
theorem kcRX11_286 : Cond.constantLong RX11 286 (31) ∈ lw_gd := gd6 (i := 49) rfl rfl
set_option maxRecDepth 100000 in
theorem mlRX11_293 : ml_ok RX11 293 yX11_count := Or.inl (gd6 (i := 50) rfl rfl)
set_option maxRecDepth 100000 in
theorem mlRX11_296 : ml_ok RX11 296 yX11_numberDigest := Or.inl (gd6 (i := 51) rfl rfl)
set_option maxRecDepth 100000 in
theorem mlRX11_288 : ml_ok RX11 288 yX11_where := Or.inl (gd6 (i := 55) rfl rfl)
set_option maxRecDepth 100000 in
theorem mlRX11_300 : ml_ok RX11 300 yX11_slips := Or.inl (gd6 (i := 56) rfl rfl)
set_option maxRecDepth 100000 in
theorem mlRX11_303 : ml_ok RX11 303 yX11_safe := Or.inl (gd6 (i := 57) rfl rfl)
set_option maxRecDepth 100000 in
theorem mlRX11_306 : ml_ok RX11 306 yX11_write := Or.inl (gd6 (i := 58) rfl rfl)
set_option maxRecDepth 100000 in
theorem mlRX11_309 : ml_ok RX11 309 yX11_joint := Or.inl (gd6 (i := 59) rfl rfl)
