/-! ===== the words of the tables that the methods need, by their places ===== -/
theorem kw0 : Cond.selects "LiftedSystems" yX11_toldOfTable yX11_toldOfTable ∈ kTs := kTs_in (List.mem_of_getElem? (i := 0) (by decide +kernel)) rfl
theorem kw1 : Cond.selects "LiftedSystems$Clearing" yX1_clearRow yX1_clearRow ∈ kTs := kTs_in (List.mem_of_getElem? (i := 1) (by decide +kernel)) rfl
theorem kw2 : Cond.selects "LiftedSystems$Residues" yX8_oneOver yX8_oneOver ∈ kTs := kTs_in (List.mem_of_getElem? (i := 2) (by decide +kernel)) rfl
theorem kw3 : Cond.selects "LiftedSystems$Clearing" yX1_isBroken yX1_isBroken ∈ kTs := kTs_in (List.mem_of_getElem? (i := 3) (by decide +kernel)) rfl
theorem kw4 : Cond.selects "LiftedSystems" yX11_toldByPrime yX11_toldByPrime ∈ kTs := kTs_in (List.mem_of_getElem? (i := 4) (by decide +kernel)) rfl
theorem kw5 : Cond.selects "LiftedSystems" yX11_primeIsBad yX11_primeIsBad ∈ kTs := kTs_in (List.mem_of_getElem? (i := 5) (by decide +kernel)) rfl
theorem kw6 : Cond.selects "LiftedSystems" yX11_toldOfGuesses yX11_toldOfGuesses ∈ kTs := kTs_in (List.mem_of_getElem? (i := 6) (by decide +kernel)) rfl
theorem kw7 : Cond.selects "LiftedSystems" yX11_sure yX11_sure ∈ kTs := kTs_in (List.mem_of_getElem? (i := 7) (by decide +kernel)) rfl
theorem kw8 : Cond.selects "LiftedSystems$Walk" yX10_guessAll yX10_guessAll ∈ kTs := kTs_in (List.mem_of_getElem? (i := 8) (by decide +kernel)) rfl
theorem kw9 : Cond.selects "LiftedSystems$Clearing" yX1_rowLedBy yX1_rowLedBy ∈ kTs := kTs_in (List.mem_of_getElem? (i := 9) (by decide +kernel)) rfl
theorem kw10 : Cond.selects "LiftedSystems" yX11_firstWrong yX11_firstWrong ∈ kTs := kTs_in (List.mem_of_getElem? (i := 10) (by decide +kernel)) rfl
theorem kw11 : Cond.selects "LiftedSystems" yX11_lift yX11_lift ∈ kTs := kTs_in (List.mem_of_getElem? (i := 11) (by decide +kernel)) rfl
theorem kw12 : Cond.selects "LiftedSystems" yX11_whyNoValue yX11_whyNoValue ∈ kTs := kTs_in (List.mem_of_getElem? (i := 12) (by decide +kernel)) rfl
theorem kw13 : Cond.selects "LiftedSystems" yX11_change yX11_change ∈ kTs := kTs_in (List.mem_of_getElem? (i := 13) (by decide +kernel)) rfl
theorem kw14 : Cond.selects "LiftedSystems" yX11_areNotTwoRows yX11_areNotTwoRows ∈ kTs := kTs_in (List.mem_of_getElem? (i := 14) (by decide +kernel)) rfl
theorem kw15 : Cond.selects "LiftedSystems" yX11_rank yX11_rank ∈ kTs := kTs_in (List.mem_of_getElem? (i := 15) (by decide +kernel)) rfl
theorem kw16 : Cond.selects "LiftedSystems" yX11_changeByDraws yX11_changeByDraws ∈ kTs := kTs_in (List.mem_of_getElem? (i := 16) (by decide +kernel)) rfl
theorem kw17 : Cond.selects "LiftedSystems" yX11_imageOf yX11_imageOf ∈ kTs := kTs_in (List.mem_of_getElem? (i := 17) (by decide +kernel)) rfl
theorem kw18 : Cond.selects "LiftedSystemsModel" yX12_layOnes yX12_layOnes ∈ kTs := kTs_in (List.mem_of_getElem? (i := 18) (by decide +kernel)) rfl
theorem kw19 : Cond.selects "LiftedSystemsModel" yX12_n yX12_n ∈ kTs := kTs_in (List.mem_of_getElem? (i := 19) (by decide +kernel)) rfl
theorem kw20 : Cond.selects "LiftedSystemsModel" yX12_p yX12_p ∈ kTs := kTs_in (List.mem_of_getElem? (i := 20) (by decide +kernel)) rfl
theorem kw21 : Cond.selects "LiftedSystemsModel" yX12_determinant yX12_determinant ∈ kTs := kTs_in (List.mem_of_getElem? (i := 21) (by decide +kernel)) rfl
theorem kw22 : Cond.selects "LiftedSystemsModel" yX12_allColumns yX12_allColumns ∈ kTs := kTs_in (List.mem_of_getElem? (i := 22) (by decide +kernel)) rfl
theorem kw23 : Cond.selects "LiftedSystemsModel" yX12_minor yX12_minor ∈ kTs := kTs_in (List.mem_of_getElem? (i := 23) (by decide +kernel)) rfl
theorem kw24 : Cond.selects "LiftedSystemsModel" yX12_det yX12_det ∈ kTs := kTs_in (List.mem_of_getElem? (i := 24) (by decide +kernel)) rfl
theorem kw25 : Cond.selects "LiftedSystemsModel" yX12_e yX12_e ∈ kTs := kTs_in (List.mem_of_getElem? (i := 25) (by decide +kernel)) rfl
theorem kw26 : Cond.selects "LiftedSystemsModel" yX12_cell yX12_cell ∈ kTs := kTs_in (List.mem_of_getElem? (i := 26) (by decide +kernel)) rfl
theorem kw27 : Cond.selects "LiftedSystemsModel" yX12_two yX12_two ∈ kTs := kTs_in (List.mem_of_getElem? (i := 27) (by decide +kernel)) rfl
theorem kw28 : Cond.selects "LiftedSystemsModel" yX12_three yX12_three ∈ kTs := kTs_in (List.mem_of_getElem? (i := 28) (by decide +kernel)) rfl
theorem kw29 : Cond.selects "LiftedSystemsModel" yX12_rank yX12_rank ∈ kTs := kTs_in (List.mem_of_getElem? (i := 29) (by decide +kernel)) rfl
theorem kw30 : Cond.selects "LiftedSystemsModel" yX12_rankOf yX12_rankOf ∈ kTs := kTs_in (List.mem_of_getElem? (i := 30) (by decide +kernel)) rfl
theorem kw31 : Cond.selects "LiftedSystemsModel" yX12_wideRank yX12_wideRank ∈ kTs := kTs_in (List.mem_of_getElem? (i := 31) (by decide +kernel)) rfl
theorem kw32 : Cond.selects "LiftedSystemsModel" yX12_kind yX12_kind ∈ kTs := kTs_in (List.mem_of_getElem? (i := 32) (by decide +kernel)) rfl
theorem kw33 : Cond.selects "LiftedSystemsModel" yX12_leading yX12_leading ∈ kTs := kTs_in (List.mem_of_getElem? (i := 33) (by decide +kernel)) rfl
theorem kw34 : Cond.selects "LiftedSystemsModel" yX12_broken yX12_broken ∈ kTs := kTs_in (List.mem_of_getElem? (i := 34) (by decide +kernel)) rfl
theorem kw35 : Cond.selects "LiftedSystemsModel" yX12_layShare yX12_layShare ∈ kTs := kTs_in (List.mem_of_getElem? (i := 35) (by decide +kernel)) rfl
theorem kw36 : Cond.selects "LiftedSystemsModel" yX12_rowsFor yX12_rowsFor ∈ kTs := kTs_in (List.mem_of_getElem? (i := 36) (by decide +kernel)) rfl
theorem kw37 : Cond.selects "LiftedSystemsModel" yX12_layFraction yX12_layFraction ∈ kTs := kTs_in (List.mem_of_getElem? (i := 37) (by decide +kernel)) rfl
theorem kw38 : Cond.selects "LiftedSystemsModel" yX12_toldOfPrime yX12_toldOfPrime ∈ kTs := kTs_in (List.mem_of_getElem? (i := 38) (by decide +kernel)) rfl
theorem kw39 : Cond.selects "LiftedSystemsModel" yX12_isBad yX12_isBad ∈ kTs := kTs_in (List.mem_of_getElem? (i := 39) (by decide +kernel)) rfl
theorem kw40 : Cond.selects "LiftedSystemsModel" yX12_badMany yX12_badMany ∈ kTs := kTs_in (List.mem_of_getElem? (i := 40) (by decide +kernel)) rfl
theorem kw41 : Cond.selects "LiftedSystemsModel" yX12_waysNow yX12_waysNow ∈ kTs := kTs_in (List.mem_of_getElem? (i := 41) (by decide +kernel)) rfl
theorem kw42 : Cond.selects "LiftedSystemsModel" yX12_sure yX12_sure ∈ kTs := kTs_in (List.mem_of_getElem? (i := 42) (by decide +kernel)) rfl
theorem kw43 : Cond.selects "LiftedSystemsModel" yX12_early yX12_early ∈ kTs := kTs_in (List.mem_of_getElem? (i := 43) (by decide +kernel)) rfl
theorem kw44 : Cond.selects "LiftedSystemsModel" yX12_allGuessed yX12_allGuessed ∈ kTs := kTs_in (List.mem_of_getElem? (i := 44) (by decide +kernel)) rfl
theorem kw45 : Cond.selects "LiftedSystemsModel" yX12_layGuess yX12_layGuess ∈ kTs := kTs_in (List.mem_of_getElem? (i := 45) (by decide +kernel)) rfl
theorem kw46 : Cond.selects "LiftedSystemsModel" yX12_firstDigits yX12_firstDigits ∈ kTs := kTs_in (List.mem_of_getElem? (i := 46) (by decide +kernel)) rfl
theorem kw47 : Cond.selects "LiftedSystemsModel" yX12_laySolution yX12_laySolution ∈ kTs := kTs_in (List.mem_of_getElem? (i := 47) (by decide +kernel)) rfl
theorem kw48 : Cond.selects "LiftedSystemsModel" yX12_tooSoon yX12_tooSoon ∈ kTs := kTs_in (List.mem_of_getElem? (i := 48) (by decide +kernel)) rfl
theorem kw49 : Cond.selects "LiftedSystemsModel" yX12_wrong yX12_wrong ∈ kTs := kTs_in (List.mem_of_getElem? (i := 49) (by decide +kernel)) rfl
theorem kw50 : Cond.selects "LiftedSystemsModel" yX12_isRow yX12_isRow ∈ kTs := kTs_in (List.mem_of_getElem? (i := 50) (by decide +kernel)) rfl
theorem kw51 : Cond.selects "LiftedSystemsModel" yX12_digitOf yX12_digitOf ∈ kTs := kTs_in (List.mem_of_getElem? (i := 51) (by decide +kernel)) rfl
theorem kw52 : Cond.selects "LiftedSystemsModel" yX12_layNothing yX12_layNothing ∈ kTs := kTs_in (List.mem_of_getElem? (i := 52) (by decide +kernel)) rfl
theorem kw53 : Cond.selects "LiftedSystemsModel" yX12_backOf yX12_backOf ∈ kTs := kTs_in (List.mem_of_getElem? (i := 53) (by decide +kernel)) rfl
theorem kw54 : Cond.selects "LiftedSystemsModel" yX12_restOf yX12_restOf ∈ kTs := kTs_in (List.mem_of_getElem? (i := 54) (by decide +kernel)) rfl
theorem kw55 : Cond.selects "LiftedSystemsModel" yX12_nearNow yX12_nearNow ∈ kTs := kTs_in (List.mem_of_getElem? (i := 55) (by decide +kernel)) rfl
theorem kw56 : Cond.selects "LiftedSystemsModel" yX12_layNear yX12_layNear ∈ kTs := kTs_in (List.mem_of_getElem? (i := 56) (by decide +kernel)) rfl
theorem kw57 : Cond.selects "LiftedSystemsModel" yX12_shorten yX12_shorten ∈ kTs := kTs_in (List.mem_of_getElem? (i := 57) (by decide +kernel)) rfl
theorem kw58 : Cond.selects "LiftedSystemsModel" yX12_shortNow yX12_shortNow ∈ kTs := kTs_in (List.mem_of_getElem? (i := 58) (by decide +kernel)) rfl
theorem kw59 : Cond.selects "LiftedSystemsModel" yX12_layShort yX12_layShort ∈ kTs := kTs_in (List.mem_of_getElem? (i := 59) (by decide +kernel)) rfl
theorem kw60 : Cond.selects "LiftedSystemsModel" yX12_round yX12_round ∈ kTs := kTs_in (List.mem_of_getElem? (i := 60) (by decide +kernel)) rfl
theorem kw61 : Cond.selects "LiftedSystemsModel" yX12_cutNow yX12_cutNow ∈ kTs := kTs_in (List.mem_of_getElem? (i := 61) (by decide +kernel)) rfl
theorem kw62 : Cond.selects "LiftedSystemsModel" yX12_remember yX12_remember ∈ kTs := kTs_in (List.mem_of_getElem? (i := 62) (by decide +kernel)) rfl
theorem kw63 : Cond.selects "LiftedSystemsModel" yX12_copyRow yX12_copyRow ∈ kTs := kTs_in (List.mem_of_getElem? (i := 63) (by decide +kernel)) rfl
theorem kw64 : Cond.selects "LiftedSystemsModel" yX12_set yX12_set ∈ kTs := kTs_in (List.mem_of_getElem? (i := 64) (by decide +kernel)) rfl
theorem kw65 : Cond.selects "LiftedSystemsModel" yX12_draw yX12_draw ∈ kTs := kTs_in (List.mem_of_getElem? (i := 65) (by decide +kernel)) rfl
theorem kw67 : Cond.initialized "LiftedSystems" ∈ kTs := kTs_in (List.mem_of_getElem? (i := 67) (by decide +kernel)) rfl
theorem kw68 : Cond.initialized "LiftedSystems$Equations" ∈ kTs := kTs_in (List.mem_of_getElem? (i := 68) (by decide +kernel)) rfl
theorem kw69 : Cond.initialized "LiftedSystems$Rows" ∈ kTs := kTs_in (List.mem_of_getElem? (i := 69) (by decide +kernel)) rfl
theorem kw70 : Cond.initialized "LiftedSystems$Clearing" ∈ kTs := kTs_in (List.mem_of_getElem? (i := 70) (by decide +kernel)) rfl
theorem kw71 : Cond.initialized "LiftedSystems$Residues" ∈ kTs := kTs_in (List.mem_of_getElem? (i := 71) (by decide +kernel)) rfl
theorem kw72 : Cond.initialized "LiftedSystems$Lifting" ∈ kTs := kTs_in (List.mem_of_getElem? (i := 72) (by decide +kernel)) rfl
theorem kw73 : Cond.initialized "LiftedSystems$Guess" ∈ kTs := kTs_in (List.mem_of_getElem? (i := 73) (by decide +kernel)) rfl
theorem kw74 : Cond.initialized "LiftedSystems$Walk" ∈ kTs := kTs_in (List.mem_of_getElem? (i := 74) (by decide +kernel)) rfl
theorem kw75 : Cond.initialized "LiftedSystems$History" ∈ kTs := kTs_in (List.mem_of_getElem? (i := 75) (by decide +kernel)) rfl
theorem kw76 : Cond.initialized "LiftedSystems$Book" ∈ kTs := kTs_in (List.mem_of_getElem? (i := 76) (by decide +kernel)) rfl
theorem kw77 : Cond.initialized "LiftedSystems$Draws" ∈ kTs := kTs_in (List.mem_of_getElem? (i := 77) (by decide +kernel)) rfl
theorem kw78 : Cond.initialized "LiftedSystems$Image" ∈ kTs := kTs_in (List.mem_of_getElem? (i := 78) (by decide +kernel)) rfl
theorem kw79 : Cond.initialized "LiftedSystemsModel" ∈ kTs := kTs_in (List.mem_of_getElem? (i := 79) (by decide +kernel)) rfl
theorem kw80 : Cond.initialized "java/lang/Math" ∈ kTs := kTs_in (List.mem_of_getElem? (i := 80) (by decide +kernel)) rfl
theorem kw81 : Cond.initialized "java/lang/System" ∈ kTs := kTs_in (List.mem_of_getElem? (i := 81) (by decide +kernel)) rfl
theorem kw97 : Cond.instanceMethod yX3_begin ∈ kTs := kTs_in (List.mem_of_getElem? (i := 97) (by decide +kernel)) rfl
theorem kw98 : Cond.selects "LiftedSystems$Equations" yX3_begin yX3_begin ∈ kTs := kTs_in (List.mem_of_getElem? (i := 98) (by decide +kernel)) rfl
theorem kw99 : Cond.code yX3_begin cX3_begin 4 none ∈ kTs := kTs_in (List.mem_of_getElem? (i := 99) (by decide +kernel)) rfl
theorem kw100 : Cond.methodLink "LiftedSystems$Equations" 26 yX3_set ∈ kTs := kTs_in (List.mem_of_getElem? (i := 100) (by decide +kernel)) rfl
theorem kw101 : Cond.instanceMethod yX3_set ∈ kTs := kTs_in (List.mem_of_getElem? (i := 101) (by decide +kernel)) rfl
theorem kw102 : Cond.selects "LiftedSystems$Equations" yX3_set yX3_set ∈ kTs := kTs_in (List.mem_of_getElem? (i := 102) (by decide +kernel)) rfl
theorem kw103 : Cond.code yX3_set cX3_set 4 none ∈ kTs := kTs_in (List.mem_of_getElem? (i := 103) (by decide +kernel)) rfl
theorem kw104 : Cond.fieldLink "LiftedSystems$Equations" 23 "LiftedSystems$Equations" "n" "I" ∈ kTs := kTs_in (List.mem_of_getElem? (i := 104) (by decide +kernel)) rfl
theorem kw105 : Cond.fieldLink "LiftedSystems$Clearing" 15 "LiftedSystems$Equations" "n" "I" ∈ kTs := kTs_in (List.mem_of_getElem? (i := 105) (by decide +kernel)) rfl
theorem kw106 : Cond.fieldLink "LiftedSystems$Residues" 11 "LiftedSystems$Equations" "n" "I" ∈ kTs := kTs_in (List.mem_of_getElem? (i := 106) (by decide +kernel)) rfl
theorem kw107 : Cond.fieldLink "LiftedSystems" 82 "LiftedSystems$Equations" "n" "I" ∈ kTs := kTs_in (List.mem_of_getElem? (i := 107) (by decide +kernel)) rfl
theorem kw108 : Cond.fieldLink "LiftedSystems$Lifting" 32 "LiftedSystems$Equations" "n" "I" ∈ kTs := kTs_in (List.mem_of_getElem? (i := 108) (by decide +kernel)) rfl
theorem kw109 : Cond.fieldLink "LiftedSystems$Walk" 51 "LiftedSystems$Equations" "n" "I" ∈ kTs := kTs_in (List.mem_of_getElem? (i := 109) (by decide +kernel)) rfl
theorem kw110 : Cond.fieldLink "LiftedSystems$Equations" 9 "LiftedSystems$Equations" "primeNumber" "I" ∈ kTs := kTs_in (List.mem_of_getElem? (i := 110) (by decide +kernel)) rfl
theorem kw111 : Cond.fieldLink "LiftedSystems" 257 "LiftedSystems$Equations" "primeNumber" "I" ∈ kTs := kTs_in (List.mem_of_getElem? (i := 111) (by decide +kernel)) rfl
theorem kw112 : Cond.fieldLink "LiftedSystems$Equations" 15 "LiftedSystems$Equations" "numbers" "[I" ∈ kTs := kTs_in (List.mem_of_getElem? (i := 112) (by decide +kernel)) rfl
theorem kw132 : Cond.fieldLink "LiftedSystems$Clearing" 22 "LiftedSystems$Clearing" "scale" "J" ∈ kTs := kTs_in (List.mem_of_getElem? (i := 132) (by decide +kernel)) rfl
theorem kw133 : Cond.fieldLink "LiftedSystems$Clearing" 9 "LiftedSystems$Clearing" "leads" "[I" ∈ kTs := kTs_in (List.mem_of_getElem? (i := 133) (by decide +kernel)) rfl
theorem kw134 : Cond.fieldLink "LiftedSystems$Clearing" 21 "LiftedSystems$Clearing" "n" "I" ∈ kTs := kTs_in (List.mem_of_getElem? (i := 134) (by decide +kernel)) rfl
theorem kw135 : Cond.sameField "LiftedSystems$Clearing" "LiftedSystems$Rows" "n" "I" ∈ kTs := kTs_in (List.mem_of_getElem? (i := 135) (by decide +kernel)) rfl
theorem kw136 : Cond.fieldLink "LiftedSystems$Residues" 17 "LiftedSystems$Residues" "n" "I" ∈ kTs := kTs_in (List.mem_of_getElem? (i := 136) (by decide +kernel)) rfl
theorem kw137 : Cond.sameField "LiftedSystems$Residues" "LiftedSystems$Rows" "n" "I" ∈ kTs := kTs_in (List.mem_of_getElem? (i := 137) (by decide +kernel)) rfl
theorem kw138 : Cond.fieldLink "LiftedSystems$Rows" 26 "LiftedSystems$Rows" "n" "I" ∈ kTs := kTs_in (List.mem_of_getElem? (i := 138) (by decide +kernel)) rfl
theorem kw139 : Cond.fieldLink "LiftedSystems$Rows" 20 "LiftedSystems$Rows" "rank" "I" ∈ kTs := kTs_in (List.mem_of_getElem? (i := 139) (by decide +kernel)) rfl
theorem kw140 : Cond.fieldLink "LiftedSystems$Residues" 40 "LiftedSystems$Residues" "rank" "I" ∈ kTs := kTs_in (List.mem_of_getElem? (i := 140) (by decide +kernel)) rfl
theorem kw141 : Cond.sameField "LiftedSystems$Residues" "LiftedSystems$Rows" "rank" "I" ∈ kTs := kTs_in (List.mem_of_getElem? (i := 141) (by decide +kernel)) rfl
theorem kw142 : Cond.fieldLink "LiftedSystems$Clearing" 38 "LiftedSystems$Clearing" "rank" "I" ∈ kTs := kTs_in (List.mem_of_getElem? (i := 142) (by decide +kernel)) rfl
theorem kw143 : Cond.sameField "LiftedSystems$Clearing" "LiftedSystems$Rows" "rank" "I" ∈ kTs := kTs_in (List.mem_of_getElem? (i := 143) (by decide +kernel)) rfl
theorem kw144 : Cond.fieldLink "LiftedSystems" 121 "LiftedSystems$Clearing" "rank" "I" ∈ kTs := kTs_in (List.mem_of_getElem? (i := 144) (by decide +kernel)) rfl
theorem kw145 : Cond.fieldLink "LiftedSystems" 310 "LiftedSystems$Residues" "rank" "I" ∈ kTs := kTs_in (List.mem_of_getElem? (i := 145) (by decide +kernel)) rfl
theorem kw146 : Cond.fieldLink "LiftedSystems$Rows" 23 "LiftedSystems$Rows" "exchanges" "I" ∈ kTs := kTs_in (List.mem_of_getElem? (i := 146) (by decide +kernel)) rfl
theorem kw147 : Cond.fieldLink "LiftedSystems$Clearing" 49 "LiftedSystems$Clearing" "exchanges" "I" ∈ kTs := kTs_in (List.mem_of_getElem? (i := 147) (by decide +kernel)) rfl
theorem kw148 : Cond.sameField "LiftedSystems$Clearing" "LiftedSystems$Rows" "exchanges" "I" ∈ kTs := kTs_in (List.mem_of_getElem? (i := 148) (by decide +kernel)) rfl
theorem kw149 : Cond.fieldLink "LiftedSystems$Rows" 17 "LiftedSystems$Rows" "rows" "[[J" ∈ kTs := kTs_in (List.mem_of_getElem? (i := 149) (by decide +kernel)) rfl
theorem kw150 : Cond.fieldLink "LiftedSystems$Clearing" 26 "LiftedSystems$Clearing" "rows" "[[J" ∈ kTs := kTs_in (List.mem_of_getElem? (i := 150) (by decide +kernel)) rfl
theorem kw151 : Cond.sameField "LiftedSystems$Clearing" "LiftedSystems$Rows" "rows" "[[J" ∈ kTs := kTs_in (List.mem_of_getElem? (i := 151) (by decide +kernel)) rfl
theorem kw152 : Cond.fieldLink "LiftedSystems$Residues" 24 "LiftedSystems$Residues" "rows" "[[J" ∈ kTs := kTs_in (List.mem_of_getElem? (i := 152) (by decide +kernel)) rfl
theorem kw153 : Cond.sameField "LiftedSystems$Residues" "LiftedSystems$Rows" "rows" "[[J" ∈ kTs := kTs_in (List.mem_of_getElem? (i := 153) (by decide +kernel)) rfl
theorem kw154 : Cond.fieldLink "LiftedSystems$Rows" 9 "LiftedSystems$Rows" "width" "I" ∈ kTs := kTs_in (List.mem_of_getElem? (i := 154) (by decide +kernel)) rfl
theorem kw177 : Cond.fieldLink "LiftedSystems$Residues" 22 "LiftedSystems$Residues" "p" "I" ∈ kTs := kTs_in (List.mem_of_getElem? (i := 177) (by decide +kernel)) rfl
theorem kw192 : Cond.fieldLink "LiftedSystems$Lifting" 9 "LiftedSystems$Lifting" "rests" "[I" ∈ kTs := kTs_in (List.mem_of_getElem? (i := 192) (by decide +kernel)) rfl
theorem kw193 : Cond.fieldLink "LiftedSystems" 171 "LiftedSystems$Lifting" "rests" "[I" ∈ kTs := kTs_in (List.mem_of_getElem? (i := 193) (by decide +kernel)) rfl
theorem kw194 : Cond.fieldLink "LiftedSystems$Lifting" 15 "LiftedSystems$Lifting" "digits" "[I" ∈ kTs := kTs_in (List.mem_of_getElem? (i := 194) (by decide +kernel)) rfl
theorem kw195 : Cond.fieldLink "LiftedSystems" 167 "LiftedSystems$Lifting" "digits" "[I" ∈ kTs := kTs_in (List.mem_of_getElem? (i := 195) (by decide +kernel)) rfl
theorem kw196 : Cond.fieldLink "LiftedSystems$Lifting" 18 "LiftedSystems$Lifting" "made" "[J" ∈ kTs := kTs_in (List.mem_of_getElem? (i := 196) (by decide +kernel)) rfl
theorem kw197 : Cond.fieldLink "LiftedSystems$Walk" 56 "LiftedSystems$Lifting" "made" "[J" ∈ kTs := kTs_in (List.mem_of_getElem? (i := 197) (by decide +kernel)) rfl
theorem kw198 : Cond.fieldLink "LiftedSystems" 185 "LiftedSystems$Lifting" "made" "[J" ∈ kTs := kTs_in (List.mem_of_getElem? (i := 198) (by decide +kernel)) rfl
theorem kw199 : Cond.fieldLink "LiftedSystems$Lifting" 22 "LiftedSystems$Lifting" "power" "J" ∈ kTs := kTs_in (List.mem_of_getElem? (i := 199) (by decide +kernel)) rfl
theorem kw200 : Cond.fieldLink "LiftedSystems$Walk" 60 "LiftedSystems$Lifting" "power" "J" ∈ kTs := kTs_in (List.mem_of_getElem? (i := 200) (by decide +kernel)) rfl
theorem kw216 : Cond.fieldLink "LiftedSystems$Guess" 35 "LiftedSystems$Guess" "found" "Z" ∈ kTs := kTs_in (List.mem_of_getElem? (i := 216) (by decide +kernel)) rfl
theorem kw217 : Cond.fieldLink "LiftedSystems$Walk" 72 "LiftedSystems$Guess" "found" "Z" ∈ kTs := kTs_in (List.mem_of_getElem? (i := 217) (by decide +kernel)) rfl
theorem kw218 : Cond.fieldLink "LiftedSystems" 193 "LiftedSystems$Guess" "found" "Z" ∈ kTs := kTs_in (List.mem_of_getElem? (i := 218) (by decide +kernel)) rfl
theorem kw219 : Cond.fieldLink "LiftedSystems$Guess" 19 "LiftedSystems$Guess" "above" "J" ∈ kTs := kTs_in (List.mem_of_getElem? (i := 219) (by decide +kernel)) rfl
theorem kw220 : Cond.fieldLink "LiftedSystems" 197 "LiftedSystems$Guess" "above" "J" ∈ kTs := kTs_in (List.mem_of_getElem? (i := 220) (by decide +kernel)) rfl
theorem kw221 : Cond.fieldLink "LiftedSystems$Guess" 28 "LiftedSystems$Guess" "below" "J" ∈ kTs := kTs_in (List.mem_of_getElem? (i := 221) (by decide +kernel)) rfl
theorem kw222 : Cond.fieldLink "LiftedSystems" 202 "LiftedSystems$Guess" "below" "J" ∈ kTs := kTs_in (List.mem_of_getElem? (i := 222) (by decide +kernel)) rfl
theorem kw240 : Cond.fieldLink "LiftedSystems$Walk" 25 "LiftedSystems$Walk" "early" "I" ∈ kTs := kTs_in (List.mem_of_getElem? (i := 240) (by decide +kernel)) rfl
theorem kw241 : Cond.fieldLink "LiftedSystems" 321 "LiftedSystems$Walk" "early" "I" ∈ kTs := kTs_in (List.mem_of_getElem? (i := 241) (by decide +kernel)) rfl
theorem kw242 : Cond.fieldLink "LiftedSystems$Walk" 29 "LiftedSystems$Walk" "tooSoon" "I" ∈ kTs := kTs_in (List.mem_of_getElem? (i := 242) (by decide +kernel)) rfl
theorem kw243 : Cond.fieldLink "LiftedSystems" 324 "LiftedSystems$Walk" "tooSoon" "I" ∈ kTs := kTs_in (List.mem_of_getElem? (i := 243) (by decide +kernel)) rfl
theorem kw244 : Cond.fieldLink "LiftedSystems$Walk" 48 "LiftedSystems$Walk" "allFound" "Z" ∈ kTs := kTs_in (List.mem_of_getElem? (i := 244) (by decide +kernel)) rfl
theorem kw245 : Cond.fieldLink "LiftedSystems$Walk" 44 "LiftedSystems$Walk" "allRight" "Z" ∈ kTs := kTs_in (List.mem_of_getElem? (i := 245) (by decide +kernel)) rfl
theorem kw246 : Cond.fieldLink "LiftedSystems$Walk" 12 "LiftedSystems$Walk" "lifting" "LLiftedSystems$Lifting;" ∈ kTs := kTs_in (List.mem_of_getElem? (i := 246) (by decide +kernel)) rfl
theorem kw247 : Cond.fieldLink "LiftedSystems$Walk" 21 "LiftedSystems$Walk" "guess" "LLiftedSystems$Guess;" ∈ kTs := kTs_in (List.mem_of_getElem? (i := 247) (by decide +kernel)) rfl
theorem kw267 : Cond.fieldLink "LiftedSystems$History" 25 "LiftedSystems$History" "count" "I" ∈ kTs := kTs_in (List.mem_of_getElem? (i := 267) (by decide +kernel)) rfl
theorem kw268 : Cond.fieldLink "LiftedSystems" 106 "LiftedSystems$History" "count" "I" ∈ kTs := kTs_in (List.mem_of_getElem? (i := 268) (by decide +kernel)) rfl
theorem kw269 : Cond.fieldLink "LiftedSystems$History" 17 "LiftedSystems$History" "next" "I" ∈ kTs := kTs_in (List.mem_of_getElem? (i := 269) (by decide +kernel)) rfl
theorem kw270 : Cond.fieldLink "LiftedSystems$History" 11 "LiftedSystems$History" "store" "[I" ∈ kTs := kTs_in (List.mem_of_getElem? (i := 270) (by decide +kernel)) rfl
theorem kw284 : Cond.fieldLink "LiftedSystems$Book" 21 "LiftedSystems$Book" "count" "I" ∈ kTs := kTs_in (List.mem_of_getElem? (i := 284) (by decide +kernel)) rfl
theorem kw285 : Cond.fieldLink "LiftedSystems" 100 "LiftedSystems$Book" "count" "I" ∈ kTs := kTs_in (List.mem_of_getElem? (i := 285) (by decide +kernel)) rfl
theorem kw286 : Cond.fieldLink "LiftedSystems$Book" 9 "LiftedSystems$Book" "unknowns" "[I" ∈ kTs := kTs_in (List.mem_of_getElem? (i := 286) (by decide +kernel)) rfl
theorem kw287 : Cond.fieldLink "LiftedSystems$Book" 15 "LiftedSystems$Book" "places" "[I" ∈ kTs := kTs_in (List.mem_of_getElem? (i := 287) (by decide +kernel)) rfl
theorem kw288 : Cond.fieldLink "LiftedSystems$Book" 18 "LiftedSystems$Book" "values" "[I" ∈ kTs := kTs_in (List.mem_of_getElem? (i := 288) (by decide +kernel)) rfl
theorem kw304 : Cond.fieldLink "LiftedSystems$Draws" 7 "LiftedSystems$Draws" "state" "J" ∈ kTs := kTs_in (List.mem_of_getElem? (i := 304) (by decide +kernel)) rfl
theorem kw305 : Cond.fieldLink "LiftedSystems$Image" 19 "LiftedSystems$Draws" "state" "J" ∈ kTs := kTs_in (List.mem_of_getElem? (i := 305) (by decide +kernel)) rfl
theorem kw306 : Cond.fieldLink "LiftedSystems" 270 "LiftedSystems$Draws" "state" "J" ∈ kTs := kTs_in (List.mem_of_getElem? (i := 306) (by decide +kernel)) rfl
theorem kw316 : Cond.fieldLink "LiftedSystems$Image" 28 "LiftedSystems$Image" "taken" "Z" ∈ kTs := kTs_in (List.mem_of_getElem? (i := 316) (by decide +kernel)) rfl
theorem kw317 : Cond.fieldLink "LiftedSystems" 284 "LiftedSystems$Image" "taken" "Z" ∈ kTs := kTs_in (List.mem_of_getElem? (i := 317) (by decide +kernel)) rfl
theorem kw318 : Cond.fieldLink "LiftedSystems$Image" 25 "LiftedSystems$Image" "seed" "J" ∈ kTs := kTs_in (List.mem_of_getElem? (i := 318) (by decide +kernel)) rfl
theorem kw319 : Cond.fieldLink "LiftedSystems$Image" 9 "LiftedSystems$Image" "store" "[I" ∈ kTs := kTs_in (List.mem_of_getElem? (i := 319) (by decide +kernel)) rfl
theorem kw327 : Cond.fieldLink "LiftedSystems" 12 "LiftedSystems" "now" "LLiftedSystems$Equations;" ∈ kTs := kTs_in (List.mem_of_getElem? (i := 327) (by decide +kernel)) rfl
theorem kw328 : Cond.fieldLink "LiftedSystems" 19 "LiftedSystems" "clearing" "LLiftedSystems$Clearing;" ∈ kTs := kTs_in (List.mem_of_getElem? (i := 328) (by decide +kernel)) rfl
theorem kw329 : Cond.fieldLink "LiftedSystems" 26 "LiftedSystems" "residues" "LLiftedSystems$Residues;" ∈ kTs := kTs_in (List.mem_of_getElem? (i := 329) (by decide +kernel)) rfl
theorem kw330 : Cond.fieldLink "LiftedSystems" 33 "LiftedSystems" "lifting" "LLiftedSystems$Lifting;" ∈ kTs := kTs_in (List.mem_of_getElem? (i := 330) (by decide +kernel)) rfl
theorem kw331 : Cond.fieldLink "LiftedSystems" 40 "LiftedSystems" "guessed" "LLiftedSystems$Guess;" ∈ kTs := kTs_in (List.mem_of_getElem? (i := 331) (by decide +kernel)) rfl
theorem kw332 : Cond.fieldLink "LiftedSystems" 47 "LiftedSystems" "walk" "LLiftedSystems$Walk;" ∈ kTs := kTs_in (List.mem_of_getElem? (i := 332) (by decide +kernel)) rfl
theorem kw333 : Cond.fieldLink "LiftedSystems" 54 "LiftedSystems" "history" "LLiftedSystems$History;" ∈ kTs := kTs_in (List.mem_of_getElem? (i := 333) (by decide +kernel)) rfl
theorem kw334 : Cond.fieldLink "LiftedSystems" 61 "LiftedSystems" "book" "LLiftedSystems$Book;" ∈ kTs := kTs_in (List.mem_of_getElem? (i := 334) (by decide +kernel)) rfl
theorem kw335 : Cond.fieldLink "LiftedSystems" 68 "LiftedSystems" "draws" "LLiftedSystems$Draws;" ∈ kTs := kTs_in (List.mem_of_getElem? (i := 335) (by decide +kernel)) rfl
theorem kw336 : Cond.fieldLink "LiftedSystems" 75 "LiftedSystems" "firstImage" "LLiftedSystems$Image;" ∈ kTs := kTs_in (List.mem_of_getElem? (i := 336) (by decide +kernel)) rfl
theorem kw337 : Cond.fieldLink "LiftedSystems" 79 "LiftedSystems" "secondImage" "LLiftedSystems$Image;" ∈ kTs := kTs_in (List.mem_of_getElem? (i := 337) (by decide +kernel)) rfl
theorem kw365 : Cond.methodLink "LiftedSystems" 86 yX3_p ∈ kTs := kTs_in (List.mem_of_getElem? (i := 365) (by decide +kernel)) rfl
theorem kw366 : Cond.instanceMethod yX3_p ∈ kTs := kTs_in (List.mem_of_getElem? (i := 366) (by decide +kernel)) rfl
theorem kw367 : Cond.selects "LiftedSystems$Equations" yX3_p yX3_p ∈ kTs := kTs_in (List.mem_of_getElem? (i := 367) (by decide +kernel)) rfl
theorem kw368 : Cond.code yX3_p cX3_p 1 (some .int) ∈ kTs := kTs_in (List.mem_of_getElem? (i := 368) (by decide +kernel)) rfl
theorem kw369 : Cond.fieldLinkNest "LiftedSystems$Equations" 30 "LiftedSystems" "PRIMES" "[I" "LiftedSystems" ∈ kTs := kTs_in (List.mem_of_getElem? (i := 369) (by decide +kernel)) rfl
theorem kw371 : Cond.methodLink "LiftedSystems" 90 yX11_toldOfTable ∈ kTs := kTs_in (List.mem_of_getElem? (i := 371) (by decide +kernel)) rfl
theorem kw373 : Cond.instanceMethod yX11_toldOfTable ∈ kTs := kTs_in (List.mem_of_getElem? (i := 373) (by decide +kernel)) rfl
theorem kw374 : Cond.code yX11_toldOfTable cX11_toldOfTable 2 (some .int) ∈ kTs := kTs_in (List.mem_of_getElem? (i := 374) (by decide +kernel)) rfl
theorem kw375 : Cond.methodLink "LiftedSystems" 117 yX1_clear ∈ kTs := kTs_in (List.mem_of_getElem? (i := 375) (by decide +kernel)) rfl
theorem kw376 : Cond.instanceMethod yX1_clear ∈ kTs := kTs_in (List.mem_of_getElem? (i := 376) (by decide +kernel)) rfl
theorem kw377 : Cond.selects "LiftedSystems$Clearing" yX1_clear yX1_clear ∈ kTs := kTs_in (List.mem_of_getElem? (i := 377) (by decide +kernel)) rfl
theorem kw378 : Cond.code yX1_clear cX1_clear 4 none ∈ kTs := kTs_in (List.mem_of_getElem? (i := 378) (by decide +kernel)) rfl
theorem kw379 : Cond.methodLink "LiftedSystems$Clearing" 30 yX3_number ∈ kTs := kTs_in (List.mem_of_getElem? (i := 379) (by decide +kernel)) rfl
theorem kw380 : Cond.instanceMethod yX3_number ∈ kTs := kTs_in (List.mem_of_getElem? (i := 380) (by decide +kernel)) rfl
theorem kw381 : Cond.selects "LiftedSystems$Equations" yX3_number yX3_number ∈ kTs := kTs_in (List.mem_of_getElem? (i := 381) (by decide +kernel)) rfl
theorem kw382 : Cond.code yX3_number cX3_number 3 (some .int) ∈ kTs := kTs_in (List.mem_of_getElem? (i := 382) (by decide +kernel)) rfl
theorem kw383 : Cond.methodLink "LiftedSystems$Clearing" 34 ⟨"LiftedSystems$Clearing", "clearColumns", "()V"⟩ ∈ kTs := kTs_in (List.mem_of_getElem? (i := 383) (by decide +kernel)) rfl
theorem kw384 : Cond.sameMethod "LiftedSystems$Clearing" "LiftedSystems$Rows" "clearColumns" "()V" ∈ kTs := kTs_in (List.mem_of_getElem? (i := 384) (by decide +kernel)) rfl
theorem kw386 : Cond.selects "LiftedSystems$Clearing" ⟨"LiftedSystems$Clearing", "clearColumns", "()V"⟩ yX9_clearColumns ∈ kTs := kTs_in (List.mem_of_getElem? (i := 386) (by decide +kernel)) rfl
theorem kw387 : Cond.instanceMethod yX9_clearColumns ∈ kTs := kTs_in (List.mem_of_getElem? (i := 387) (by decide +kernel)) rfl
theorem kw388 : Cond.code yX9_clearColumns cX9_clearColumns 2 none ∈ kTs := kTs_in (List.mem_of_getElem? (i := 388) (by decide +kernel)) rfl
theorem kw389 : Cond.methodLink "LiftedSystems$Rows" 29 yX9_raise ∈ kTs := kTs_in (List.mem_of_getElem? (i := 389) (by decide +kernel)) rfl
theorem kw391 : Cond.instanceMethod yX9_raise ∈ kTs := kTs_in (List.mem_of_getElem? (i := 391) (by decide +kernel)) rfl
theorem kw392 : Cond.code yX9_raise cX9_raise 3 (some .boolean) ∈ kTs := kTs_in (List.mem_of_getElem? (i := 392) (by decide +kernel)) rfl
theorem kw393 : Cond.methodLink "LiftedSystems$Rows" 37 yX9_exchangeRows ∈ kTs := kTs_in (List.mem_of_getElem? (i := 393) (by decide +kernel)) rfl
theorem kw395 : Cond.instanceMethod yX9_exchangeRows ∈ kTs := kTs_in (List.mem_of_getElem? (i := 395) (by decide +kernel)) rfl
theorem kw396 : Cond.code yX9_exchangeRows cX9_exchangeRows 6 none ∈ kTs := kTs_in (List.mem_of_getElem? (i := 396) (by decide +kernel)) rfl
theorem kw397 : Cond.methodLink "LiftedSystems$Rows" 33 ⟨"LiftedSystems$Rows", "clearColumn", "(I)V"⟩ ∈ kTs := kTs_in (List.mem_of_getElem? (i := 397) (by decide +kernel)) rfl
theorem kw398 : Cond.declares ⟨"LiftedSystems$Rows", "clearColumn", "(I)V"⟩ ∈ kTs := kTs_in (List.mem_of_getElem? (i := 398) (by decide +kernel)) rfl
theorem kw399 : Cond.sameMethod "LiftedSystems$Rows" "LiftedSystems$Rows" "clearColumn" "(I)V" ∈ kTs := kTs_in (List.mem_of_getElem? (i := 399) (by decide +kernel)) rfl
theorem kw400 : Cond.selects "LiftedSystems$Clearing" ⟨"LiftedSystems$Rows", "clearColumn", "(I)V"⟩ yX1_clearColumn ∈ kTs := kTs_in (List.mem_of_getElem? (i := 400) (by decide +kernel)) rfl
theorem kw401 : Cond.instanceMethod yX1_clearColumn ∈ kTs := kTs_in (List.mem_of_getElem? (i := 401) (by decide +kernel)) rfl
theorem kw402 : Cond.code yX1_clearColumn cX1_clearColumn 3 none ∈ kTs := kTs_in (List.mem_of_getElem? (i := 402) (by decide +kernel)) rfl
theorem kw403 : Cond.methodLink "LiftedSystems$Clearing" 41 yX1_clearRow ∈ kTs := kTs_in (List.mem_of_getElem? (i := 403) (by decide +kernel)) rfl
theorem kw405 : Cond.instanceMethod yX1_clearRow ∈ kTs := kTs_in (List.mem_of_getElem? (i := 405) (by decide +kernel)) rfl
theorem kw406 : Cond.code yX1_clearRow cX1_clearRow 8 none ∈ kTs := kTs_in (List.mem_of_getElem? (i := 406) (by decide +kernel)) rfl
theorem kw407 : Cond.methodLinkNest "LiftedSystems$Clearing" 45 yX11_quotient "LiftedSystems" ∈ kTs := kTs_in (List.mem_of_getElem? (i := 407) (by decide +kernel)) rfl
theorem kw408 : Cond.static yX11_quotient ∈ kTs := kTs_in (List.mem_of_getElem? (i := 408) (by decide +kernel)) rfl
theorem kw409 : Cond.code yX11_quotient cX11_quotient 4 (some .long) ∈ kTs := kTs_in (List.mem_of_getElem? (i := 409) (by decide +kernel)) rfl
theorem kw410 : Cond.selects "LiftedSystems$Residues" ⟨"LiftedSystems$Rows", "clearColumn", "(I)V"⟩ yX8_clearColumn ∈ kTs := kTs_in (List.mem_of_getElem? (i := 410) (by decide +kernel)) rfl
theorem kw411 : Cond.instanceMethod yX8_clearColumn ∈ kTs := kTs_in (List.mem_of_getElem? (i := 411) (by decide +kernel)) rfl
theorem kw412 : Cond.code yX8_clearColumn cX8_clearColumn 7 none ∈ kTs := kTs_in (List.mem_of_getElem? (i := 412) (by decide +kernel)) rfl
theorem kw413 : Cond.methodLink "LiftedSystems$Residues" 43 yX8_oneOver ∈ kTs := kTs_in (List.mem_of_getElem? (i := 413) (by decide +kernel)) rfl
theorem kw415 : Cond.instanceMethod yX8_oneOver ∈ kTs := kTs_in (List.mem_of_getElem? (i := 415) (by decide +kernel)) rfl
theorem kw416 : Cond.code yX8_oneOver cX8_oneOver 4 (some .int) ∈ kTs := kTs_in (List.mem_of_getElem? (i := 416) (by decide +kernel)) rfl
theorem kw417 : Cond.methodLinkNest "LiftedSystems$Residues" 32 yX11_leftOver "LiftedSystems" ∈ kTs := kTs_in (List.mem_of_getElem? (i := 417) (by decide +kernel)) rfl
theorem kw418 : Cond.static yX11_leftOver ∈ kTs := kTs_in (List.mem_of_getElem? (i := 418) (by decide +kernel)) rfl
theorem kw419 : Cond.code yX11_leftOver cX11_leftOver 5 (some .int) ∈ kTs := kTs_in (List.mem_of_getElem? (i := 419) (by decide +kernel)) rfl
theorem kw420 : Cond.methodLink "LiftedSystems" 290 yX1_determinant ∈ kTs := kTs_in (List.mem_of_getElem? (i := 420) (by decide +kernel)) rfl
theorem kw421 : Cond.instanceMethod yX1_determinant ∈ kTs := kTs_in (List.mem_of_getElem? (i := 421) (by decide +kernel)) rfl
theorem kw422 : Cond.selects "LiftedSystems$Clearing" yX1_determinant yX1_determinant ∈ kTs := kTs_in (List.mem_of_getElem? (i := 422) (by decide +kernel)) rfl
theorem kw423 : Cond.code yX1_determinant cX1_determinant 1 (some .long) ∈ kTs := kTs_in (List.mem_of_getElem? (i := 423) (by decide +kernel)) rfl
theorem kw424 : Cond.constant "LiftedSystems" 152 1000000000 ∈ kTs := kTs_in (List.mem_of_getElem? (i := 424) (by decide +kernel)) rfl
theorem kw425 : Cond.methodLink "LiftedSystems" 294 yX1_wideRank ∈ kTs := kTs_in (List.mem_of_getElem? (i := 425) (by decide +kernel)) rfl
theorem kw426 : Cond.instanceMethod yX1_wideRank ∈ kTs := kTs_in (List.mem_of_getElem? (i := 426) (by decide +kernel)) rfl
theorem kw427 : Cond.selects "LiftedSystems$Clearing" yX1_wideRank yX1_wideRank ∈ kTs := kTs_in (List.mem_of_getElem? (i := 427) (by decide +kernel)) rfl
theorem kw428 : Cond.code yX1_wideRank cX1_wideRank 1 (some .int) ∈ kTs := kTs_in (List.mem_of_getElem? (i := 428) (by decide +kernel)) rfl
theorem kw429 : Cond.methodLink "LiftedSystems$Clearing" 52 ⟨"LiftedSystems$Clearing", "fitsSide", "()Z"⟩ ∈ kTs := kTs_in (List.mem_of_getElem? (i := 429) (by decide +kernel)) rfl
theorem kw430 : Cond.sameMethod "LiftedSystems$Clearing" "LiftedSystems$Rows" "fitsSide" "()Z" ∈ kTs := kTs_in (List.mem_of_getElem? (i := 430) (by decide +kernel)) rfl
theorem kw432 : Cond.selects "LiftedSystems$Clearing" ⟨"LiftedSystems$Clearing", "fitsSide", "()Z"⟩ yX9_fitsSide ∈ kTs := kTs_in (List.mem_of_getElem? (i := 432) (by decide +kernel)) rfl
theorem kw433 : Cond.instanceMethod yX9_fitsSide ∈ kTs := kTs_in (List.mem_of_getElem? (i := 433) (by decide +kernel)) rfl
theorem kw434 : Cond.code yX9_fitsSide cX9_fitsSide 2 (some .boolean) ∈ kTs := kTs_in (List.mem_of_getElem? (i := 434) (by decide +kernel)) rfl
theorem kw435 : Cond.methodLink "LiftedSystems" 297 yX1_kind ∈ kTs := kTs_in (List.mem_of_getElem? (i := 435) (by decide +kernel)) rfl
theorem kw436 : Cond.instanceMethod yX1_kind ∈ kTs := kTs_in (List.mem_of_getElem? (i := 436) (by decide +kernel)) rfl
theorem kw437 : Cond.selects "LiftedSystems$Clearing" yX1_kind yX1_kind ∈ kTs := kTs_in (List.mem_of_getElem? (i := 437) (by decide +kernel)) rfl
theorem kw438 : Cond.code yX1_kind cX1_kind 1 (some .int) ∈ kTs := kTs_in (List.mem_of_getElem? (i := 438) (by decide +kernel)) rfl
theorem kw439 : Cond.methodLink "LiftedSystems" 300 yX1_leading ∈ kTs := kTs_in (List.mem_of_getElem? (i := 439) (by decide +kernel)) rfl
theorem kw440 : Cond.instanceMethod yX1_leading ∈ kTs := kTs_in (List.mem_of_getElem? (i := 440) (by decide +kernel)) rfl
theorem kw441 : Cond.selects "LiftedSystems$Clearing" yX1_leading yX1_leading ∈ kTs := kTs_in (List.mem_of_getElem? (i := 441) (by decide +kernel)) rfl
theorem kw442 : Cond.code yX1_leading cX1_leading 3 (some .int) ∈ kTs := kTs_in (List.mem_of_getElem? (i := 442) (by decide +kernel)) rfl
theorem kw443 : Cond.methodLink "LiftedSystems" 303 yX1_broken ∈ kTs := kTs_in (List.mem_of_getElem? (i := 443) (by decide +kernel)) rfl
theorem kw444 : Cond.instanceMethod yX1_broken ∈ kTs := kTs_in (List.mem_of_getElem? (i := 444) (by decide +kernel)) rfl
theorem kw445 : Cond.selects "LiftedSystems$Clearing" yX1_broken yX1_broken ∈ kTs := kTs_in (List.mem_of_getElem? (i := 445) (by decide +kernel)) rfl
theorem kw446 : Cond.code yX1_broken cX1_broken 3 (some .int) ∈ kTs := kTs_in (List.mem_of_getElem? (i := 446) (by decide +kernel)) rfl
theorem kw447 : Cond.methodLink "LiftedSystems$Clearing" 56 yX1_isBroken ∈ kTs := kTs_in (List.mem_of_getElem? (i := 447) (by decide +kernel)) rfl
theorem kw449 : Cond.instanceMethod yX1_isBroken ∈ kTs := kTs_in (List.mem_of_getElem? (i := 449) (by decide +kernel)) rfl
theorem kw450 : Cond.code yX1_isBroken cX1_isBroken 3 (some .boolean) ∈ kTs := kTs_in (List.mem_of_getElem? (i := 450) (by decide +kernel)) rfl
theorem kw451 : Cond.methodLink "LiftedSystems$Clearing" 60 yX1_below ∈ kTs := kTs_in (List.mem_of_getElem? (i := 451) (by decide +kernel)) rfl
theorem kw452 : Cond.instanceMethod yX1_below ∈ kTs := kTs_in (List.mem_of_getElem? (i := 452) (by decide +kernel)) rfl
theorem kw453 : Cond.selects "LiftedSystems$Clearing" yX1_below yX1_below ∈ kTs := kTs_in (List.mem_of_getElem? (i := 453) (by decide +kernel)) rfl
theorem kw454 : Cond.code yX1_below cX1_below 3 (some .long) ∈ kTs := kTs_in (List.mem_of_getElem? (i := 454) (by decide +kernel)) rfl
theorem kw455 : Cond.methodLink "LiftedSystems$Clearing" 67 yJ9_abs_067f4 ∈ kTs := kTs_in (List.mem_of_getElem? (i := 455) (by decide +kernel)) rfl
theorem kw456 : Cond.static yJ9_abs_067f4 ∈ kTs := kTs_in (List.mem_of_getElem? (i := 456) (by decide +kernel)) rfl
theorem kw457 : Cond.code yJ9_abs_067f4 cJ9_abs_067f4 2 (some .long) ∈ kTs := kTs_in (List.mem_of_getElem? (i := 457) (by decide +kernel)) rfl
theorem kw458 : Cond.methodLinkNest "LiftedSystems$Clearing" 64 yX11_gcd "LiftedSystems" ∈ kTs := kTs_in (List.mem_of_getElem? (i := 458) (by decide +kernel)) rfl
theorem kw459 : Cond.static yX11_gcd ∈ kTs := kTs_in (List.mem_of_getElem? (i := 459) (by decide +kernel)) rfl
theorem kw460 : Cond.code yX11_gcd cX11_gcd 11 (some .long) ∈ kTs := kTs_in (List.mem_of_getElem? (i := 460) (by decide +kernel)) rfl
theorem kw461 : Cond.methodLink "LiftedSystems" 372 yJ9_abs_067f4 ∈ kTs := kTs_in (List.mem_of_getElem? (i := 461) (by decide +kernel)) rfl
theorem kw462 : Cond.methodLink "LiftedSystems" 306 yX11_badPrimes ∈ kTs := kTs_in (List.mem_of_getElem? (i := 462) (by decide +kernel)) rfl
theorem kw463 : Cond.static yX11_badPrimes ∈ kTs := kTs_in (List.mem_of_getElem? (i := 463) (by decide +kernel)) rfl
theorem kw464 : Cond.code yX11_badPrimes cX11_badPrimes 7 (some .int) ∈ kTs := kTs_in (List.mem_of_getElem? (i := 464) (by decide +kernel)) rfl
theorem kw465 : Cond.fieldLink "LiftedSystems" 254 "LiftedSystems" "PRIMES" "[I" ∈ kTs := kTs_in (List.mem_of_getElem? (i := 465) (by decide +kernel)) rfl
theorem kw466 : Cond.methodLink "LiftedSystems" 352 yX11_leftOver ∈ kTs := kTs_in (List.mem_of_getElem? (i := 466) (by decide +kernel)) rfl
theorem kw467 : Cond.methodLink "LiftedSystems" 94 yX11_toldByPrime ∈ kTs := kTs_in (List.mem_of_getElem? (i := 467) (by decide +kernel)) rfl
theorem kw469 : Cond.instanceMethod yX11_toldByPrime ∈ kTs := kTs_in (List.mem_of_getElem? (i := 469) (by decide +kernel)) rfl
theorem kw470 : Cond.code yX11_toldByPrime cX11_toldByPrime 3 (some .int) ∈ kTs := kTs_in (List.mem_of_getElem? (i := 470) (by decide +kernel)) rfl
theorem kw471 : Cond.methodLink "LiftedSystems" 153 yX11_primeIsBad ∈ kTs := kTs_in (List.mem_of_getElem? (i := 471) (by decide +kernel)) rfl
theorem kw473 : Cond.instanceMethod yX11_primeIsBad ∈ kTs := kTs_in (List.mem_of_getElem? (i := 473) (by decide +kernel)) rfl
theorem kw474 : Cond.code yX11_primeIsBad cX11_primeIsBad 1 (some .boolean) ∈ kTs := kTs_in (List.mem_of_getElem? (i := 474) (by decide +kernel)) rfl
theorem kw475 : Cond.methodLink "LiftedSystems" 332 yX8_clear ∈ kTs := kTs_in (List.mem_of_getElem? (i := 475) (by decide +kernel)) rfl
theorem kw476 : Cond.instanceMethod yX8_clear ∈ kTs := kTs_in (List.mem_of_getElem? (i := 476) (by decide +kernel)) rfl
theorem kw477 : Cond.selects "LiftedSystems$Residues" yX8_clear yX8_clear ∈ kTs := kTs_in (List.mem_of_getElem? (i := 477) (by decide +kernel)) rfl
theorem kw478 : Cond.code yX8_clear cX8_clear 4 none ∈ kTs := kTs_in (List.mem_of_getElem? (i := 478) (by decide +kernel)) rfl
theorem kw479 : Cond.methodLink "LiftedSystems$Residues" 18 yX3_p ∈ kTs := kTs_in (List.mem_of_getElem? (i := 479) (by decide +kernel)) rfl
theorem kw480 : Cond.methodLink "LiftedSystems$Residues" 28 yX3_number ∈ kTs := kTs_in (List.mem_of_getElem? (i := 480) (by decide +kernel)) rfl
theorem kw481 : Cond.methodLink "LiftedSystems$Residues" 36 ⟨"LiftedSystems$Residues", "clearColumns", "()V"⟩ ∈ kTs := kTs_in (List.mem_of_getElem? (i := 481) (by decide +kernel)) rfl
theorem kw482 : Cond.sameMethod "LiftedSystems$Residues" "LiftedSystems$Rows" "clearColumns" "()V" ∈ kTs := kTs_in (List.mem_of_getElem? (i := 482) (by decide +kernel)) rfl
theorem kw483 : Cond.selects "LiftedSystems$Residues" ⟨"LiftedSystems$Residues", "clearColumns", "()V"⟩ yX9_clearColumns ∈ kTs := kTs_in (List.mem_of_getElem? (i := 483) (by decide +kernel)) rfl
theorem kw484 : Cond.methodLink "LiftedSystems" 311 yX8_ways ∈ kTs := kTs_in (List.mem_of_getElem? (i := 484) (by decide +kernel)) rfl
theorem kw485 : Cond.instanceMethod yX8_ways ∈ kTs := kTs_in (List.mem_of_getElem? (i := 485) (by decide +kernel)) rfl
theorem kw486 : Cond.selects "LiftedSystems$Residues" yX8_ways yX8_ways ∈ kTs := kTs_in (List.mem_of_getElem? (i := 486) (by decide +kernel)) rfl
theorem kw487 : Cond.code yX8_ways cX8_ways 3 (some .int) ∈ kTs := kTs_in (List.mem_of_getElem? (i := 487) (by decide +kernel)) rfl
theorem kw488 : Cond.methodLink "LiftedSystems$Residues" 47 ⟨"LiftedSystems$Residues", "fitsSide", "()Z"⟩ ∈ kTs := kTs_in (List.mem_of_getElem? (i := 488) (by decide +kernel)) rfl
theorem kw489 : Cond.sameMethod "LiftedSystems$Residues" "LiftedSystems$Rows" "fitsSide" "()Z" ∈ kTs := kTs_in (List.mem_of_getElem? (i := 489) (by decide +kernel)) rfl
theorem kw490 : Cond.selects "LiftedSystems$Residues" ⟨"LiftedSystems$Residues", "fitsSide", "()Z"⟩ yX9_fitsSide ∈ kTs := kTs_in (List.mem_of_getElem? (i := 490) (by decide +kernel)) rfl
theorem kw491 : Cond.methodLink "LiftedSystems" 97 yX11_toldOfGuesses ∈ kTs := kTs_in (List.mem_of_getElem? (i := 491) (by decide +kernel)) rfl
theorem kw493 : Cond.instanceMethod yX11_toldOfGuesses ∈ kTs := kTs_in (List.mem_of_getElem? (i := 493) (by decide +kernel)) rfl
theorem kw494 : Cond.code yX11_toldOfGuesses cX11_toldOfGuesses 3 (some .int) ∈ kTs := kTs_in (List.mem_of_getElem? (i := 494) (by decide +kernel)) rfl
theorem kw495 : Cond.methodLink "LiftedSystems" 314 yX11_sure ∈ kTs := kTs_in (List.mem_of_getElem? (i := 495) (by decide +kernel)) rfl
theorem kw497 : Cond.instanceMethod yX11_sure ∈ kTs := kTs_in (List.mem_of_getElem? (i := 497) (by decide +kernel)) rfl
theorem kw498 : Cond.code yX11_sure cX11_sure 6 (some .int) ∈ kTs := kTs_in (List.mem_of_getElem? (i := 498) (by decide +kernel)) rfl
theorem kw499 : Cond.constantLong "LiftedSystems" 327 2 ∈ kTs := kTs_in (List.mem_of_getElem? (i := 499) (by decide +kernel)) rfl
theorem kw500 : Cond.methodLink "LiftedSystems" 329 yX3_squares ∈ kTs := kTs_in (List.mem_of_getElem? (i := 500) (by decide +kernel)) rfl
theorem kw501 : Cond.instanceMethod yX3_squares ∈ kTs := kTs_in (List.mem_of_getElem? (i := 501) (by decide +kernel)) rfl
theorem kw502 : Cond.selects "LiftedSystems$Equations" yX3_squares yX3_squares ∈ kTs := kTs_in (List.mem_of_getElem? (i := 502) (by decide +kernel)) rfl
theorem kw503 : Cond.code yX3_squares cX3_squares 5 (some .long) ∈ kTs := kTs_in (List.mem_of_getElem? (i := 503) (by decide +kernel)) rfl
theorem kw504 : Cond.methodLink "LiftedSystems$Equations" 33 yX3_number ∈ kTs := kTs_in (List.mem_of_getElem? (i := 504) (by decide +kernel)) rfl
theorem kw505 : Cond.methodLink "LiftedSystems" 317 yX10_go ∈ kTs := kTs_in (List.mem_of_getElem? (i := 505) (by decide +kernel)) rfl
theorem kw506 : Cond.instanceMethod yX10_go ∈ kTs := kTs_in (List.mem_of_getElem? (i := 506) (by decide +kernel)) rfl
theorem kw507 : Cond.selects "LiftedSystems$Walk" yX10_go yX10_go ∈ kTs := kTs_in (List.mem_of_getElem? (i := 507) (by decide +kernel)) rfl
theorem kw508 : Cond.code yX10_go cX10_go 6 none ∈ kTs := kTs_in (List.mem_of_getElem? (i := 508) (by decide +kernel)) rfl
theorem kw509 : Cond.methodLink "LiftedSystems$Walk" 32 yX7_begin ∈ kTs := kTs_in (List.mem_of_getElem? (i := 509) (by decide +kernel)) rfl
theorem kw510 : Cond.instanceMethod yX7_begin ∈ kTs := kTs_in (List.mem_of_getElem? (i := 510) (by decide +kernel)) rfl
theorem kw511 : Cond.selects "LiftedSystems$Lifting" yX7_begin yX7_begin ∈ kTs := kTs_in (List.mem_of_getElem? (i := 511) (by decide +kernel)) rfl
theorem kw512 : Cond.code yX7_begin cX7_begin 3 none ∈ kTs := kTs_in (List.mem_of_getElem? (i := 512) (by decide +kernel)) rfl
theorem kw513 : Cond.methodLink "LiftedSystems$Lifting" 26 yX3_number ∈ kTs := kTs_in (List.mem_of_getElem? (i := 513) (by decide +kernel)) rfl
theorem kw514 : Cond.methodLink "LiftedSystems$Walk" 36 yX7_step ∈ kTs := kTs_in (List.mem_of_getElem? (i := 514) (by decide +kernel)) rfl
theorem kw515 : Cond.instanceMethod yX7_step ∈ kTs := kTs_in (List.mem_of_getElem? (i := 515) (by decide +kernel)) rfl
theorem kw516 : Cond.selects "LiftedSystems$Lifting" yX7_step yX7_step ∈ kTs := kTs_in (List.mem_of_getElem? (i := 516) (by decide +kernel)) rfl
theorem kw517 : Cond.code yX7_step cX7_step 8 none ∈ kTs := kTs_in (List.mem_of_getElem? (i := 517) (by decide +kernel)) rfl
theorem kw518 : Cond.methodLink "LiftedSystems$Lifting" 36 yX3_p ∈ kTs := kTs_in (List.mem_of_getElem? (i := 518) (by decide +kernel)) rfl
theorem kw519 : Cond.methodLink "LiftedSystems$Lifting" 40 yX8_inverse ∈ kTs := kTs_in (List.mem_of_getElem? (i := 519) (by decide +kernel)) rfl
theorem kw520 : Cond.instanceMethod yX8_inverse ∈ kTs := kTs_in (List.mem_of_getElem? (i := 520) (by decide +kernel)) rfl
theorem kw521 : Cond.selects "LiftedSystems$Residues" yX8_inverse yX8_inverse ∈ kTs := kTs_in (List.mem_of_getElem? (i := 521) (by decide +kernel)) rfl
theorem kw522 : Cond.code yX8_inverse cX8_inverse 3 (some .int) ∈ kTs := kTs_in (List.mem_of_getElem? (i := 522) (by decide +kernel)) rfl
theorem kw523 : Cond.methodLinkNest "LiftedSystems$Lifting" 45 yX11_leftOver "LiftedSystems" ∈ kTs := kTs_in (List.mem_of_getElem? (i := 523) (by decide +kernel)) rfl
theorem kw524 : Cond.methodLinkNest "LiftedSystems$Lifting" 49 yX11_quotient "LiftedSystems" ∈ kTs := kTs_in (List.mem_of_getElem? (i := 524) (by decide +kernel)) rfl
theorem kw525 : Cond.methodLink "LiftedSystems$Walk" 40 yX10_guessAll ∈ kTs := kTs_in (List.mem_of_getElem? (i := 525) (by decide +kernel)) rfl
theorem kw527 : Cond.instanceMethod yX10_guessAll ∈ kTs := kTs_in (List.mem_of_getElem? (i := 527) (by decide +kernel)) rfl
theorem kw528 : Cond.code yX10_guessAll cX10_guessAll 4 none ∈ kTs := kTs_in (List.mem_of_getElem? (i := 528) (by decide +kernel)) rfl
theorem kw529 : Cond.methodLink "LiftedSystems$Walk" 64 yX3_p ∈ kTs := kTs_in (List.mem_of_getElem? (i := 529) (by decide +kernel)) rfl
theorem kw530 : Cond.methodLink "LiftedSystems$Walk" 68 yX4_seek ∈ kTs := kTs_in (List.mem_of_getElem? (i := 530) (by decide +kernel)) rfl
theorem kw531 : Cond.instanceMethod yX4_seek ∈ kTs := kTs_in (List.mem_of_getElem? (i := 531) (by decide +kernel)) rfl
theorem kw532 : Cond.selects "LiftedSystems$Guess" yX4_seek yX4_seek ∈ kTs := kTs_in (List.mem_of_getElem? (i := 532) (by decide +kernel)) rfl
theorem kw533 : Cond.code yX4_seek cX4_seek 23 none ∈ kTs := kTs_in (List.mem_of_getElem? (i := 533) (by decide +kernel)) rfl
theorem kw534 : Cond.methodLink "LiftedSystems$Guess" 7 yX4_boundOf ∈ kTs := kTs_in (List.mem_of_getElem? (i := 534) (by decide +kernel)) rfl
theorem kw535 : Cond.static yX4_boundOf ∈ kTs := kTs_in (List.mem_of_getElem? (i := 535) (by decide +kernel)) rfl
theorem kw536 : Cond.code yX4_boundOf cX4_boundOf 7 (some .long) ∈ kTs := kTs_in (List.mem_of_getElem? (i := 536) (by decide +kernel)) rfl
theorem kw537 : Cond.constantLong "LiftedSystems$Guess" 39 2 ∈ kTs := kTs_in (List.mem_of_getElem? (i := 537) (by decide +kernel)) rfl
theorem kw538 : Cond.methodLinkNest "LiftedSystems$Guess" 13 yX11_quotient "LiftedSystems" ∈ kTs := kTs_in (List.mem_of_getElem? (i := 538) (by decide +kernel)) rfl
theorem kw539 : Cond.methodLink "LiftedSystems$Guess" 23 yJ9_abs_067f4 ∈ kTs := kTs_in (List.mem_of_getElem? (i := 539) (by decide +kernel)) rfl
theorem kw540 : Cond.methodLinkNest "LiftedSystems$Guess" 31 yX11_leftOver "LiftedSystems" ∈ kTs := kTs_in (List.mem_of_getElem? (i := 540) (by decide +kernel)) rfl
theorem kw541 : Cond.methodLink "LiftedSystems$Walk" 75 yX1_solutionAbove ∈ kTs := kTs_in (List.mem_of_getElem? (i := 541) (by decide +kernel)) rfl
theorem kw542 : Cond.instanceMethod yX1_solutionAbove ∈ kTs := kTs_in (List.mem_of_getElem? (i := 542) (by decide +kernel)) rfl
theorem kw543 : Cond.selects "LiftedSystems$Clearing" yX1_solutionAbove yX1_solutionAbove ∈ kTs := kTs_in (List.mem_of_getElem? (i := 543) (by decide +kernel)) rfl
theorem kw544 : Cond.code yX1_solutionAbove cX1_solutionAbove 3 (some .long) ∈ kTs := kTs_in (List.mem_of_getElem? (i := 544) (by decide +kernel)) rfl
theorem kw545 : Cond.methodLink "LiftedSystems$Clearing" 73 yX1_rowLedBy ∈ kTs := kTs_in (List.mem_of_getElem? (i := 545) (by decide +kernel)) rfl
theorem kw547 : Cond.instanceMethod yX1_rowLedBy ∈ kTs := kTs_in (List.mem_of_getElem? (i := 547) (by decide +kernel)) rfl
theorem kw548 : Cond.code yX1_rowLedBy cX1_rowLedBy 3 (some .int) ∈ kTs := kTs_in (List.mem_of_getElem? (i := 548) (by decide +kernel)) rfl
theorem kw549 : Cond.methodLink "LiftedSystems$Clearing" 77 yX1_above ∈ kTs := kTs_in (List.mem_of_getElem? (i := 549) (by decide +kernel)) rfl
theorem kw550 : Cond.instanceMethod yX1_above ∈ kTs := kTs_in (List.mem_of_getElem? (i := 550) (by decide +kernel)) rfl
theorem kw551 : Cond.selects "LiftedSystems$Clearing" yX1_above yX1_above ∈ kTs := kTs_in (List.mem_of_getElem? (i := 551) (by decide +kernel)) rfl
theorem kw552 : Cond.code yX1_above cX1_above 5 (some .long) ∈ kTs := kTs_in (List.mem_of_getElem? (i := 552) (by decide +kernel)) rfl
theorem kw553 : Cond.methodLink "LiftedSystems$Walk" 81 yX1_solutionBelow ∈ kTs := kTs_in (List.mem_of_getElem? (i := 553) (by decide +kernel)) rfl
theorem kw554 : Cond.instanceMethod yX1_solutionBelow ∈ kTs := kTs_in (List.mem_of_getElem? (i := 554) (by decide +kernel)) rfl
theorem kw555 : Cond.selects "LiftedSystems$Clearing" yX1_solutionBelow yX1_solutionBelow ∈ kTs := kTs_in (List.mem_of_getElem? (i := 555) (by decide +kernel)) rfl
theorem kw556 : Cond.code yX1_solutionBelow cX1_solutionBelow 3 (some .long) ∈ kTs := kTs_in (List.mem_of_getElem? (i := 556) (by decide +kernel)) rfl
theorem kw557 : Cond.methodLink "LiftedSystems$Walk" 84 yX4_is ∈ kTs := kTs_in (List.mem_of_getElem? (i := 557) (by decide +kernel)) rfl
theorem kw558 : Cond.instanceMethod yX4_is ∈ kTs := kTs_in (List.mem_of_getElem? (i := 558) (by decide +kernel)) rfl
theorem kw559 : Cond.selects "LiftedSystems$Guess" yX4_is yX4_is ∈ kTs := kTs_in (List.mem_of_getElem? (i := 559) (by decide +kernel)) rfl
theorem kw560 : Cond.code yX4_is cX4_is 5 (some .boolean) ∈ kTs := kTs_in (List.mem_of_getElem? (i := 560) (by decide +kernel)) rfl
theorem kw561 : Cond.methodLink "LiftedSystems" 103 yX11_firstWrong ∈ kTs := kTs_in (List.mem_of_getElem? (i := 561) (by decide +kernel)) rfl
theorem kw563 : Cond.instanceMethod yX11_firstWrong ∈ kTs := kTs_in (List.mem_of_getElem? (i := 563) (by decide +kernel)) rfl
theorem kw564 : Cond.code yX11_firstWrong cX11_firstWrong 3 (some .int) ∈ kTs := kTs_in (List.mem_of_getElem? (i := 564) (by decide +kernel)) rfl
theorem kw565 : Cond.methodLink "LiftedSystems" 339 yX0_firstBeyond ∈ kTs := kTs_in (List.mem_of_getElem? (i := 565) (by decide +kernel)) rfl
theorem kw566 : Cond.instanceMethod yX0_firstBeyond ∈ kTs := kTs_in (List.mem_of_getElem? (i := 566) (by decide +kernel)) rfl
theorem kw567 : Cond.selects "LiftedSystems$Book" yX0_firstBeyond yX0_firstBeyond ∈ kTs := kTs_in (List.mem_of_getElem? (i := 567) (by decide +kernel)) rfl
theorem kw568 : Cond.code yX0_firstBeyond cX0_firstBeyond 3 (some .int) ∈ kTs := kTs_in (List.mem_of_getElem? (i := 568) (by decide +kernel)) rfl
theorem kw569 : Cond.methodLink "LiftedSystems" 333 yX7_begin ∈ kTs := kTs_in (List.mem_of_getElem? (i := 569) (by decide +kernel)) rfl
theorem kw570 : Cond.methodLink "LiftedSystems" 335 yX7_step ∈ kTs := kTs_in (List.mem_of_getElem? (i := 570) (by decide +kernel)) rfl
theorem kw571 : Cond.methodLink "LiftedSystems" 342 yX0_firstOtherwise ∈ kTs := kTs_in (List.mem_of_getElem? (i := 571) (by decide +kernel)) rfl
theorem kw572 : Cond.instanceMethod yX0_firstOtherwise ∈ kTs := kTs_in (List.mem_of_getElem? (i := 572) (by decide +kernel)) rfl
theorem kw573 : Cond.selects "LiftedSystems$Book" yX0_firstOtherwise yX0_firstOtherwise ∈ kTs := kTs_in (List.mem_of_getElem? (i := 573) (by decide +kernel)) rfl
theorem kw574 : Cond.code yX0_firstOtherwise cX0_firstOtherwise 5 (some .int) ∈ kTs := kTs_in (List.mem_of_getElem? (i := 574) (by decide +kernel)) rfl
theorem kw575 : Cond.constant "LiftedSystems" 107 (-1000000002) ∈ kTs := kTs_in (List.mem_of_getElem? (i := 575) (by decide +kernel)) rfl
theorem kw580 : Cond.methodLink "LiftedSystems" 108 yX3_has ∈ kTs := kTs_in (List.mem_of_getElem? (i := 580) (by decide +kernel)) rfl
theorem kw581 : Cond.instanceMethod yX3_has ∈ kTs := kTs_in (List.mem_of_getElem? (i := 581) (by decide +kernel)) rfl
theorem kw582 : Cond.selects "LiftedSystems$Equations" yX3_has yX3_has ∈ kTs := kTs_in (List.mem_of_getElem? (i := 582) (by decide +kernel)) rfl
theorem kw583 : Cond.code yX3_has cX3_has 2 (some .boolean) ∈ kTs := kTs_in (List.mem_of_getElem? (i := 583) (by decide +kernel)) rfl
theorem kw584 : Cond.constant "LiftedSystems" 112 (-1000000001) ∈ kTs := kTs_in (List.mem_of_getElem? (i := 584) (by decide +kernel)) rfl
theorem kw585 : Cond.methodLink "LiftedSystems" 113 yX3_number ∈ kTs := kTs_in (List.mem_of_getElem? (i := 585) (by decide +kernel)) rfl
theorem kw590 : Cond.methodLink "LiftedSystems" 124 yX11_isNeitherPart ∈ kTs := kTs_in (List.mem_of_getElem? (i := 590) (by decide +kernel)) rfl
theorem kw591 : Cond.static yX11_isNeitherPart ∈ kTs := kTs_in (List.mem_of_getElem? (i := 591) (by decide +kernel)) rfl
theorem kw592 : Cond.code yX11_isNeitherPart cX11_isNeitherPart 1 (some .boolean) ∈ kTs := kTs_in (List.mem_of_getElem? (i := 592) (by decide +kernel)) rfl
theorem kw593 : Cond.methodLink "LiftedSystems" 127 yX1_above ∈ kTs := kTs_in (List.mem_of_getElem? (i := 593) (by decide +kernel)) rfl
theorem kw594 : Cond.methodLink "LiftedSystems" 131 yX1_below ∈ kTs := kTs_in (List.mem_of_getElem? (i := 594) (by decide +kernel)) rfl
theorem kw595 : Cond.methodLink "LiftedSystems" 134 yX11_shownPart ∈ kTs := kTs_in (List.mem_of_getElem? (i := 595) (by decide +kernel)) rfl
theorem kw596 : Cond.static yX11_shownPart ∈ kTs := kTs_in (List.mem_of_getElem? (i := 596) (by decide +kernel)) rfl
theorem kw597 : Cond.code yX11_shownPart cX11_shownPart 5 (some .int) ∈ kTs := kTs_in (List.mem_of_getElem? (i := 597) (by decide +kernel)) rfl
theorem kw602 : Cond.methodLink "LiftedSystems" 138 ⟨"LiftedSystems$Clearing", "fitsSide", "()Z"⟩ ∈ kTs := kTs_in (List.mem_of_getElem? (i := 602) (by decide +kernel)) rfl
theorem kw603 : Cond.methodLink "LiftedSystems" 142 yX1_solutionAbove ∈ kTs := kTs_in (List.mem_of_getElem? (i := 603) (by decide +kernel)) rfl
theorem kw604 : Cond.methodLink "LiftedSystems" 146 yX1_solutionBelow ∈ kTs := kTs_in (List.mem_of_getElem? (i := 604) (by decide +kernel)) rfl
theorem kw609 : Cond.methodLink "LiftedSystems" 149 yX1_vanishing ∈ kTs := kTs_in (List.mem_of_getElem? (i := 609) (by decide +kernel)) rfl
theorem kw610 : Cond.instanceMethod yX1_vanishing ∈ kTs := kTs_in (List.mem_of_getElem? (i := 610) (by decide +kernel)) rfl
theorem kw611 : Cond.selects "LiftedSystems$Clearing" yX1_vanishing yX1_vanishing ∈ kTs := kTs_in (List.mem_of_getElem? (i := 611) (by decide +kernel)) rfl
theorem kw612 : Cond.code yX1_vanishing cX1_vanishing 6 (some .long) ∈ kTs := kTs_in (List.mem_of_getElem? (i := 612) (by decide +kernel)) rfl
theorem kw617 : Cond.constant "LiftedSystems" 156 (-1000000003) ∈ kTs := kTs_in (List.mem_of_getElem? (i := 617) (by decide +kernel)) rfl
theorem kw618 : Cond.methodLink "LiftedSystems" 157 yX8_inverse ∈ kTs := kTs_in (List.mem_of_getElem? (i := 618) (by decide +kernel)) rfl
theorem kw623 : Cond.methodLink "LiftedSystems" 160 yX11_isNoDigit ∈ kTs := kTs_in (List.mem_of_getElem? (i := 623) (by decide +kernel)) rfl
theorem kw624 : Cond.static yX11_isNoDigit ∈ kTs := kTs_in (List.mem_of_getElem? (i := 624) (by decide +kernel)) rfl
theorem kw625 : Cond.code yX11_isNoDigit cX11_isNoDigit 1 (some .boolean) ∈ kTs := kTs_in (List.mem_of_getElem? (i := 625) (by decide +kernel)) rfl
theorem kw626 : Cond.methodLink "LiftedSystems" 163 yX11_lift ∈ kTs := kTs_in (List.mem_of_getElem? (i := 626) (by decide +kernel)) rfl
theorem kw628 : Cond.instanceMethod yX11_lift ∈ kTs := kTs_in (List.mem_of_getElem? (i := 628) (by decide +kernel)) rfl
theorem kw629 : Cond.code yX11_lift cX11_lift 3 none ∈ kTs := kTs_in (List.mem_of_getElem? (i := 629) (by decide +kernel)) rfl
theorem kw638 : Cond.constantLong "LiftedSystems" 174 (-1000000001) ∈ kTs := kTs_in (List.mem_of_getElem? (i := 638) (by decide +kernel)) rfl
theorem kw639 : Cond.methodLink "LiftedSystems" 176 yX11_powerForGuess ∈ kTs := kTs_in (List.mem_of_getElem? (i := 639) (by decide +kernel)) rfl
theorem kw640 : Cond.static yX11_powerForGuess ∈ kTs := kTs_in (List.mem_of_getElem? (i := 640) (by decide +kernel)) rfl
theorem kw641 : Cond.code yX11_powerForGuess cX11_powerForGuess 5 (some .long) ∈ kTs := kTs_in (List.mem_of_getElem? (i := 641) (by decide +kernel)) rfl
theorem kw642 : Cond.constantLong "LiftedSystems" 179 (-1) ∈ kTs := kTs_in (List.mem_of_getElem? (i := 642) (by decide +kernel)) rfl
theorem kw643 : Cond.constantLong "LiftedSystems" 356 2000000000000000000 ∈ kTs := kTs_in (List.mem_of_getElem? (i := 643) (by decide +kernel)) rfl
theorem kw644 : Cond.methodLink "LiftedSystems" 358 yX11_quotient ∈ kTs := kTs_in (List.mem_of_getElem? (i := 644) (by decide +kernel)) rfl
theorem kw645 : Cond.constantLong "LiftedSystems" 181 (-1000000002) ∈ kTs := kTs_in (List.mem_of_getElem? (i := 645) (by decide +kernel)) rfl
theorem kw646 : Cond.constantLong "LiftedSystems" 183 (-1000000003) ∈ kTs := kTs_in (List.mem_of_getElem? (i := 646) (by decide +kernel)) rfl
theorem kw647 : Cond.methodLink "LiftedSystems" 189 yX4_seek ∈ kTs := kTs_in (List.mem_of_getElem? (i := 647) (by decide +kernel)) rfl
theorem kw648 : Cond.constantLong "LiftedSystems" 200 4000000000 ∈ kTs := kTs_in (List.mem_of_getElem? (i := 648) (by decide +kernel)) rfl
theorem kw653 : Cond.methodLink "LiftedSystems" 204 yX11_whyNoValue ∈ kTs := kTs_in (List.mem_of_getElem? (i := 653) (by decide +kernel)) rfl
theorem kw655 : Cond.instanceMethod yX11_whyNoValue ∈ kTs := kTs_in (List.mem_of_getElem? (i := 655) (by decide +kernel)) rfl
theorem kw656 : Cond.code yX11_whyNoValue cX11_whyNoValue 2 (some .int) ∈ kTs := kTs_in (List.mem_of_getElem? (i := 656) (by decide +kernel)) rfl
theorem kw657 : Cond.methodLink "LiftedSystems" 207 yX1_nearest ∈ kTs := kTs_in (List.mem_of_getElem? (i := 657) (by decide +kernel)) rfl
theorem kw658 : Cond.instanceMethod yX1_nearest ∈ kTs := kTs_in (List.mem_of_getElem? (i := 658) (by decide +kernel)) rfl
theorem kw659 : Cond.selects "LiftedSystems$Clearing" yX1_nearest yX1_nearest ∈ kTs := kTs_in (List.mem_of_getElem? (i := 659) (by decide +kernel)) rfl
theorem kw660 : Cond.code yX1_nearest cX1_nearest 4 (some .double) ∈ kTs := kTs_in (List.mem_of_getElem? (i := 660) (by decide +kernel)) rfl
theorem kw661 : Cond.methodLink "LiftedSystems$Clearing" 80 yX1_solutionBelow ∈ kTs := kTs_in (List.mem_of_getElem? (i := 661) (by decide +kernel)) rfl
theorem kw662 : Cond.methodLink "LiftedSystems$Clearing" 84 yX1_solutionAbove ∈ kTs := kTs_in (List.mem_of_getElem? (i := 662) (by decide +kernel)) rfl
theorem kw663 : Cond.methodLink "LiftedSystems" 211 yX11_bitsOfDouble ∈ kTs := kTs_in (List.mem_of_getElem? (i := 663) (by decide +kernel)) rfl
theorem kw664 : Cond.static yX11_bitsOfDouble ∈ kTs := kTs_in (List.mem_of_getElem? (i := 664) (by decide +kernel)) rfl
theorem kw665 : Cond.code yX11_bitsOfDouble cX11_bitsOfDouble 4 (some .long) ∈ kTs := kTs_in (List.mem_of_getElem? (i := 665) (by decide +kernel)) rfl
theorem kw666 : Cond.methodLink "LiftedSystems" 362 yX11_bitsOfSize ∈ kTs := kTs_in (List.mem_of_getElem? (i := 666) (by decide +kernel)) rfl
theorem kw667 : Cond.static yX11_bitsOfSize ∈ kTs := kTs_in (List.mem_of_getElem? (i := 667) (by decide +kernel)) rfl
theorem kw668 : Cond.code yX11_bitsOfSize cX11_bitsOfSize 11 (some .long) ∈ kTs := kTs_in (List.mem_of_getElem? (i := 668) (by decide +kernel)) rfl
theorem kw669 : Cond.constantDouble "LiftedSystems" 370 4611686018427387904 ∈ kTs := kTs_in (List.mem_of_getElem? (i := 669) (by decide +kernel)) rfl
theorem kw670 : Cond.constantLong "LiftedSystems" 366 (-9223372036854775808) ∈ kTs := kTs_in (List.mem_of_getElem? (i := 670) (by decide +kernel)) rfl
theorem kw675 : Cond.methodLink "LiftedSystems" 215 yX11_bitsOfFloat ∈ kTs := kTs_in (List.mem_of_getElem? (i := 675) (by decide +kernel)) rfl
theorem kw676 : Cond.static yX11_bitsOfFloat ∈ kTs := kTs_in (List.mem_of_getElem? (i := 676) (by decide +kernel)) rfl
theorem kw677 : Cond.code yX11_bitsOfFloat cX11_bitsOfFloat 3 (some .long) ∈ kTs := kTs_in (List.mem_of_getElem? (i := 677) (by decide +kernel)) rfl
theorem kw678 : Cond.constantLong "LiftedSystems" 368 2147483648 ∈ kTs := kTs_in (List.mem_of_getElem? (i := 678) (by decide +kernel)) rfl
theorem kw683 : Cond.constantFloat "LiftedSystems" 219 1148846080 ∈ kTs := kTs_in (List.mem_of_getElem? (i := 683) (by decide +kernel)) rfl
theorem kw684 : Cond.constantLong "LiftedSystems" 220 3000000000 ∈ kTs := kTs_in (List.mem_of_getElem? (i := 684) (by decide +kernel)) rfl
theorem kw689 : Cond.methodLink "LiftedSystems" 222 yX5_remember ∈ kTs := kTs_in (List.mem_of_getElem? (i := 689) (by decide +kernel)) rfl
theorem kw690 : Cond.instanceMethod yX5_remember ∈ kTs := kTs_in (List.mem_of_getElem? (i := 690) (by decide +kernel)) rfl
theorem kw691 : Cond.selects "LiftedSystems$History" yX5_remember yX5_remember ∈ kTs := kTs_in (List.mem_of_getElem? (i := 691) (by decide +kernel)) rfl
theorem kw692 : Cond.code yX5_remember cX5_remember 2 none ∈ kTs := kTs_in (List.mem_of_getElem? (i := 692) (by decide +kernel)) rfl
theorem kw693 : Cond.methodLink "LiftedSystems$History" 21 yX3_writeTo ∈ kTs := kTs_in (List.mem_of_getElem? (i := 693) (by decide +kernel)) rfl
theorem kw694 : Cond.instanceMethod yX3_writeTo ∈ kTs := kTs_in (List.mem_of_getElem? (i := 694) (by decide +kernel)) rfl
theorem kw695 : Cond.selects "LiftedSystems$Equations" yX3_writeTo yX3_writeTo ∈ kTs := kTs_in (List.mem_of_getElem? (i := 695) (by decide +kernel)) rfl
theorem kw696 : Cond.code yX3_writeTo cX3_writeTo 3 none ∈ kTs := kTs_in (List.mem_of_getElem? (i := 696) (by decide +kernel)) rfl
theorem kw697 : Cond.methodLink "LiftedSystems$Equations" 43 ⟨"java/lang/System", "arraycopy", "(Ljava/lang/Object;ILjava/lang/Object;II)V"⟩ ∈ kTs := kTs_in (List.mem_of_getElem? (i := 697) (by decide +kernel)) rfl
theorem kw698 : Cond.static ⟨"java/lang/System", "arraycopy", "(Ljava/lang/Object;ILjava/lang/Object;II)V"⟩ ∈ kTs := kTs_in (List.mem_of_getElem? (i := 698) (by decide +kernel)) rfl
theorem kw699 : Cond.native ⟨"java/lang/System", "arraycopy", "(Ljava/lang/Object;ILjava/lang/Object;II)V"⟩ ∈ kTs := kTs_in (List.mem_of_getElem? (i := 699) (by decide +kernel)) rfl
theorem kw700 : Cond.methodLink "LiftedSystems$History" 28 yJ9_min_7cf53 ∈ kTs := kTs_in (List.mem_of_getElem? (i := 700) (by decide +kernel)) rfl
theorem kw701 : Cond.static yJ9_min_7cf53 ∈ kTs := kTs_in (List.mem_of_getElem? (i := 701) (by decide +kernel)) rfl
theorem kw702 : Cond.code yJ9_min_7cf53 cJ9_min_7cf53 2 (some .int) ∈ kTs := kTs_in (List.mem_of_getElem? (i := 702) (by decide +kernel)) rfl
theorem kw703 : Cond.methodLink "LiftedSystems" 225 yX3_begin ∈ kTs := kTs_in (List.mem_of_getElem? (i := 703) (by decide +kernel)) rfl
theorem kw708 : Cond.methodLink "LiftedSystems" 228 yX11_change ∈ kTs := kTs_in (List.mem_of_getElem? (i := 708) (by decide +kernel)) rfl
theorem kw710 : Cond.instanceMethod yX11_change ∈ kTs := kTs_in (List.mem_of_getElem? (i := 710) (by decide +kernel)) rfl
theorem kw711 : Cond.code yX11_change cX11_change 5 (some .int) ∈ kTs := kTs_in (List.mem_of_getElem? (i := 711) (by decide +kernel)) rfl
theorem kw712 : Cond.methodLink "LiftedSystems" 346 yX3_set ∈ kTs := kTs_in (List.mem_of_getElem? (i := 712) (by decide +kernel)) rfl
theorem kw721 : Cond.methodLink "LiftedSystems" 232 yX11_areNotTwoRows ∈ kTs := kTs_in (List.mem_of_getElem? (i := 721) (by decide +kernel)) rfl
theorem kw723 : Cond.instanceMethod yX11_areNotTwoRows ∈ kTs := kTs_in (List.mem_of_getElem? (i := 723) (by decide +kernel)) rfl
theorem kw724 : Cond.code yX11_areNotTwoRows cX11_areNotTwoRows 3 (some .boolean) ∈ kTs := kTs_in (List.mem_of_getElem? (i := 724) (by decide +kernel)) rfl
theorem kw725 : Cond.methodLink "LiftedSystems" 236 yX3_exchange ∈ kTs := kTs_in (List.mem_of_getElem? (i := 725) (by decide +kernel)) rfl
theorem kw726 : Cond.instanceMethod yX3_exchange ∈ kTs := kTs_in (List.mem_of_getElem? (i := 726) (by decide +kernel)) rfl
theorem kw727 : Cond.selects "LiftedSystems$Equations" yX3_exchange yX3_exchange ∈ kTs := kTs_in (List.mem_of_getElem? (i := 727) (by decide +kernel)) rfl
theorem kw728 : Cond.code yX3_exchange cX3_exchange 5 none ∈ kTs := kTs_in (List.mem_of_getElem? (i := 728) (by decide +kernel)) rfl
theorem kw733 : Cond.methodLink "LiftedSystems" 240 yX3_canAdd ∈ kTs := kTs_in (List.mem_of_getElem? (i := 733) (by decide +kernel)) rfl
theorem kw734 : Cond.instanceMethod yX3_canAdd ∈ kTs := kTs_in (List.mem_of_getElem? (i := 734) (by decide +kernel)) rfl
theorem kw735 : Cond.selects "LiftedSystems$Equations" yX3_canAdd yX3_canAdd ∈ kTs := kTs_in (List.mem_of_getElem? (i := 735) (by decide +kernel)) rfl
theorem kw736 : Cond.code yX3_canAdd cX3_canAdd 6 (some .boolean) ∈ kTs := kTs_in (List.mem_of_getElem? (i := 736) (by decide +kernel)) rfl
theorem kw737 : Cond.methodLink "LiftedSystems$Equations" 37 yJ9_abs_0f7a4 ∈ kTs := kTs_in (List.mem_of_getElem? (i := 737) (by decide +kernel)) rfl
theorem kw738 : Cond.static yJ9_abs_0f7a4 ∈ kTs := kTs_in (List.mem_of_getElem? (i := 738) (by decide +kernel)) rfl
theorem kw739 : Cond.code yJ9_abs_0f7a4 cJ9_abs_0f7a4 1 (some .int) ∈ kTs := kTs_in (List.mem_of_getElem? (i := 739) (by decide +kernel)) rfl
theorem kw740 : Cond.constant "LiftedSystems" 244 (-1000000004) ∈ kTs := kTs_in (List.mem_of_getElem? (i := 740) (by decide +kernel)) rfl
theorem kw741 : Cond.methodLink "LiftedSystems" 245 yX3_add ∈ kTs := kTs_in (List.mem_of_getElem? (i := 741) (by decide +kernel)) rfl
theorem kw742 : Cond.instanceMethod yX3_add ∈ kTs := kTs_in (List.mem_of_getElem? (i := 742) (by decide +kernel)) rfl
theorem kw743 : Cond.selects "LiftedSystems$Equations" yX3_add yX3_add ∈ kTs := kTs_in (List.mem_of_getElem? (i := 743) (by decide +kernel)) rfl
theorem kw744 : Cond.code yX3_add cX3_add 5 none ∈ kTs := kTs_in (List.mem_of_getElem? (i := 744) (by decide +kernel)) rfl
theorem kw749 : Cond.methodLink "LiftedSystems" 249 yX3_transpose ∈ kTs := kTs_in (List.mem_of_getElem? (i := 749) (by decide +kernel)) rfl
theorem kw750 : Cond.instanceMethod yX3_transpose ∈ kTs := kTs_in (List.mem_of_getElem? (i := 750) (by decide +kernel)) rfl
theorem kw751 : Cond.selects "LiftedSystems$Equations" yX3_transpose yX3_transpose ∈ kTs := kTs_in (List.mem_of_getElem? (i := 751) (by decide +kernel)) rfl
theorem kw752 : Cond.code yX3_transpose cX3_transpose 4 none ∈ kTs := kTs_in (List.mem_of_getElem? (i := 752) (by decide +kernel)) rfl
theorem kw753 : Cond.methodLink "LiftedSystems" 252 yX11_rank ∈ kTs := kTs_in (List.mem_of_getElem? (i := 753) (by decide +kernel)) rfl
theorem kw755 : Cond.instanceMethod yX11_rank ∈ kTs := kTs_in (List.mem_of_getElem? (i := 755) (by decide +kernel)) rfl
theorem kw756 : Cond.code yX11_rank cX11_rank 1 (some .int) ∈ kTs := kTs_in (List.mem_of_getElem? (i := 756) (by decide +kernel)) rfl
theorem kw765 : Cond.methodLink "LiftedSystems" 260 yX11_changeByDraws ∈ kTs := kTs_in (List.mem_of_getElem? (i := 765) (by decide +kernel)) rfl
theorem kw767 : Cond.instanceMethod yX11_changeByDraws ∈ kTs := kTs_in (List.mem_of_getElem? (i := 767) (by decide +kernel)) rfl
theorem kw768 : Cond.code yX11_changeByDraws cX11_changeByDraws 4 none ∈ kTs := kTs_in (List.mem_of_getElem? (i := 768) (by decide +kernel)) rfl
theorem kw769 : Cond.methodLink "LiftedSystems" 349 yX2_next ∈ kTs := kTs_in (List.mem_of_getElem? (i := 769) (by decide +kernel)) rfl
theorem kw770 : Cond.instanceMethod yX2_next ∈ kTs := kTs_in (List.mem_of_getElem? (i := 770) (by decide +kernel)) rfl
theorem kw771 : Cond.selects "LiftedSystems$Draws" yX2_next yX2_next ∈ kTs := kTs_in (List.mem_of_getElem? (i := 771) (by decide +kernel)) rfl
theorem kw772 : Cond.code yX2_next cX2_next 2 (some .int) ∈ kTs := kTs_in (List.mem_of_getElem? (i := 772) (by decide +kernel)) rfl
theorem kw773 : Cond.constantLong "LiftedSystems$Draws" 13 1103515245 ∈ kTs := kTs_in (List.mem_of_getElem? (i := 773) (by decide +kernel)) rfl
theorem kw774 : Cond.constantLong "LiftedSystems$Draws" 15 12345 ∈ kTs := kTs_in (List.mem_of_getElem? (i := 774) (by decide +kernel)) rfl
theorem kw775 : Cond.constantLong "LiftedSystems$Draws" 17 2147483647 ∈ kTs := kTs_in (List.mem_of_getElem? (i := 775) (by decide +kernel)) rfl
theorem kw776 : Cond.constantLong "LiftedSystems$Draws" 19 65536 ∈ kTs := kTs_in (List.mem_of_getElem? (i := 776) (by decide +kernel)) rfl
theorem kw777 : Cond.methodLinkNest "LiftedSystems$Draws" 21 yX11_leftOver "LiftedSystems" ∈ kTs := kTs_in (List.mem_of_getElem? (i := 777) (by decide +kernel)) rfl
theorem kw782 : Cond.methodLink "LiftedSystems" 263 yX5_bringBack ∈ kTs := kTs_in (List.mem_of_getElem? (i := 782) (by decide +kernel)) rfl
theorem kw783 : Cond.instanceMethod yX5_bringBack ∈ kTs := kTs_in (List.mem_of_getElem? (i := 783) (by decide +kernel)) rfl
theorem kw784 : Cond.selects "LiftedSystems$History" yX5_bringBack yX5_bringBack ∈ kTs := kTs_in (List.mem_of_getElem? (i := 784) (by decide +kernel)) rfl
theorem kw785 : Cond.code yX5_bringBack cX5_bringBack 3 none ∈ kTs := kTs_in (List.mem_of_getElem? (i := 785) (by decide +kernel)) rfl
theorem kw786 : Cond.methodLink "LiftedSystems$History" 34 yJ9_floorMod_7cf53 ∈ kTs := kTs_in (List.mem_of_getElem? (i := 786) (by decide +kernel)) rfl
theorem kw787 : Cond.static yJ9_floorMod_7cf53 ∈ kTs := kTs_in (List.mem_of_getElem? (i := 787) (by decide +kernel)) rfl
theorem kw788 : Cond.code yJ9_floorMod_7cf53 cJ9_floorMod_7cf53 3 (some .int) ∈ kTs := kTs_in (List.mem_of_getElem? (i := 788) (by decide +kernel)) rfl
theorem kw789 : Cond.methodLink "LiftedSystems$History" 37 yX3_readFrom ∈ kTs := kTs_in (List.mem_of_getElem? (i := 789) (by decide +kernel)) rfl
theorem kw790 : Cond.instanceMethod yX3_readFrom ∈ kTs := kTs_in (List.mem_of_getElem? (i := 790) (by decide +kernel)) rfl
theorem kw791 : Cond.selects "LiftedSystems$Equations" yX3_readFrom yX3_readFrom ∈ kTs := kTs_in (List.mem_of_getElem? (i := 791) (by decide +kernel)) rfl
theorem kw792 : Cond.code yX3_readFrom cX3_readFrom 3 none ∈ kTs := kTs_in (List.mem_of_getElem? (i := 792) (by decide +kernel)) rfl
theorem kw797 : Cond.methodLink "LiftedSystems" 267 yX0_append ∈ kTs := kTs_in (List.mem_of_getElem? (i := 797) (by decide +kernel)) rfl
theorem kw798 : Cond.instanceMethod yX0_append ∈ kTs := kTs_in (List.mem_of_getElem? (i := 798) (by decide +kernel)) rfl
theorem kw799 : Cond.selects "LiftedSystems$Book" yX0_append yX0_append ∈ kTs := kTs_in (List.mem_of_getElem? (i := 799) (by decide +kernel)) rfl
theorem kw800 : Cond.code yX0_append cX0_append 4 none ∈ kTs := kTs_in (List.mem_of_getElem? (i := 800) (by decide +kernel)) rfl
theorem kw813 : Cond.methodLink "LiftedSystems" 273 yX11_isNoImage ∈ kTs := kTs_in (List.mem_of_getElem? (i := 813) (by decide +kernel)) rfl
theorem kw814 : Cond.static yX11_isNoImage ∈ kTs := kTs_in (List.mem_of_getElem? (i := 814) (by decide +kernel)) rfl
theorem kw815 : Cond.code yX11_isNoImage cX11_isNoImage 1 (some .boolean) ∈ kTs := kTs_in (List.mem_of_getElem? (i := 815) (by decide +kernel)) rfl
theorem kw816 : Cond.methodLink "LiftedSystems" 276 yX11_imageOf ∈ kTs := kTs_in (List.mem_of_getElem? (i := 816) (by decide +kernel)) rfl
theorem kw818 : Cond.instanceMethod yX11_imageOf ∈ kTs := kTs_in (List.mem_of_getElem? (i := 818) (by decide +kernel)) rfl
theorem kw819 : Cond.code yX11_imageOf cX11_imageOf 2 (some (.object "LiftedSystems$Image")) ∈ kTs := kTs_in (List.mem_of_getElem? (i := 819) (by decide +kernel)) rfl
theorem kw820 : Cond.methodLink "LiftedSystems" 280 yX6_take ∈ kTs := kTs_in (List.mem_of_getElem? (i := 820) (by decide +kernel)) rfl
theorem kw821 : Cond.instanceMethod yX6_take ∈ kTs := kTs_in (List.mem_of_getElem? (i := 821) (by decide +kernel)) rfl
theorem kw822 : Cond.selects "LiftedSystems$Image" yX6_take yX6_take ∈ kTs := kTs_in (List.mem_of_getElem? (i := 822) (by decide +kernel)) rfl
theorem kw823 : Cond.code yX6_take cX6_take 3 none ∈ kTs := kTs_in (List.mem_of_getElem? (i := 823) (by decide +kernel)) rfl
theorem kw824 : Cond.methodLink "LiftedSystems$Image" 15 yX3_writeTo ∈ kTs := kTs_in (List.mem_of_getElem? (i := 824) (by decide +kernel)) rfl
theorem kw829 : Cond.methodLink "LiftedSystems" 287 yX6_give ∈ kTs := kTs_in (List.mem_of_getElem? (i := 829) (by decide +kernel)) rfl
theorem kw830 : Cond.instanceMethod yX6_give ∈ kTs := kTs_in (List.mem_of_getElem? (i := 830) (by decide +kernel)) rfl
theorem kw831 : Cond.selects "LiftedSystems$Image" yX6_give yX6_give ∈ kTs := kTs_in (List.mem_of_getElem? (i := 831) (by decide +kernel)) rfl
theorem kw832 : Cond.code yX6_give cX6_give 3 none ∈ kTs := kTs_in (List.mem_of_getElem? (i := 832) (by decide +kernel)) rfl
theorem kw833 : Cond.methodLink "LiftedSystems$Image" 32 yX3_readFrom ∈ kTs := kTs_in (List.mem_of_getElem? (i := 833) (by decide +kernel)) rfl
theorem kw840 : Cond.methodLink "LiftedSystemsModel" 35 yX12_layOnes ∈ kTs := kTs_in (List.mem_of_getElem? (i := 840) (by decide +kernel)) rfl
theorem kw842 : Cond.instanceMethod yX12_layOnes ∈ kTs := kTs_in (List.mem_of_getElem? (i := 842) (by decide +kernel)) rfl
theorem kw843 : Cond.code yX12_layOnes cX12_layOnes 3 none ∈ kTs := kTs_in (List.mem_of_getElem? (i := 843) (by decide +kernel)) rfl
theorem kw844 : Cond.fieldLink "LiftedSystemsModel" 7 "LiftedSystemsModel" "w" "[I" ∈ kTs := kTs_in (List.mem_of_getElem? (i := 844) (by decide +kernel)) rfl
theorem kw845 : Cond.fieldLink "LiftedSystemsModel" 43 "LiftedSystemsModel" "known" "I" ∈ kTs := kTs_in (List.mem_of_getElem? (i := 845) (by decide +kernel)) rfl
theorem kw846 : Cond.fieldLink "LiftedSystemsModel" 338 "LiftedSystemsModel" "kept" "I" ∈ kTs := kTs_in (List.mem_of_getElem? (i := 846) (by decide +kernel)) rfl
theorem kw847 : Cond.fieldLink "LiftedSystemsModel" 323 "LiftedSystemsModel" "seed" "I" ∈ kTs := kTs_in (List.mem_of_getElem? (i := 847) (by decide +kernel)) rfl
theorem kw848 : Cond.fieldLink "LiftedSystemsModel" 13 "LiftedSystemsModel" "imageSeed" "[I" ∈ kTs := kTs_in (List.mem_of_getElem? (i := 848) (by decide +kernel)) rfl
theorem kw849 : Cond.fieldLink "LiftedSystemsModel" 16 "LiftedSystemsModel" "bookOf" "[I" ∈ kTs := kTs_in (List.mem_of_getElem? (i := 849) (by decide +kernel)) rfl
theorem kw850 : Cond.fieldLink "LiftedSystemsModel" 19 "LiftedSystemsModel" "bookAt" "[I" ∈ kTs := kTs_in (List.mem_of_getElem? (i := 850) (by decide +kernel)) rfl
theorem kw851 : Cond.fieldLink "LiftedSystemsModel" 22 "LiftedSystemsModel" "bookIs" "[I" ∈ kTs := kTs_in (List.mem_of_getElem? (i := 851) (by decide +kernel)) rfl
theorem kw852 : Cond.fieldLink "LiftedSystemsModel" 243 "LiftedSystemsModel" "written" "I" ∈ kTs := kTs_in (List.mem_of_getElem? (i := 852) (by decide +kernel)) rfl
theorem kw853 : Cond.fieldLink "LiftedSystemsModel" 25 "LiftedSystemsModel" "rs" "[I" ∈ kTs := kTs_in (List.mem_of_getElem? (i := 853) (by decide +kernel)) rfl
theorem kw854 : Cond.fieldLink "LiftedSystemsModel" 28 "LiftedSystemsModel" "cs" "[I" ∈ kTs := kTs_in (List.mem_of_getElem? (i := 854) (by decide +kernel)) rfl
theorem kw855 : Cond.fieldLink "LiftedSystemsModel" 102 "LiftedSystemsModel" "above" "J" ∈ kTs := kTs_in (List.mem_of_getElem? (i := 855) (by decide +kernel)) rfl
theorem kw856 : Cond.fieldLink "LiftedSystemsModel" 106 "LiftedSystemsModel" "below" "J" ∈ kTs := kTs_in (List.mem_of_getElem? (i := 856) (by decide +kernel)) rfl
theorem kw857 : Cond.fieldLink "LiftedSystemsModel" 31 "LiftedSystemsModel" "zs" "[J" ∈ kTs := kTs_in (List.mem_of_getElem? (i := 857) (by decide +kernel)) rfl
theorem kw858 : Cond.fieldLink "LiftedSystemsModel" 140 "LiftedSystemsModel" "leftAbove" "J" ∈ kTs := kTs_in (List.mem_of_getElem? (i := 858) (by decide +kernel)) rfl
theorem kw859 : Cond.fieldLink "LiftedSystemsModel" 143 "LiftedSystemsModel" "leftBelow" "J" ∈ kTs := kTs_in (List.mem_of_getElem? (i := 859) (by decide +kernel)) rfl
theorem kw860 : Cond.fieldLink "LiftedSystemsModel" 168 "LiftedSystemsModel" "guessAbove" "J" ∈ kTs := kTs_in (List.mem_of_getElem? (i := 860) (by decide +kernel)) rfl
theorem kw861 : Cond.fieldLink "LiftedSystemsModel" 171 "LiftedSystemsModel" "guessBelow" "J" ∈ kTs := kTs_in (List.mem_of_getElem? (i := 861) (by decide +kernel)) rfl
theorem kw862 : Cond.fieldLink "LiftedSystemsModel" 184 "LiftedSystemsModel" "sign" "I" ∈ kTs := kTs_in (List.mem_of_getElem? (i := 862) (by decide +kernel)) rfl
theorem kw863 : Cond.fieldLink "LiftedSystemsModel" 187 "LiftedSystemsModel" "power2" "I" ∈ kTs := kTs_in (List.mem_of_getElem? (i := 863) (by decide +kernel)) rfl
theorem kw864 : Cond.fieldLink "LiftedSystemsModel" 190 "LiftedSystemsModel" "bits" "J" ∈ kTs := kTs_in (List.mem_of_getElem? (i := 864) (by decide +kernel)) rfl
theorem kw912 : Cond.methodLink "LiftedSystemsModel" 81 yX12_n ∈ kTs := kTs_in (List.mem_of_getElem? (i := 912) (by decide +kernel)) rfl
theorem kw914 : Cond.instanceMethod yX12_n ∈ kTs := kTs_in (List.mem_of_getElem? (i := 914) (by decide +kernel)) rfl
theorem kw915 : Cond.code yX12_n cX12_n 1 (some .int) ∈ kTs := kTs_in (List.mem_of_getElem? (i := 915) (by decide +kernel)) rfl
theorem kw916 : Cond.methodLink "LiftedSystemsModel" 128 yX12_p ∈ kTs := kTs_in (List.mem_of_getElem? (i := 916) (by decide +kernel)) rfl
theorem kw918 : Cond.instanceMethod yX12_p ∈ kTs := kTs_in (List.mem_of_getElem? (i := 918) (by decide +kernel)) rfl
theorem kw919 : Cond.code yX12_p cX12_p 3 (some .int) ∈ kTs := kTs_in (List.mem_of_getElem? (i := 919) (by decide +kernel)) rfl
theorem kw920 : Cond.methodLink "LiftedSystemsModel" 47 yX12_isPrime ∈ kTs := kTs_in (List.mem_of_getElem? (i := 920) (by decide +kernel)) rfl
theorem kw921 : Cond.static yX12_isPrime ∈ kTs := kTs_in (List.mem_of_getElem? (i := 921) (by decide +kernel)) rfl
theorem kw922 : Cond.code yX12_isPrime cX12_isPrime 3 (some .boolean) ∈ kTs := kTs_in (List.mem_of_getElem? (i := 922) (by decide +kernel)) rfl
theorem kw923 : Cond.methodLink "LiftedSystemsModel" 91 yX12_determinant ∈ kTs := kTs_in (List.mem_of_getElem? (i := 923) (by decide +kernel)) rfl
theorem kw925 : Cond.instanceMethod yX12_determinant ∈ kTs := kTs_in (List.mem_of_getElem? (i := 925) (by decide +kernel)) rfl
theorem kw926 : Cond.code yX12_determinant cX12_determinant 1 (some .long) ∈ kTs := kTs_in (List.mem_of_getElem? (i := 926) (by decide +kernel)) rfl
theorem kw927 : Cond.methodLink "LiftedSystemsModel" 85 yX12_allColumns ∈ kTs := kTs_in (List.mem_of_getElem? (i := 927) (by decide +kernel)) rfl
theorem kw929 : Cond.instanceMethod yX12_allColumns ∈ kTs := kTs_in (List.mem_of_getElem? (i := 929) (by decide +kernel)) rfl
theorem kw930 : Cond.code yX12_allColumns cX12_allColumns 1 (some .int) ∈ kTs := kTs_in (List.mem_of_getElem? (i := 930) (by decide +kernel)) rfl
theorem kw931 : Cond.methodLink "LiftedSystemsModel" 88 yX12_minor ∈ kTs := kTs_in (List.mem_of_getElem? (i := 931) (by decide +kernel)) rfl
theorem kw933 : Cond.instanceMethod yX12_minor ∈ kTs := kTs_in (List.mem_of_getElem? (i := 933) (by decide +kernel)) rfl
theorem kw934 : Cond.code yX12_minor cX12_minor 5 (some .long) ∈ kTs := kTs_in (List.mem_of_getElem? (i := 934) (by decide +kernel)) rfl
theorem kw935 : Cond.methodLink "LiftedSystemsModel" 69 yX12_ones ∈ kTs := kTs_in (List.mem_of_getElem? (i := 935) (by decide +kernel)) rfl
theorem kw936 : Cond.static yX12_ones ∈ kTs := kTs_in (List.mem_of_getElem? (i := 936) (by decide +kernel)) rfl
theorem kw937 : Cond.code yX12_ones cX12_ones 1 (some .int) ∈ kTs := kTs_in (List.mem_of_getElem? (i := 937) (by decide +kernel)) rfl
theorem kw938 : Cond.methodLink "LiftedSystemsModel" 73 yX12_pick ∈ kTs := kTs_in (List.mem_of_getElem? (i := 938) (by decide +kernel)) rfl
theorem kw939 : Cond.static yX12_pick ∈ kTs := kTs_in (List.mem_of_getElem? (i := 939) (by decide +kernel)) rfl
theorem kw940 : Cond.code yX12_pick cX12_pick 4 (some .int) ∈ kTs := kTs_in (List.mem_of_getElem? (i := 940) (by decide +kernel)) rfl
theorem kw941 : Cond.methodLink "LiftedSystemsModel" 65 yX12_has ∈ kTs := kTs_in (List.mem_of_getElem? (i := 941) (by decide +kernel)) rfl
theorem kw942 : Cond.static yX12_has ∈ kTs := kTs_in (List.mem_of_getElem? (i := 942) (by decide +kernel)) rfl
theorem kw943 : Cond.code yX12_has cX12_has 2 (some .boolean) ∈ kTs := kTs_in (List.mem_of_getElem? (i := 943) (by decide +kernel)) rfl
theorem kw944 : Cond.methodLink "LiftedSystemsModel" 77 yX12_det ∈ kTs := kTs_in (List.mem_of_getElem? (i := 944) (by decide +kernel)) rfl
theorem kw946 : Cond.instanceMethod yX12_det ∈ kTs := kTs_in (List.mem_of_getElem? (i := 946) (by decide +kernel)) rfl
theorem kw947 : Cond.code yX12_det cX12_det 2 (some .long) ∈ kTs := kTs_in (List.mem_of_getElem? (i := 947) (by decide +kernel)) rfl
theorem kw948 : Cond.methodLink "LiftedSystemsModel" 55 yX12_e ∈ kTs := kTs_in (List.mem_of_getElem? (i := 948) (by decide +kernel)) rfl
theorem kw950 : Cond.instanceMethod yX12_e ∈ kTs := kTs_in (List.mem_of_getElem? (i := 950) (by decide +kernel)) rfl
theorem kw951 : Cond.code yX12_e cX12_e 3 (some .long) ∈ kTs := kTs_in (List.mem_of_getElem? (i := 951) (by decide +kernel)) rfl
theorem kw952 : Cond.methodLink "LiftedSystemsModel" 51 yX12_cell ∈ kTs := kTs_in (List.mem_of_getElem? (i := 952) (by decide +kernel)) rfl
theorem kw954 : Cond.instanceMethod yX12_cell ∈ kTs := kTs_in (List.mem_of_getElem? (i := 954) (by decide +kernel)) rfl
theorem kw955 : Cond.code yX12_cell cX12_cell 3 (some .long) ∈ kTs := kTs_in (List.mem_of_getElem? (i := 955) (by decide +kernel)) rfl
theorem kw956 : Cond.methodLink "LiftedSystemsModel" 58 yX12_two ∈ kTs := kTs_in (List.mem_of_getElem? (i := 956) (by decide +kernel)) rfl
theorem kw958 : Cond.instanceMethod yX12_two ∈ kTs := kTs_in (List.mem_of_getElem? (i := 958) (by decide +kernel)) rfl
theorem kw959 : Cond.code yX12_two cX12_two 5 (some .long) ∈ kTs := kTs_in (List.mem_of_getElem? (i := 959) (by decide +kernel)) rfl
theorem kw960 : Cond.methodLink "LiftedSystemsModel" 62 yX12_three ∈ kTs := kTs_in (List.mem_of_getElem? (i := 960) (by decide +kernel)) rfl
theorem kw962 : Cond.instanceMethod yX12_three ∈ kTs := kTs_in (List.mem_of_getElem? (i := 962) (by decide +kernel)) rfl
theorem kw963 : Cond.code yX12_three cX12_three 5 (some .long) ∈ kTs := kTs_in (List.mem_of_getElem? (i := 963) (by decide +kernel)) rfl
theorem kw964 : Cond.constant "LiftedSystemsModel" 250 1000000000 ∈ kTs := kTs_in (List.mem_of_getElem? (i := 964) (by decide +kernel)) rfl
theorem kw965 : Cond.methodLink "LiftedSystemsModel" 119 yX12_rank ∈ kTs := kTs_in (List.mem_of_getElem? (i := 965) (by decide +kernel)) rfl
theorem kw967 : Cond.instanceMethod yX12_rank ∈ kTs := kTs_in (List.mem_of_getElem? (i := 967) (by decide +kernel)) rfl
theorem kw968 : Cond.code yX12_rank cX12_rank 1 (some .int) ∈ kTs := kTs_in (List.mem_of_getElem? (i := 968) (by decide +kernel)) rfl
theorem kw969 : Cond.methodLink "LiftedSystemsModel" 95 yX12_rankOf ∈ kTs := kTs_in (List.mem_of_getElem? (i := 969) (by decide +kernel)) rfl
theorem kw971 : Cond.instanceMethod yX12_rankOf ∈ kTs := kTs_in (List.mem_of_getElem? (i := 971) (by decide +kernel)) rfl
theorem kw972 : Cond.code yX12_rankOf cX12_rankOf 8 (some .int) ∈ kTs := kTs_in (List.mem_of_getElem? (i := 972) (by decide +kernel)) rfl
theorem kw973 : Cond.methodLink "LiftedSystemsModel" 125 yX12_wideRank ∈ kTs := kTs_in (List.mem_of_getElem? (i := 973) (by decide +kernel)) rfl
theorem kw975 : Cond.instanceMethod yX12_wideRank ∈ kTs := kTs_in (List.mem_of_getElem? (i := 975) (by decide +kernel)) rfl
theorem kw976 : Cond.code yX12_wideRank cX12_wideRank 2 (some .int) ∈ kTs := kTs_in (List.mem_of_getElem? (i := 976) (by decide +kernel)) rfl
theorem kw977 : Cond.methodLink "LiftedSystemsModel" 251 yX12_kind ∈ kTs := kTs_in (List.mem_of_getElem? (i := 977) (by decide +kernel)) rfl
theorem kw979 : Cond.instanceMethod yX12_kind ∈ kTs := kTs_in (List.mem_of_getElem? (i := 979) (by decide +kernel)) rfl
theorem kw980 : Cond.code yX12_kind cX12_kind 2 (some .int) ∈ kTs := kTs_in (List.mem_of_getElem? (i := 980) (by decide +kernel)) rfl
theorem kw981 : Cond.methodLink "LiftedSystemsModel" 109 yX12_leading ∈ kTs := kTs_in (List.mem_of_getElem? (i := 981) (by decide +kernel)) rfl
theorem kw983 : Cond.instanceMethod yX12_leading ∈ kTs := kTs_in (List.mem_of_getElem? (i := 983) (by decide +kernel)) rfl
theorem kw984 : Cond.code yX12_leading cX12_leading 3 (some .int) ∈ kTs := kTs_in (List.mem_of_getElem? (i := 984) (by decide +kernel)) rfl
theorem kw985 : Cond.methodLink "LiftedSystemsModel" 254 yX12_broken ∈ kTs := kTs_in (List.mem_of_getElem? (i := 985) (by decide +kernel)) rfl
theorem kw987 : Cond.instanceMethod yX12_broken ∈ kTs := kTs_in (List.mem_of_getElem? (i := 987) (by decide +kernel)) rfl
theorem kw988 : Cond.code yX12_broken cX12_broken 5 (some .int) ∈ kTs := kTs_in (List.mem_of_getElem? (i := 988) (by decide +kernel)) rfl
theorem kw989 : Cond.methodLink "LiftedSystemsModel" 122 yX12_layShare ∈ kTs := kTs_in (List.mem_of_getElem? (i := 989) (by decide +kernel)) rfl
theorem kw991 : Cond.instanceMethod yX12_layShare ∈ kTs := kTs_in (List.mem_of_getElem? (i := 991) (by decide +kernel)) rfl
theorem kw992 : Cond.code yX12_layShare cX12_layShare 9 none ∈ kTs := kTs_in (List.mem_of_getElem? (i := 992) (by decide +kernel)) rfl
theorem kw993 : Cond.methodLink "LiftedSystemsModel" 112 yX12_rowsFor ∈ kTs := kTs_in (List.mem_of_getElem? (i := 993) (by decide +kernel)) rfl
theorem kw995 : Cond.instanceMethod yX12_rowsFor ∈ kTs := kTs_in (List.mem_of_getElem? (i := 995) (by decide +kernel)) rfl
theorem kw996 : Cond.code yX12_rowsFor cX12_rowsFor 4 (some .int) ∈ kTs := kTs_in (List.mem_of_getElem? (i := 996) (by decide +kernel)) rfl
theorem kw997 : Cond.methodLink "LiftedSystemsModel" 115 yX12_layFraction ∈ kTs := kTs_in (List.mem_of_getElem? (i := 997) (by decide +kernel)) rfl
theorem kw999 : Cond.instanceMethod yX12_layFraction ∈ kTs := kTs_in (List.mem_of_getElem? (i := 999) (by decide +kernel)) rfl
theorem kw1000 : Cond.code yX12_layFraction cX12_layFraction 7 none ∈ kTs := kTs_in (List.mem_of_getElem? (i := 1000) (by decide +kernel)) rfl
theorem kw1001 : Cond.methodLink "LiftedSystemsModel" 98 yX12_divisor ∈ kTs := kTs_in (List.mem_of_getElem? (i := 1001) (by decide +kernel)) rfl
theorem kw1002 : Cond.static yX12_divisor ∈ kTs := kTs_in (List.mem_of_getElem? (i := 1002) (by decide +kernel)) rfl
theorem kw1003 : Cond.code yX12_divisor cX12_divisor 10 (some .long) ∈ kTs := kTs_in (List.mem_of_getElem? (i := 1003) (by decide +kernel)) rfl
theorem kw1004 : Cond.methodLink "LiftedSystemsModel" 257 yX12_toldOfPrime ∈ kTs := kTs_in (List.mem_of_getElem? (i := 1004) (by decide +kernel)) rfl
theorem kw1006 : Cond.instanceMethod yX12_toldOfPrime ∈ kTs := kTs_in (List.mem_of_getElem? (i := 1006) (by decide +kernel)) rfl
theorem kw1007 : Cond.code yX12_toldOfPrime cX12_toldOfPrime 2 (some .int) ∈ kTs := kTs_in (List.mem_of_getElem? (i := 1007) (by decide +kernel)) rfl
theorem kw1008 : Cond.methodLink "LiftedSystemsModel" 227 yX12_isBad ∈ kTs := kTs_in (List.mem_of_getElem? (i := 1008) (by decide +kernel)) rfl
theorem kw1010 : Cond.instanceMethod yX12_isBad ∈ kTs := kTs_in (List.mem_of_getElem? (i := 1010) (by decide +kernel)) rfl
theorem kw1011 : Cond.code yX12_isBad cX12_isBad 1 (some .boolean) ∈ kTs := kTs_in (List.mem_of_getElem? (i := 1011) (by decide +kernel)) rfl
theorem kw1012 : Cond.methodLink "LiftedSystemsModel" 231 yX12_badMany ∈ kTs := kTs_in (List.mem_of_getElem? (i := 1012) (by decide +kernel)) rfl
theorem kw1014 : Cond.instanceMethod yX12_badMany ∈ kTs := kTs_in (List.mem_of_getElem? (i := 1014) (by decide +kernel)) rfl
theorem kw1015 : Cond.code yX12_badMany cX12_badMany 5 (some .int) ∈ kTs := kTs_in (List.mem_of_getElem? (i := 1015) (by decide +kernel)) rfl
theorem kw1016 : Cond.methodLink "LiftedSystemsModel" 234 yX12_waysNow ∈ kTs := kTs_in (List.mem_of_getElem? (i := 1016) (by decide +kernel)) rfl
theorem kw1018 : Cond.instanceMethod yX12_waysNow ∈ kTs := kTs_in (List.mem_of_getElem? (i := 1018) (by decide +kernel)) rfl
theorem kw1019 : Cond.code yX12_waysNow cX12_waysNow 5 (some .int) ∈ kTs := kTs_in (List.mem_of_getElem? (i := 1019) (by decide +kernel)) rfl
theorem kw1020 : Cond.methodLink "LiftedSystemsModel" 237 yX12_sure ∈ kTs := kTs_in (List.mem_of_getElem? (i := 1020) (by decide +kernel)) rfl
theorem kw1022 : Cond.instanceMethod yX12_sure ∈ kTs := kTs_in (List.mem_of_getElem? (i := 1022) (by decide +kernel)) rfl
theorem kw1023 : Cond.code yX12_sure cX12_sure 7 (some .int) ∈ kTs := kTs_in (List.mem_of_getElem? (i := 1023) (by decide +kernel)) rfl
theorem kw1024 : Cond.constantLong "LiftedSystemsModel" 151 2 ∈ kTs := kTs_in (List.mem_of_getElem? (i := 1024) (by decide +kernel)) rfl
theorem kw1025 : Cond.methodLink "LiftedSystemsModel" 153 yX12_power ∈ kTs := kTs_in (List.mem_of_getElem? (i := 1025) (by decide +kernel)) rfl
theorem kw1026 : Cond.static yX12_power ∈ kTs := kTs_in (List.mem_of_getElem? (i := 1026) (by decide +kernel)) rfl
theorem kw1027 : Cond.code yX12_power cX12_power 6 (some .long) ∈ kTs := kTs_in (List.mem_of_getElem? (i := 1027) (by decide +kernel)) rfl
theorem kw1028 : Cond.constantLong "LiftedSystemsModel" 149 2000000000000000000 ∈ kTs := kTs_in (List.mem_of_getElem? (i := 1028) (by decide +kernel)) rfl
theorem kw1029 : Cond.methodLink "LiftedSystemsModel" 181 yX12_early ∈ kTs := kTs_in (List.mem_of_getElem? (i := 1029) (by decide +kernel)) rfl
theorem kw1031 : Cond.instanceMethod yX12_early ∈ kTs := kTs_in (List.mem_of_getElem? (i := 1031) (by decide +kernel)) rfl
theorem kw1032 : Cond.code yX12_early cX12_early 2 (some .int) ∈ kTs := kTs_in (List.mem_of_getElem? (i := 1032) (by decide +kernel)) rfl
theorem kw1033 : Cond.methodLink "LiftedSystemsModel" 177 yX12_allGuessed ∈ kTs := kTs_in (List.mem_of_getElem? (i := 1033) (by decide +kernel)) rfl
theorem kw1035 : Cond.instanceMethod yX12_allGuessed ∈ kTs := kTs_in (List.mem_of_getElem? (i := 1035) (by decide +kernel)) rfl
theorem kw1036 : Cond.code yX12_allGuessed cX12_allGuessed 5 (some .boolean) ∈ kTs := kTs_in (List.mem_of_getElem? (i := 1036) (by decide +kernel)) rfl
theorem kw1037 : Cond.methodLink "LiftedSystemsModel" 174 yX12_layGuess ∈ kTs := kTs_in (List.mem_of_getElem? (i := 1037) (by decide +kernel)) rfl
theorem kw1039 : Cond.instanceMethod yX12_layGuess ∈ kTs := kTs_in (List.mem_of_getElem? (i := 1039) (by decide +kernel)) rfl
theorem kw1040 : Cond.code yX12_layGuess cX12_layGuess 32 (some .boolean) ∈ kTs := kTs_in (List.mem_of_getElem? (i := 1040) (by decide +kernel)) rfl
theorem kw1041 : Cond.methodLink "LiftedSystemsModel" 157 yX12_halfRoot ∈ kTs := kTs_in (List.mem_of_getElem? (i := 1041) (by decide +kernel)) rfl
theorem kw1042 : Cond.static yX12_halfRoot ∈ kTs := kTs_in (List.mem_of_getElem? (i := 1042) (by decide +kernel)) rfl
theorem kw1043 : Cond.code yX12_halfRoot cX12_halfRoot 7 (some .long) ∈ kTs := kTs_in (List.mem_of_getElem? (i := 1043) (by decide +kernel)) rfl
theorem kw1044 : Cond.methodLink "LiftedSystemsModel" 161 yX12_firstDigits ∈ kTs := kTs_in (List.mem_of_getElem? (i := 1044) (by decide +kernel)) rfl
theorem kw1046 : Cond.instanceMethod yX12_firstDigits ∈ kTs := kTs_in (List.mem_of_getElem? (i := 1046) (by decide +kernel)) rfl
theorem kw1047 : Cond.code yX12_firstDigits cX12_firstDigits 16 (some .long) ∈ kTs := kTs_in (List.mem_of_getElem? (i := 1047) (by decide +kernel)) rfl
theorem kw1048 : Cond.methodLink "LiftedSystemsModel" 137 yX12_laySolution ∈ kTs := kTs_in (List.mem_of_getElem? (i := 1048) (by decide +kernel)) rfl
theorem kw1050 : Cond.instanceMethod yX12_laySolution ∈ kTs := kTs_in (List.mem_of_getElem? (i := 1050) (by decide +kernel)) rfl
theorem kw1051 : Cond.code yX12_laySolution cX12_laySolution 3 none ∈ kTs := kTs_in (List.mem_of_getElem? (i := 1051) (by decide +kernel)) rfl
theorem kw1052 : Cond.methodLink "LiftedSystemsModel" 134 yX12_inverse ∈ kTs := kTs_in (List.mem_of_getElem? (i := 1052) (by decide +kernel)) rfl
theorem kw1053 : Cond.static yX12_inverse ∈ kTs := kTs_in (List.mem_of_getElem? (i := 1053) (by decide +kernel)) rfl
theorem kw1054 : Cond.code yX12_inverse cX12_inverse 8 (some .long) ∈ kTs := kTs_in (List.mem_of_getElem? (i := 1054) (by decide +kernel)) rfl
theorem kw1055 : Cond.methodLink "LiftedSystemsModel" 131 yX12_leftOver ∈ kTs := kTs_in (List.mem_of_getElem? (i := 1055) (by decide +kernel)) rfl
theorem kw1056 : Cond.static yX12_leftOver ∈ kTs := kTs_in (List.mem_of_getElem? (i := 1056) (by decide +kernel)) rfl
theorem kw1057 : Cond.code yX12_leftOver cX12_leftOver 4 (some .long) ∈ kTs := kTs_in (List.mem_of_getElem? (i := 1057) (by decide +kernel)) rfl
theorem kw1058 : Cond.methodLink "LiftedSystemsModel" 164 yX12_in ∈ kTs := kTs_in (List.mem_of_getElem? (i := 1058) (by decide +kernel)) rfl
theorem kw1059 : Cond.static yX12_in ∈ kTs := kTs_in (List.mem_of_getElem? (i := 1059) (by decide +kernel)) rfl
theorem kw1060 : Cond.code yX12_in cX12_in 6 (some .boolean) ∈ kTs := kTs_in (List.mem_of_getElem? (i := 1060) (by decide +kernel)) rfl
theorem kw1061 : Cond.methodLink "LiftedSystemsModel" 240 yX12_tooSoon ∈ kTs := kTs_in (List.mem_of_getElem? (i := 1061) (by decide +kernel)) rfl
theorem kw1063 : Cond.instanceMethod yX12_tooSoon ∈ kTs := kTs_in (List.mem_of_getElem? (i := 1063) (by decide +kernel)) rfl
theorem kw1064 : Cond.code yX12_tooSoon cX12_tooSoon 4 (some .int) ∈ kTs := kTs_in (List.mem_of_getElem? (i := 1064) (by decide +kernel)) rfl
theorem kw1065 : Cond.methodLink "LiftedSystemsModel" 246 yX12_wrong ∈ kTs := kTs_in (List.mem_of_getElem? (i := 1065) (by decide +kernel)) rfl
theorem kw1067 : Cond.instanceMethod yX12_wrong ∈ kTs := kTs_in (List.mem_of_getElem? (i := 1067) (by decide +kernel)) rfl
theorem kw1068 : Cond.code yX12_wrong cX12_wrong 3 (some .int) ∈ kTs := kTs_in (List.mem_of_getElem? (i := 1068) (by decide +kernel)) rfl
theorem kw1069 : Cond.methodLink "LiftedSystemsModel" 260 yX12_isRow ∈ kTs := kTs_in (List.mem_of_getElem? (i := 1069) (by decide +kernel)) rfl
theorem kw1071 : Cond.instanceMethod yX12_isRow ∈ kTs := kTs_in (List.mem_of_getElem? (i := 1071) (by decide +kernel)) rfl
theorem kw1072 : Cond.code yX12_isRow cX12_isRow 2 (some .boolean) ∈ kTs := kTs_in (List.mem_of_getElem? (i := 1072) (by decide +kernel)) rfl
theorem kw1073 : Cond.methodLink "LiftedSystemsModel" 146 yX12_digitOf ∈ kTs := kTs_in (List.mem_of_getElem? (i := 1073) (by decide +kernel)) rfl
theorem kw1075 : Cond.instanceMethod yX12_digitOf ∈ kTs := kTs_in (List.mem_of_getElem? (i := 1075) (by decide +kernel)) rfl
theorem kw1076 : Cond.code yX12_digitOf cX12_digitOf 10 (some .int) ∈ kTs := kTs_in (List.mem_of_getElem? (i := 1076) (by decide +kernel)) rfl
theorem kw1077 : Cond.constant "LiftedSystemsModel" 249 (-1000000002) ∈ kTs := kTs_in (List.mem_of_getElem? (i := 1077) (by decide +kernel)) rfl
theorem kw1082 : Cond.constant "LiftedSystemsModel" 263 (-1000000001) ∈ kTs := kTs_in (List.mem_of_getElem? (i := 1082) (by decide +kernel)) rfl
theorem kw1095 : Cond.methodLink "LiftedSystemsModel" 264 yX12_layNothing ∈ kTs := kTs_in (List.mem_of_getElem? (i := 1095) (by decide +kernel)) rfl
theorem kw1097 : Cond.instanceMethod yX12_layNothing ∈ kTs := kTs_in (List.mem_of_getElem? (i := 1097) (by decide +kernel)) rfl
theorem kw1098 : Cond.code yX12_layNothing cX12_layNothing 6 none ∈ kTs := kTs_in (List.mem_of_getElem? (i := 1098) (by decide +kernel)) rfl
theorem kw1103 : Cond.constant "LiftedSystemsModel" 267 (-1000000003) ∈ kTs := kTs_in (List.mem_of_getElem? (i := 1103) (by decide +kernel)) rfl
theorem kw1104 : Cond.methodLink "LiftedSystemsModel" 268 yX12_backOf ∈ kTs := kTs_in (List.mem_of_getElem? (i := 1104) (by decide +kernel)) rfl
theorem kw1106 : Cond.instanceMethod yX12_backOf ∈ kTs := kTs_in (List.mem_of_getElem? (i := 1106) (by decide +kernel)) rfl
theorem kw1107 : Cond.code yX12_backOf cX12_backOf 7 (some .long) ∈ kTs := kTs_in (List.mem_of_getElem? (i := 1107) (by decide +kernel)) rfl
theorem kw1112 : Cond.constantLong "LiftedSystemsModel" 271 99 ∈ kTs := kTs_in (List.mem_of_getElem? (i := 1112) (by decide +kernel)) rfl
theorem kw1117 : Cond.constantLong "LiftedSystemsModel" 273 100 ∈ kTs := kTs_in (List.mem_of_getElem? (i := 1117) (by decide +kernel)) rfl
theorem kw1118 : Cond.methodLink "LiftedSystemsModel" 275 yX12_restOf ∈ kTs := kTs_in (List.mem_of_getElem? (i := 1118) (by decide +kernel)) rfl
theorem kw1120 : Cond.instanceMethod yX12_restOf ∈ kTs := kTs_in (List.mem_of_getElem? (i := 1120) (by decide +kernel)) rfl
theorem kw1121 : Cond.code yX12_restOf cX12_restOf 9 (some .long) ∈ kTs := kTs_in (List.mem_of_getElem? (i := 1121) (by decide +kernel)) rfl
theorem kw1126 : Cond.constantLong "LiftedSystemsModel" 278 (-1000000001) ∈ kTs := kTs_in (List.mem_of_getElem? (i := 1126) (by decide +kernel)) rfl
theorem kw1127 : Cond.constantLong "LiftedSystemsModel" 280 62 ∈ kTs := kTs_in (List.mem_of_getElem? (i := 1127) (by decide +kernel)) rfl
theorem kw1128 : Cond.constantLong "LiftedSystemsModel" 282 (-1000000002) ∈ kTs := kTs_in (List.mem_of_getElem? (i := 1128) (by decide +kernel)) rfl
theorem kw1129 : Cond.constantLong "LiftedSystemsModel" 284 (-1000000003) ∈ kTs := kTs_in (List.mem_of_getElem? (i := 1129) (by decide +kernel)) rfl
theorem kw1130 : Cond.constantLong "LiftedSystemsModel" 286 (-1) ∈ kTs := kTs_in (List.mem_of_getElem? (i := 1130) (by decide +kernel)) rfl
theorem kw1131 : Cond.constantLong "LiftedSystemsModel" 288 4000000000 ∈ kTs := kTs_in (List.mem_of_getElem? (i := 1131) (by decide +kernel)) rfl
theorem kw1136 : Cond.methodLink "LiftedSystemsModel" 290 yX12_nearNow ∈ kTs := kTs_in (List.mem_of_getElem? (i := 1136) (by decide +kernel)) rfl
theorem kw1138 : Cond.instanceMethod yX12_nearNow ∈ kTs := kTs_in (List.mem_of_getElem? (i := 1138) (by decide +kernel)) rfl
theorem kw1139 : Cond.code yX12_nearNow cX12_nearNow 3 (some .long) ∈ kTs := kTs_in (List.mem_of_getElem? (i := 1139) (by decide +kernel)) rfl
theorem kw1140 : Cond.methodLink "LiftedSystemsModel" 196 yX12_layNear ∈ kTs := kTs_in (List.mem_of_getElem? (i := 1140) (by decide +kernel)) rfl
theorem kw1142 : Cond.instanceMethod yX12_layNear ∈ kTs := kTs_in (List.mem_of_getElem? (i := 1142) (by decide +kernel)) rfl
theorem kw1143 : Cond.code yX12_layNear cX12_layNear 7 none ∈ kTs := kTs_in (List.mem_of_getElem? (i := 1143) (by decide +kernel)) rfl
theorem kw1144 : Cond.methodLink "LiftedSystemsModel" 193 yX12_shorten ∈ kTs := kTs_in (List.mem_of_getElem? (i := 1144) (by decide +kernel)) rfl
theorem kw1146 : Cond.instanceMethod yX12_shorten ∈ kTs := kTs_in (List.mem_of_getElem? (i := 1146) (by decide +kernel)) rfl
theorem kw1147 : Cond.code yX12_shorten cX12_shorten 2 none ∈ kTs := kTs_in (List.mem_of_getElem? (i := 1147) (by decide +kernel)) rfl
theorem kw1148 : Cond.constantLong "LiftedSystemsModel" 199 1023 ∈ kTs := kTs_in (List.mem_of_getElem? (i := 1148) (by decide +kernel)) rfl
theorem kw1149 : Cond.constantLong "LiftedSystemsModel" 201 4503599627370496 ∈ kTs := kTs_in (List.mem_of_getElem? (i := 1149) (by decide +kernel)) rfl
theorem kw1150 : Cond.constantLong "LiftedSystemsModel" 203 (-9223372036854775808) ∈ kTs := kTs_in (List.mem_of_getElem? (i := 1150) (by decide +kernel)) rfl
theorem kw1155 : Cond.methodLink "LiftedSystemsModel" 293 yX12_shortNow ∈ kTs := kTs_in (List.mem_of_getElem? (i := 1155) (by decide +kernel)) rfl
theorem kw1157 : Cond.instanceMethod yX12_shortNow ∈ kTs := kTs_in (List.mem_of_getElem? (i := 1157) (by decide +kernel)) rfl
theorem kw1158 : Cond.code yX12_shortNow cX12_shortNow 1 (some .long) ∈ kTs := kTs_in (List.mem_of_getElem? (i := 1158) (by decide +kernel)) rfl
theorem kw1159 : Cond.methodLink "LiftedSystemsModel" 208 yX12_layShort ∈ kTs := kTs_in (List.mem_of_getElem? (i := 1159) (by decide +kernel)) rfl
theorem kw1161 : Cond.instanceMethod yX12_layShort ∈ kTs := kTs_in (List.mem_of_getElem? (i := 1161) (by decide +kernel)) rfl
theorem kw1162 : Cond.code yX12_layShort cX12_layShort 1 none ∈ kTs := kTs_in (List.mem_of_getElem? (i := 1162) (by decide +kernel)) rfl
theorem kw1163 : Cond.methodLink "LiftedSystemsModel" 205 yX12_round ∈ kTs := kTs_in (List.mem_of_getElem? (i := 1163) (by decide +kernel)) rfl
theorem kw1165 : Cond.instanceMethod yX12_round ∈ kTs := kTs_in (List.mem_of_getElem? (i := 1165) (by decide +kernel)) rfl
theorem kw1166 : Cond.code yX12_round cX12_round 7 none ∈ kTs := kTs_in (List.mem_of_getElem? (i := 1166) (by decide +kernel)) rfl
theorem kw1167 : Cond.constantLong "LiftedSystemsModel" 211 127 ∈ kTs := kTs_in (List.mem_of_getElem? (i := 1167) (by decide +kernel)) rfl
theorem kw1168 : Cond.constantLong "LiftedSystemsModel" 213 8388608 ∈ kTs := kTs_in (List.mem_of_getElem? (i := 1168) (by decide +kernel)) rfl
theorem kw1173 : Cond.methodLink "LiftedSystemsModel" 296 yX12_cutNow ∈ kTs := kTs_in (List.mem_of_getElem? (i := 1173) (by decide +kernel)) rfl
theorem kw1175 : Cond.instanceMethod yX12_cutNow ∈ kTs := kTs_in (List.mem_of_getElem? (i := 1175) (by decide +kernel)) rfl
theorem kw1176 : Cond.code yX12_cutNow cX12_cutNow 6 (some .long) ∈ kTs := kTs_in (List.mem_of_getElem? (i := 1176) (by decide +kernel)) rfl
theorem kw1177 : Cond.constantLong "LiftedSystemsModel" 215 1000 ∈ kTs := kTs_in (List.mem_of_getElem? (i := 1177) (by decide +kernel)) rfl
theorem kw1178 : Cond.constantLong "LiftedSystemsModel" 217 16777216 ∈ kTs := kTs_in (List.mem_of_getElem? (i := 1178) (by decide +kernel)) rfl
theorem kw1179 : Cond.constantLong "LiftedSystemsModel" 219 1099511627776 ∈ kTs := kTs_in (List.mem_of_getElem? (i := 1179) (by decide +kernel)) rfl
theorem kw1180 : Cond.constantLong "LiftedSystemsModel" 221 2147483648 ∈ kTs := kTs_in (List.mem_of_getElem? (i := 1180) (by decide +kernel)) rfl
theorem kw1181 : Cond.constantLong "LiftedSystemsModel" 223 (-2147483648) ∈ kTs := kTs_in (List.mem_of_getElem? (i := 1181) (by decide +kernel)) rfl
theorem kw1182 : Cond.constantLong "LiftedSystemsModel" 225 2147483647 ∈ kTs := kTs_in (List.mem_of_getElem? (i := 1182) (by decide +kernel)) rfl
theorem kw1183 : Cond.constantLong "LiftedSystemsModel" 299 3000000000 ∈ kTs := kTs_in (List.mem_of_getElem? (i := 1183) (by decide +kernel)) rfl
theorem kw1188 : Cond.constantLong "LiftedSystemsModel" 301 4 ∈ kTs := kTs_in (List.mem_of_getElem? (i := 1188) (by decide +kernel)) rfl
theorem kw1189 : Cond.methodLink "LiftedSystemsModel" 303 yX12_remember ∈ kTs := kTs_in (List.mem_of_getElem? (i := 1189) (by decide +kernel)) rfl
theorem kw1191 : Cond.instanceMethod yX12_remember ∈ kTs := kTs_in (List.mem_of_getElem? (i := 1191) (by decide +kernel)) rfl
theorem kw1192 : Cond.code yX12_remember cX12_remember 2 none ∈ kTs := kTs_in (List.mem_of_getElem? (i := 1192) (by decide +kernel)) rfl
theorem kw1193 : Cond.methodLink "LiftedSystemsModel" 39 yX12_copyRow ∈ kTs := kTs_in (List.mem_of_getElem? (i := 1193) (by decide +kernel)) rfl
theorem kw1195 : Cond.instanceMethod yX12_copyRow ∈ kTs := kTs_in (List.mem_of_getElem? (i := 1195) (by decide +kernel)) rfl
theorem kw1196 : Cond.code yX12_copyRow cX12_copyRow 4 none ∈ kTs := kTs_in (List.mem_of_getElem? (i := 1196) (by decide +kernel)) rfl
theorem kw1201 : Cond.constantLong "LiftedSystemsModel" 306 (-9) ∈ kTs := kTs_in (List.mem_of_getElem? (i := 1201) (by decide +kernel)) rfl
theorem kw1202 : Cond.constantLong "LiftedSystemsModel" 308 9 ∈ kTs := kTs_in (List.mem_of_getElem? (i := 1202) (by decide +kernel)) rfl
theorem kw1203 : Cond.methodLink "LiftedSystemsModel" 310 yX12_set ∈ kTs := kTs_in (List.mem_of_getElem? (i := 1203) (by decide +kernel)) rfl
theorem kw1205 : Cond.instanceMethod yX12_set ∈ kTs := kTs_in (List.mem_of_getElem? (i := 1205) (by decide +kernel)) rfl
theorem kw1206 : Cond.code yX12_set cX12_set 4 none ∈ kTs := kTs_in (List.mem_of_getElem? (i := 1206) (by decide +kernel)) rfl
theorem kw1211 : Cond.constantLong "LiftedSystemsModel" 314 (-99) ∈ kTs := kTs_in (List.mem_of_getElem? (i := 1211) (by decide +kernel)) rfl
theorem kw1220 : Cond.constantLong "LiftedSystemsModel" 316 (-3) ∈ kTs := kTs_in (List.mem_of_getElem? (i := 1220) (by decide +kernel)) rfl
theorem kw1221 : Cond.constantLong "LiftedSystemsModel" 318 3 ∈ kTs := kTs_in (List.mem_of_getElem? (i := 1221) (by decide +kernel)) rfl
theorem kw1222 : Cond.constant "LiftedSystemsModel" 320 (-1000000004) ∈ kTs := kTs_in (List.mem_of_getElem? (i := 1222) (by decide +kernel)) rfl
theorem kw1231 : Cond.constantLong "LiftedSystemsModel" 321 24 ∈ kTs := kTs_in (List.mem_of_getElem? (i := 1231) (by decide +kernel)) rfl
theorem kw1236 : Cond.constantLong "LiftedSystemsModel" 331 12 ∈ kTs := kTs_in (List.mem_of_getElem? (i := 1236) (by decide +kernel)) rfl
theorem kw1237 : Cond.methodLink "LiftedSystemsModel" 333 yX12_draw ∈ kTs := kTs_in (List.mem_of_getElem? (i := 1237) (by decide +kernel)) rfl
theorem kw1239 : Cond.instanceMethod yX12_draw ∈ kTs := kTs_in (List.mem_of_getElem? (i := 1239) (by decide +kernel)) rfl
theorem kw1240 : Cond.code yX12_draw cX12_draw 2 (some .int) ∈ kTs := kTs_in (List.mem_of_getElem? (i := 1240) (by decide +kernel)) rfl
theorem kw1241 : Cond.constantLong "LiftedSystemsModel" 326 1103515245 ∈ kTs := kTs_in (List.mem_of_getElem? (i := 1241) (by decide +kernel)) rfl
theorem kw1242 : Cond.constantLong "LiftedSystemsModel" 328 12345 ∈ kTs := kTs_in (List.mem_of_getElem? (i := 1242) (by decide +kernel)) rfl
theorem kw1243 : Cond.constant "LiftedSystemsModel" 330 65536 ∈ kTs := kTs_in (List.mem_of_getElem? (i := 1243) (by decide +kernel)) rfl
theorem kw1248 : Cond.constantLong "LiftedSystemsModel" 336 16 ∈ kTs := kTs_in (List.mem_of_getElem? (i := 1248) (by decide +kernel)) rfl
theorem kw1269 : Cond.sameMethod "LiftedSystems$Rows" "LiftedSystems$Rows" "raise" "(I)Z" ∈ kTs := kTs_in (List.mem_of_getElem? (i := 1269) (by decide +kernel)) rfl
theorem kw1270 : Cond.sameMethod "LiftedSystems$Rows" "LiftedSystems$Rows" "exchangeRows" "(II)V" ∈ kTs := kTs_in (List.mem_of_getElem? (i := 1270) (by decide +kernel)) rfl
theorem kws_X9_raise_X1 : Cond.selects RX1 yX9_raise yX9_raise ∈ kTs := List.mem_append_left _ (by simp [kSel])
theorem kws_X9_raise_X8 : Cond.selects RX8 yX9_raise yX9_raise ∈ kTs := List.mem_append_left _ (by simp [kSel])
theorem kws_X9_exchangeRows_X1 : Cond.selects RX1 yX9_exchangeRows yX9_exchangeRows ∈ kTs := List.mem_append_left _ (by simp [kSel])
theorem kws_X9_exchangeRows_X8 : Cond.selects RX8 yX9_exchangeRows yX9_exchangeRows ∈ kTs := List.mem_append_left _ (by simp [kSel])
set_option maxRecDepth 100000 in
theorem kinX0 : ∀ w ∈ u_ws RX0 TX0 4, w ∈ kTs := by
  intro w hw
  have h : (u_ws RX0 TX0 4).all (fun w => decide (w ∈ kTs)) = true := by decide +kernel
  exact of_decide_eq_true (List.all_eq_true.mp h w hw)
set_option maxRecDepth 100000 in
theorem kinX1 : ∀ w ∈ u_ws RX1 TX1 7, w ∈ kTs := by
  intro w hw
  have h : (u_ws RX1 TX1 7).all (fun w => decide (w ∈ kTs)) = true := by decide +kernel
  exact of_decide_eq_true (List.all_eq_true.mp h w hw)
set_option maxRecDepth 100000 in
theorem kinX2 : ∀ w ∈ u_ws RX2 TX2 1, w ∈ kTs := by
  intro w hw
  have h : (u_ws RX2 TX2 1).all (fun w => decide (w ∈ kTs)) = true := by decide +kernel
  exact of_decide_eq_true (List.all_eq_true.mp h w hw)
set_option maxRecDepth 100000 in
theorem kinX3 : ∀ w ∈ u_ws RX3 TX3 3, w ∈ kTs := by
  intro w hw
  have h : (u_ws RX3 TX3 3).all (fun w => decide (w ∈ kTs)) = true := by decide +kernel
  exact of_decide_eq_true (List.all_eq_true.mp h w hw)
set_option maxRecDepth 100000 in
theorem kinX4 : ∀ w ∈ u_ws RX4 TX4 3, w ∈ kTs := by
  intro w hw
  have h : (u_ws RX4 TX4 3).all (fun w => decide (w ∈ kTs)) = true := by decide +kernel
  exact of_decide_eq_true (List.all_eq_true.mp h w hw)
set_option maxRecDepth 100000 in
theorem kinX5 : ∀ w ∈ u_ws RX5 TX5 3, w ∈ kTs := by
  intro w hw
  have h : (u_ws RX5 TX5 3).all (fun w => decide (w ∈ kTs)) = true := by decide +kernel
  exact of_decide_eq_true (List.all_eq_true.mp h w hw)
set_option maxRecDepth 100000 in
theorem kinX6 : ∀ w ∈ u_ws RX6 TX6 3, w ∈ kTs := by
  intro w hw
  have h : (u_ws RX6 TX6 3).all (fun w => decide (w ∈ kTs)) = true := by decide +kernel
  exact of_decide_eq_true (List.all_eq_true.mp h w hw)
set_option maxRecDepth 100000 in
theorem kinX7 : ∀ w ∈ u_ws RX7 TX7 4, w ∈ kTs := by
  intro w hw
  have h : (u_ws RX7 TX7 4).all (fun w => decide (w ∈ kTs)) = true := by decide +kernel
  exact of_decide_eq_true (List.all_eq_true.mp h w hw)
set_option maxRecDepth 100000 in
theorem kinX8 : ∀ w ∈ u_ws RX8 TX8 6, w ∈ kTs := by
  intro w hw
  have h : (u_ws RX8 TX8 6).all (fun w => decide (w ∈ kTs)) = true := by decide +kernel
  exact of_decide_eq_true (List.all_eq_true.mp h w hw)
set_option maxRecDepth 100000 in
theorem kinX10 : ∀ w ∈ u_ws RX10 TX10 6, w ∈ kTs := by
  intro w hw
  have h : (u_ws RX10 TX10 6).all (fun w => decide (w ∈ kTs)) = true := by decide +kernel
  exact of_decide_eq_true (List.all_eq_true.mp h w hw)
set_option maxRecDepth 100000 in
theorem kinX11 : ∀ w ∈ u_ws RX11 TX11 11, w ∈ kTs := by
  intro w hw
  have h : (u_ws RX11 TX11 11).all (fun w => decide (w ∈ kTs)) = true := by decide +kernel
  exact of_decide_eq_true (List.all_eq_true.mp h w hw)
set_option maxRecDepth 100000 in
theorem kinX12 : ∀ w ∈ u_ws RX12 TX12 21, w ∈ kTs := by
  intro w hw
  have h : (u_ws RX12 TX12 21).all (fun w => decide (w ∈ kTs)) = true := by decide +kernel
  exact of_decide_eq_true (List.all_eq_true.mp h w hw)
theorem kdJ9_floorMod_7cf53 : yJ9_floorMod_7cf53.cls ≠ "java/lang/invoke/MethodHandle" ∧ yJ9_floorMod_7cf53.cls ≠ "java/lang/invoke/VarHandle" ∧ (parseMethodDescriptor yJ9_floorMod_7cf53.desc).map (fun d => d.parameters.length) = some 2 := by decide +kernel
theorem kdVJ9_floorMod_7cf53 : yJ9_floorMod_7cf53.cls = RJ9 ∧ yJ9_floorMod_7cf53.cls ≠ "java/lang/invoke/MethodHandle" ∧ yJ9_floorMod_7cf53.cls ≠ "java/lang/invoke/VarHandle" ∧ (parseMethodDescriptor yJ9_floorMod_7cf53.desc).map (fun d => d.parameters.length) = some 2 := ⟨rfl, kdJ9_floorMod_7cf53⟩
theorem kdX0_append : yX0_append.cls ≠ "java/lang/invoke/MethodHandle" ∧ yX0_append.cls ≠ "java/lang/invoke/VarHandle" ∧ (parseMethodDescriptor yX0_append.desc).map (fun d => d.parameters.length) = some 3 := by decide +kernel
theorem kdVX0_append : yX0_append.cls = RX0 ∧ yX0_append.cls ≠ "java/lang/invoke/MethodHandle" ∧ yX0_append.cls ≠ "java/lang/invoke/VarHandle" ∧ (parseMethodDescriptor yX0_append.desc).map (fun d => d.parameters.length) = some 3 := ⟨rfl, kdX0_append⟩
theorem kdX0_firstBeyond : yX0_firstBeyond.cls ≠ "java/lang/invoke/MethodHandle" ∧ yX0_firstBeyond.cls ≠ "java/lang/invoke/VarHandle" ∧ (parseMethodDescriptor yX0_firstBeyond.desc).map (fun d => d.parameters.length) = some 1 := by decide +kernel
theorem kdVX0_firstBeyond : yX0_firstBeyond.cls = RX0 ∧ yX0_firstBeyond.cls ≠ "java/lang/invoke/MethodHandle" ∧ yX0_firstBeyond.cls ≠ "java/lang/invoke/VarHandle" ∧ (parseMethodDescriptor yX0_firstBeyond.desc).map (fun d => d.parameters.length) = some 1 := ⟨rfl, kdX0_firstBeyond⟩
theorem kdX0_firstOtherwise : yX0_firstOtherwise.cls ≠ "java/lang/invoke/MethodHandle" ∧ yX0_firstOtherwise.cls ≠ "java/lang/invoke/VarHandle" ∧ (parseMethodDescriptor yX0_firstOtherwise.desc).map (fun d => d.parameters.length) = some 3 := by decide +kernel
theorem kdVX0_firstOtherwise : yX0_firstOtherwise.cls = RX0 ∧ yX0_firstOtherwise.cls ≠ "java/lang/invoke/MethodHandle" ∧ yX0_firstOtherwise.cls ≠ "java/lang/invoke/VarHandle" ∧ (parseMethodDescriptor yX0_firstOtherwise.desc).map (fun d => d.parameters.length) = some 3 := ⟨rfl, kdX0_firstOtherwise⟩
theorem kdX10_go : yX10_go.cls ≠ "java/lang/invoke/MethodHandle" ∧ yX10_go.cls ≠ "java/lang/invoke/VarHandle" ∧ (parseMethodDescriptor yX10_go.desc).map (fun d => d.parameters.length) = some 4 := by decide +kernel
theorem kdVX10_go : yX10_go.cls = RX10 ∧ yX10_go.cls ≠ "java/lang/invoke/MethodHandle" ∧ yX10_go.cls ≠ "java/lang/invoke/VarHandle" ∧ (parseMethodDescriptor yX10_go.desc).map (fun d => d.parameters.length) = some 4 := ⟨rfl, kdX10_go⟩
theorem kdX10_guessAll : yX10_guessAll.cls ≠ "java/lang/invoke/MethodHandle" ∧ yX10_guessAll.cls ≠ "java/lang/invoke/VarHandle" ∧ (parseMethodDescriptor yX10_guessAll.desc).map (fun d => d.parameters.length) = some 2 := by decide +kernel
theorem kdVX10_guessAll : yX10_guessAll.cls = RX10 ∧ yX10_guessAll.cls ≠ "java/lang/invoke/MethodHandle" ∧ yX10_guessAll.cls ≠ "java/lang/invoke/VarHandle" ∧ (parseMethodDescriptor yX10_guessAll.desc).map (fun d => d.parameters.length) = some 2 := ⟨rfl, kdX10_guessAll⟩
theorem kdX11_areNotTwoRows : yX11_areNotTwoRows.cls ≠ "java/lang/invoke/MethodHandle" ∧ yX11_areNotTwoRows.cls ≠ "java/lang/invoke/VarHandle" ∧ (parseMethodDescriptor yX11_areNotTwoRows.desc).map (fun d => d.parameters.length) = some 2 := by decide +kernel
theorem kdVX11_areNotTwoRows : yX11_areNotTwoRows.cls = RX11 ∧ yX11_areNotTwoRows.cls ≠ "java/lang/invoke/MethodHandle" ∧ yX11_areNotTwoRows.cls ≠ "java/lang/invoke/VarHandle" ∧ (parseMethodDescriptor yX11_areNotTwoRows.desc).map (fun d => d.parameters.length) = some 2 := ⟨rfl, kdX11_areNotTwoRows⟩
theorem kdX11_at : yX11_at.cls ≠ "java/lang/invoke/MethodHandle" ∧ yX11_at.cls ≠ "java/lang/invoke/VarHandle" ∧ (parseMethodDescriptor yX11_at.desc).map (fun d => d.parameters.length) = some 2 := by decide +kernel
theorem kdVX11_at : yX11_at.cls = RX11 ∧ yX11_at.cls ≠ "java/lang/invoke/MethodHandle" ∧ yX11_at.cls ≠ "java/lang/invoke/VarHandle" ∧ (parseMethodDescriptor yX11_at.desc).map (fun d => d.parameters.length) = some 2 := ⟨rfl, kdX11_at⟩
theorem kdX11_back : yX11_back.cls ≠ "java/lang/invoke/MethodHandle" ∧ yX11_back.cls ≠ "java/lang/invoke/VarHandle" ∧ (parseMethodDescriptor yX11_back.desc).map (fun d => d.parameters.length) = some 2 := by decide +kernel
theorem kdVX11_back : yX11_back.cls = RX11 ∧ yX11_back.cls ≠ "java/lang/invoke/MethodHandle" ∧ yX11_back.cls ≠ "java/lang/invoke/VarHandle" ∧ (parseMethodDescriptor yX11_back.desc).map (fun d => d.parameters.length) = some 2 := ⟨rfl, kdX11_back⟩
theorem kdX11_badPrimes : yX11_badPrimes.cls ≠ "java/lang/invoke/MethodHandle" ∧ yX11_badPrimes.cls ≠ "java/lang/invoke/VarHandle" ∧ (parseMethodDescriptor yX11_badPrimes.desc).map (fun d => d.parameters.length) = some 1 := by decide +kernel
theorem kdVX11_badPrimes : yX11_badPrimes.cls = RX11 ∧ yX11_badPrimes.cls ≠ "java/lang/invoke/MethodHandle" ∧ yX11_badPrimes.cls ≠ "java/lang/invoke/VarHandle" ∧ (parseMethodDescriptor yX11_badPrimes.desc).map (fun d => d.parameters.length) = some 1 := ⟨rfl, kdX11_badPrimes⟩
theorem kdX11_bitsOfDouble : yX11_bitsOfDouble.cls ≠ "java/lang/invoke/MethodHandle" ∧ yX11_bitsOfDouble.cls ≠ "java/lang/invoke/VarHandle" ∧ (parseMethodDescriptor yX11_bitsOfDouble.desc).map (fun d => d.parameters.length) = some 1 := by decide +kernel
theorem kdVX11_bitsOfDouble : yX11_bitsOfDouble.cls = RX11 ∧ yX11_bitsOfDouble.cls ≠ "java/lang/invoke/MethodHandle" ∧ yX11_bitsOfDouble.cls ≠ "java/lang/invoke/VarHandle" ∧ (parseMethodDescriptor yX11_bitsOfDouble.desc).map (fun d => d.parameters.length) = some 1 := ⟨rfl, kdX11_bitsOfDouble⟩
theorem kdX11_bitsOfFloat : yX11_bitsOfFloat.cls ≠ "java/lang/invoke/MethodHandle" ∧ yX11_bitsOfFloat.cls ≠ "java/lang/invoke/VarHandle" ∧ (parseMethodDescriptor yX11_bitsOfFloat.desc).map (fun d => d.parameters.length) = some 1 := by decide +kernel
theorem kdVX11_bitsOfFloat : yX11_bitsOfFloat.cls = RX11 ∧ yX11_bitsOfFloat.cls ≠ "java/lang/invoke/MethodHandle" ∧ yX11_bitsOfFloat.cls ≠ "java/lang/invoke/VarHandle" ∧ (parseMethodDescriptor yX11_bitsOfFloat.desc).map (fun d => d.parameters.length) = some 1 := ⟨rfl, kdX11_bitsOfFloat⟩
theorem kdX11_bitsOfSize : yX11_bitsOfSize.cls ≠ "java/lang/invoke/MethodHandle" ∧ yX11_bitsOfSize.cls ≠ "java/lang/invoke/VarHandle" ∧ (parseMethodDescriptor yX11_bitsOfSize.desc).map (fun d => d.parameters.length) = some 3 := by decide +kernel
theorem kdVX11_bitsOfSize : yX11_bitsOfSize.cls = RX11 ∧ yX11_bitsOfSize.cls ≠ "java/lang/invoke/MethodHandle" ∧ yX11_bitsOfSize.cls ≠ "java/lang/invoke/VarHandle" ∧ (parseMethodDescriptor yX11_bitsOfSize.desc).map (fun d => d.parameters.length) = some 3 := ⟨rfl, kdX11_bitsOfSize⟩
theorem kdX11_change : yX11_change.cls ≠ "java/lang/invoke/MethodHandle" ∧ yX11_change.cls ≠ "java/lang/invoke/VarHandle" ∧ (parseMethodDescriptor yX11_change.desc).map (fun d => d.parameters.length) = some 3 := by decide +kernel
theorem kdVX11_change : yX11_change.cls = RX11 ∧ yX11_change.cls ≠ "java/lang/invoke/MethodHandle" ∧ yX11_change.cls ≠ "java/lang/invoke/VarHandle" ∧ (parseMethodDescriptor yX11_change.desc).map (fun d => d.parameters.length) = some 3 := ⟨rfl, kdX11_change⟩
theorem kdX11_changeByDraws : yX11_changeByDraws.cls ≠ "java/lang/invoke/MethodHandle" ∧ yX11_changeByDraws.cls ≠ "java/lang/invoke/VarHandle" ∧ (parseMethodDescriptor yX11_changeByDraws.desc).map (fun d => d.parameters.length) = some 0 := by decide +kernel
theorem kdVX11_changeByDraws : yX11_changeByDraws.cls = RX11 ∧ yX11_changeByDraws.cls ≠ "java/lang/invoke/MethodHandle" ∧ yX11_changeByDraws.cls ≠ "java/lang/invoke/VarHandle" ∧ (parseMethodDescriptor yX11_changeByDraws.desc).map (fun d => d.parameters.length) = some 0 := ⟨rfl, kdX11_changeByDraws⟩
theorem kdX11_cleared : yX11_cleared.cls ≠ "java/lang/invoke/MethodHandle" ∧ yX11_cleared.cls ≠ "java/lang/invoke/VarHandle" ∧ (parseMethodDescriptor yX11_cleared.desc).map (fun d => d.parameters.length) = some 3 := by decide +kernel
theorem kdVX11_cleared : yX11_cleared.cls = RX11 ∧ yX11_cleared.cls ≠ "java/lang/invoke/MethodHandle" ∧ yX11_cleared.cls ≠ "java/lang/invoke/VarHandle" ∧ (parseMethodDescriptor yX11_cleared.desc).map (fun d => d.parameters.length) = some 3 := ⟨rfl, kdX11_cleared⟩
theorem kdX11_cut : yX11_cut.cls ≠ "java/lang/invoke/MethodHandle" ∧ yX11_cut.cls ≠ "java/lang/invoke/VarHandle" ∧ (parseMethodDescriptor yX11_cut.desc).map (fun d => d.parameters.length) = some 1 := by decide +kernel
theorem kdVX11_cut : yX11_cut.cls = RX11 ∧ yX11_cut.cls ≠ "java/lang/invoke/MethodHandle" ∧ yX11_cut.cls ≠ "java/lang/invoke/VarHandle" ∧ (parseMethodDescriptor yX11_cut.desc).map (fun d => d.parameters.length) = some 1 := ⟨rfl, kdX11_cut⟩
theorem kdX11_digit : yX11_digit.cls ≠ "java/lang/invoke/MethodHandle" ∧ yX11_digit.cls ≠ "java/lang/invoke/VarHandle" ∧ (parseMethodDescriptor yX11_digit.desc).map (fun d => d.parameters.length) = some 2 := by decide +kernel
theorem kdVX11_digit : yX11_digit.cls = RX11 ∧ yX11_digit.cls ≠ "java/lang/invoke/MethodHandle" ∧ yX11_digit.cls ≠ "java/lang/invoke/VarHandle" ∧ (parseMethodDescriptor yX11_digit.desc).map (fun d => d.parameters.length) = some 2 := ⟨rfl, kdX11_digit⟩
theorem kdX11_drift : yX11_drift.cls ≠ "java/lang/invoke/MethodHandle" ∧ yX11_drift.cls ≠ "java/lang/invoke/VarHandle" ∧ (parseMethodDescriptor yX11_drift.desc).map (fun d => d.parameters.length) = some 1 := by decide +kernel
theorem kdVX11_drift : yX11_drift.cls = RX11 ∧ yX11_drift.cls ≠ "java/lang/invoke/MethodHandle" ∧ yX11_drift.cls ≠ "java/lang/invoke/VarHandle" ∧ (parseMethodDescriptor yX11_drift.desc).map (fun d => d.parameters.length) = some 1 := ⟨rfl, kdX11_drift⟩
theorem kdX11_firstWrong : yX11_firstWrong.cls ≠ "java/lang/invoke/MethodHandle" ∧ yX11_firstWrong.cls ≠ "java/lang/invoke/VarHandle" ∧ (parseMethodDescriptor yX11_firstWrong.desc).map (fun d => d.parameters.length) = some 0 := by decide +kernel
theorem kdVX11_firstWrong : yX11_firstWrong.cls = RX11 ∧ yX11_firstWrong.cls ≠ "java/lang/invoke/MethodHandle" ∧ yX11_firstWrong.cls ≠ "java/lang/invoke/VarHandle" ∧ (parseMethodDescriptor yX11_firstWrong.desc).map (fun d => d.parameters.length) = some 0 := ⟨rfl, kdX11_firstWrong⟩
theorem kdX11_gcd : yX11_gcd.cls ≠ "java/lang/invoke/MethodHandle" ∧ yX11_gcd.cls ≠ "java/lang/invoke/VarHandle" ∧ (parseMethodDescriptor yX11_gcd.desc).map (fun d => d.parameters.length) = some 2 := by decide +kernel
theorem kdVX11_gcd : yX11_gcd.cls = RX11 ∧ yX11_gcd.cls ≠ "java/lang/invoke/MethodHandle" ∧ yX11_gcd.cls ≠ "java/lang/invoke/VarHandle" ∧ (parseMethodDescriptor yX11_gcd.desc).map (fun d => d.parameters.length) = some 2 := ⟨rfl, kdX11_gcd⟩
theorem kdX11_goBack : yX11_goBack.cls ≠ "java/lang/invoke/MethodHandle" ∧ yX11_goBack.cls ≠ "java/lang/invoke/VarHandle" ∧ (parseMethodDescriptor yX11_goBack.desc).map (fun d => d.parameters.length) = some 1 := by decide +kernel
theorem kdVX11_goBack : yX11_goBack.cls = RX11 ∧ yX11_goBack.cls ≠ "java/lang/invoke/MethodHandle" ∧ yX11_goBack.cls ≠ "java/lang/invoke/VarHandle" ∧ (parseMethodDescriptor yX11_goBack.desc).map (fun d => d.parameters.length) = some 1 := ⟨rfl, kdX11_goBack⟩
theorem kdX11_guess : yX11_guess.cls ≠ "java/lang/invoke/MethodHandle" ∧ yX11_guess.cls ≠ "java/lang/invoke/VarHandle" ∧ (parseMethodDescriptor yX11_guess.desc).map (fun d => d.parameters.length) = some 3 := by decide +kernel
theorem kdVX11_guess : yX11_guess.cls = RX11 ∧ yX11_guess.cls ≠ "java/lang/invoke/MethodHandle" ∧ yX11_guess.cls ≠ "java/lang/invoke/VarHandle" ∧ (parseMethodDescriptor yX11_guess.desc).map (fun d => d.parameters.length) = some 3 := ⟨rfl, kdX11_guess⟩
theorem kdX11_imageOf : yX11_imageOf.cls ≠ "java/lang/invoke/MethodHandle" ∧ yX11_imageOf.cls ≠ "java/lang/invoke/VarHandle" ∧ (parseMethodDescriptor yX11_imageOf.desc).map (fun d => d.parameters.length) = some 1 := by decide +kernel
theorem kdVX11_imageOf : yX11_imageOf.cls = RX11 ∧ yX11_imageOf.cls ≠ "java/lang/invoke/MethodHandle" ∧ yX11_imageOf.cls ≠ "java/lang/invoke/VarHandle" ∧ (parseMethodDescriptor yX11_imageOf.desc).map (fun d => d.parameters.length) = some 1 := ⟨rfl, kdX11_imageOf⟩
theorem kdX11_isNeitherPart : yX11_isNeitherPart.cls ≠ "java/lang/invoke/MethodHandle" ∧ yX11_isNeitherPart.cls ≠ "java/lang/invoke/VarHandle" ∧ (parseMethodDescriptor yX11_isNeitherPart.desc).map (fun d => d.parameters.length) = some 1 := by decide +kernel
theorem kdVX11_isNeitherPart : yX11_isNeitherPart.cls = RX11 ∧ yX11_isNeitherPart.cls ≠ "java/lang/invoke/MethodHandle" ∧ yX11_isNeitherPart.cls ≠ "java/lang/invoke/VarHandle" ∧ (parseMethodDescriptor yX11_isNeitherPart.desc).map (fun d => d.parameters.length) = some 1 := ⟨rfl, kdX11_isNeitherPart⟩
theorem kdX11_isNoDigit : yX11_isNoDigit.cls ≠ "java/lang/invoke/MethodHandle" ∧ yX11_isNoDigit.cls ≠ "java/lang/invoke/VarHandle" ∧ (parseMethodDescriptor yX11_isNoDigit.desc).map (fun d => d.parameters.length) = some 1 := by decide +kernel
theorem kdVX11_isNoDigit : yX11_isNoDigit.cls = RX11 ∧ yX11_isNoDigit.cls ≠ "java/lang/invoke/MethodHandle" ∧ yX11_isNoDigit.cls ≠ "java/lang/invoke/VarHandle" ∧ (parseMethodDescriptor yX11_isNoDigit.desc).map (fun d => d.parameters.length) = some 1 := ⟨rfl, kdX11_isNoDigit⟩
theorem kdX11_isNoImage : yX11_isNoImage.cls ≠ "java/lang/invoke/MethodHandle" ∧ yX11_isNoImage.cls ≠ "java/lang/invoke/VarHandle" ∧ (parseMethodDescriptor yX11_isNoImage.desc).map (fun d => d.parameters.length) = some 1 := by decide +kernel
theorem kdVX11_isNoImage : yX11_isNoImage.cls = RX11 ∧ yX11_isNoImage.cls ≠ "java/lang/invoke/MethodHandle" ∧ yX11_isNoImage.cls ≠ "java/lang/invoke/VarHandle" ∧ (parseMethodDescriptor yX11_isNoImage.desc).map (fun d => d.parameters.length) = some 1 := ⟨rfl, kdX11_isNoImage⟩
theorem kdX11_keep : yX11_keep.cls ≠ "java/lang/invoke/MethodHandle" ∧ yX11_keep.cls ≠ "java/lang/invoke/VarHandle" ∧ (parseMethodDescriptor yX11_keep.desc).map (fun d => d.parameters.length) = some 1 := by decide +kernel
theorem kdVX11_keep : yX11_keep.cls = RX11 ∧ yX11_keep.cls ≠ "java/lang/invoke/MethodHandle" ∧ yX11_keep.cls ≠ "java/lang/invoke/VarHandle" ∧ (parseMethodDescriptor yX11_keep.desc).map (fun d => d.parameters.length) = some 1 := ⟨rfl, kdX11_keep⟩
theorem kdX11_leftOver : yX11_leftOver.cls ≠ "java/lang/invoke/MethodHandle" ∧ yX11_leftOver.cls ≠ "java/lang/invoke/VarHandle" ∧ (parseMethodDescriptor yX11_leftOver.desc).map (fun d => d.parameters.length) = some 2 := by decide +kernel
theorem kdVX11_leftOver : yX11_leftOver.cls = RX11 ∧ yX11_leftOver.cls ≠ "java/lang/invoke/MethodHandle" ∧ yX11_leftOver.cls ≠ "java/lang/invoke/VarHandle" ∧ (parseMethodDescriptor yX11_leftOver.desc).map (fun d => d.parameters.length) = some 2 := ⟨rfl, kdX11_leftOver⟩
theorem kdX11_lift : yX11_lift.cls ≠ "java/lang/invoke/MethodHandle" ∧ yX11_lift.cls ≠ "java/lang/invoke/VarHandle" ∧ (parseMethodDescriptor yX11_lift.desc).map (fun d => d.parameters.length) = some 1 := by decide +kernel
theorem kdVX11_lift : yX11_lift.cls = RX11 ∧ yX11_lift.cls ≠ "java/lang/invoke/MethodHandle" ∧ yX11_lift.cls ≠ "java/lang/invoke/VarHandle" ∧ (parseMethodDescriptor yX11_lift.desc).map (fun d => d.parameters.length) = some 1 := ⟨rfl, kdX11_lift⟩
theorem kdX11_mix : yX11_mix.cls ≠ "java/lang/invoke/MethodHandle" ∧ yX11_mix.cls ≠ "java/lang/invoke/VarHandle" ∧ (parseMethodDescriptor yX11_mix.desc).map (fun d => d.parameters.length) = some 3 := by decide +kernel
theorem kdVX11_mix : yX11_mix.cls = RX11 ∧ yX11_mix.cls ≠ "java/lang/invoke/MethodHandle" ∧ yX11_mix.cls ≠ "java/lang/invoke/VarHandle" ∧ (parseMethodDescriptor yX11_mix.desc).map (fun d => d.parameters.length) = some 3 := ⟨rfl, kdX11_mix⟩
theorem kdX11_near : yX11_near.cls ≠ "java/lang/invoke/MethodHandle" ∧ yX11_near.cls ≠ "java/lang/invoke/VarHandle" ∧ (parseMethodDescriptor yX11_near.desc).map (fun d => d.parameters.length) = some 1 := by decide +kernel
theorem kdVX11_near : yX11_near.cls = RX11 ∧ yX11_near.cls ≠ "java/lang/invoke/MethodHandle" ∧ yX11_near.cls ≠ "java/lang/invoke/VarHandle" ∧ (parseMethodDescriptor yX11_near.desc).map (fun d => d.parameters.length) = some 1 := ⟨rfl, kdX11_near⟩
theorem kdX11_nothing : yX11_nothing.cls ≠ "java/lang/invoke/MethodHandle" ∧ yX11_nothing.cls ≠ "java/lang/invoke/VarHandle" ∧ (parseMethodDescriptor yX11_nothing.desc).map (fun d => d.parameters.length) = some 1 := by decide +kernel
theorem kdVX11_nothing : yX11_nothing.cls = RX11 ∧ yX11_nothing.cls ≠ "java/lang/invoke/MethodHandle" ∧ yX11_nothing.cls ≠ "java/lang/invoke/VarHandle" ∧ (parseMethodDescriptor yX11_nothing.desc).map (fun d => d.parameters.length) = some 1 := ⟨rfl, kdX11_nothing⟩
theorem kdX11_powerForGuess : yX11_powerForGuess.cls ≠ "java/lang/invoke/MethodHandle" ∧ yX11_powerForGuess.cls ≠ "java/lang/invoke/VarHandle" ∧ (parseMethodDescriptor yX11_powerForGuess.desc).map (fun d => d.parameters.length) = some 2 := by decide +kernel
theorem kdVX11_powerForGuess : yX11_powerForGuess.cls = RX11 ∧ yX11_powerForGuess.cls ≠ "java/lang/invoke/MethodHandle" ∧ yX11_powerForGuess.cls ≠ "java/lang/invoke/VarHandle" ∧ (parseMethodDescriptor yX11_powerForGuess.desc).map (fun d => d.parameters.length) = some 2 := ⟨rfl, kdX11_powerForGuess⟩
theorem kdX11_prime : yX11_prime.cls ≠ "java/lang/invoke/MethodHandle" ∧ yX11_prime.cls ≠ "java/lang/invoke/VarHandle" ∧ (parseMethodDescriptor yX11_prime.desc).map (fun d => d.parameters.length) = some 1 := by decide +kernel
theorem kdVX11_prime : yX11_prime.cls = RX11 ∧ yX11_prime.cls ≠ "java/lang/invoke/MethodHandle" ∧ yX11_prime.cls ≠ "java/lang/invoke/VarHandle" ∧ (parseMethodDescriptor yX11_prime.desc).map (fun d => d.parameters.length) = some 1 := ⟨rfl, kdX11_prime⟩
theorem kdX11_primeIsBad : yX11_primeIsBad.cls ≠ "java/lang/invoke/MethodHandle" ∧ yX11_primeIsBad.cls ≠ "java/lang/invoke/VarHandle" ∧ (parseMethodDescriptor yX11_primeIsBad.desc).map (fun d => d.parameters.length) = some 0 := by decide +kernel
theorem kdVX11_primeIsBad : yX11_primeIsBad.cls = RX11 ∧ yX11_primeIsBad.cls ≠ "java/lang/invoke/MethodHandle" ∧ yX11_primeIsBad.cls ≠ "java/lang/invoke/VarHandle" ∧ (parseMethodDescriptor yX11_primeIsBad.desc).map (fun d => d.parameters.length) = some 0 := ⟨rfl, kdX11_primeIsBad⟩
theorem kdX11_put : yX11_put.cls ≠ "java/lang/invoke/MethodHandle" ∧ yX11_put.cls ≠ "java/lang/invoke/VarHandle" ∧ (parseMethodDescriptor yX11_put.desc).map (fun d => d.parameters.length) = some 3 := by decide +kernel
theorem kdVX11_put : yX11_put.cls = RX11 ∧ yX11_put.cls ≠ "java/lang/invoke/MethodHandle" ∧ yX11_put.cls ≠ "java/lang/invoke/VarHandle" ∧ (parseMethodDescriptor yX11_put.desc).map (fun d => d.parameters.length) = some 3 := ⟨rfl, kdX11_put⟩
theorem kdX11_quotient : yX11_quotient.cls ≠ "java/lang/invoke/MethodHandle" ∧ yX11_quotient.cls ≠ "java/lang/invoke/VarHandle" ∧ (parseMethodDescriptor yX11_quotient.desc).map (fun d => d.parameters.length) = some 2 := by decide +kernel
theorem kdVX11_quotient : yX11_quotient.cls = RX11 ∧ yX11_quotient.cls ≠ "java/lang/invoke/MethodHandle" ∧ yX11_quotient.cls ≠ "java/lang/invoke/VarHandle" ∧ (parseMethodDescriptor yX11_quotient.desc).map (fun d => d.parameters.length) = some 2 := ⟨rfl, kdX11_quotient⟩
theorem kdX11_rank : yX11_rank.cls ≠ "java/lang/invoke/MethodHandle" ∧ yX11_rank.cls ≠ "java/lang/invoke/VarHandle" ∧ (parseMethodDescriptor yX11_rank.desc).map (fun d => d.parameters.length) = some 0 := by decide +kernel
theorem kdVX11_rank : yX11_rank.cls = RX11 ∧ yX11_rank.cls ≠ "java/lang/invoke/MethodHandle" ∧ yX11_rank.cls ≠ "java/lang/invoke/VarHandle" ∧ (parseMethodDescriptor yX11_rank.desc).map (fun d => d.parameters.length) = some 0 := ⟨rfl, kdX11_rank⟩
theorem kdX11_rest : yX11_rest.cls ≠ "java/lang/invoke/MethodHandle" ∧ yX11_rest.cls ≠ "java/lang/invoke/VarHandle" ∧ (parseMethodDescriptor yX11_rest.desc).map (fun d => d.parameters.length) = some 2 := by decide +kernel
theorem kdVX11_rest : yX11_rest.cls = RX11 ∧ yX11_rest.cls ≠ "java/lang/invoke/MethodHandle" ∧ yX11_rest.cls ≠ "java/lang/invoke/VarHandle" ∧ (parseMethodDescriptor yX11_rest.desc).map (fun d => d.parameters.length) = some 2 := ⟨rfl, kdX11_rest⟩
theorem kdX11_seed : yX11_seed.cls ≠ "java/lang/invoke/MethodHandle" ∧ yX11_seed.cls ≠ "java/lang/invoke/VarHandle" ∧ (parseMethodDescriptor yX11_seed.desc).map (fun d => d.parameters.length) = some 1 := by decide +kernel
theorem kdVX11_seed : yX11_seed.cls = RX11 ∧ yX11_seed.cls ≠ "java/lang/invoke/MethodHandle" ∧ yX11_seed.cls ≠ "java/lang/invoke/VarHandle" ∧ (parseMethodDescriptor yX11_seed.desc).map (fun d => d.parameters.length) = some 1 := ⟨rfl, kdX11_seed⟩
theorem kdX11_shortly : yX11_shortly.cls ≠ "java/lang/invoke/MethodHandle" ∧ yX11_shortly.cls ≠ "java/lang/invoke/VarHandle" ∧ (parseMethodDescriptor yX11_shortly.desc).map (fun d => d.parameters.length) = some 1 := by decide +kernel
theorem kdVX11_shortly : yX11_shortly.cls = RX11 ∧ yX11_shortly.cls ≠ "java/lang/invoke/MethodHandle" ∧ yX11_shortly.cls ≠ "java/lang/invoke/VarHandle" ∧ (parseMethodDescriptor yX11_shortly.desc).map (fun d => d.parameters.length) = some 1 := ⟨rfl, kdX11_shortly⟩
theorem kdX11_shownPart : yX11_shownPart.cls ≠ "java/lang/invoke/MethodHandle" ∧ yX11_shownPart.cls ≠ "java/lang/invoke/VarHandle" ∧ (parseMethodDescriptor yX11_shownPart.desc).map (fun d => d.parameters.length) = some 3 := by decide +kernel
theorem kdVX11_shownPart : yX11_shownPart.cls = RX11 ∧ yX11_shownPart.cls ≠ "java/lang/invoke/MethodHandle" ∧ yX11_shownPart.cls ≠ "java/lang/invoke/VarHandle" ∧ (parseMethodDescriptor yX11_shownPart.desc).map (fun d => d.parameters.length) = some 3 := ⟨rfl, kdX11_shownPart⟩
theorem kdX11_side : yX11_side.cls ≠ "java/lang/invoke/MethodHandle" ∧ yX11_side.cls ≠ "java/lang/invoke/VarHandle" ∧ (parseMethodDescriptor yX11_side.desc).map (fun d => d.parameters.length) = some 2 := by decide +kernel
theorem kdVX11_side : yX11_side.cls = RX11 ∧ yX11_side.cls ≠ "java/lang/invoke/MethodHandle" ∧ yX11_side.cls ≠ "java/lang/invoke/VarHandle" ∧ (parseMethodDescriptor yX11_side.desc).map (fun d => d.parameters.length) = some 2 := ⟨rfl, kdX11_side⟩
theorem kdX11_size : yX11_size.cls ≠ "java/lang/invoke/MethodHandle" ∧ yX11_size.cls ≠ "java/lang/invoke/VarHandle" ∧ (parseMethodDescriptor yX11_size.desc).map (fun d => d.parameters.length) = some 1 := by decide +kernel
theorem kdVX11_size : yX11_size.cls = RX11 ∧ yX11_size.cls ≠ "java/lang/invoke/MethodHandle" ∧ yX11_size.cls ≠ "java/lang/invoke/VarHandle" ∧ (parseMethodDescriptor yX11_size.desc).map (fun d => d.parameters.length) = some 1 := ⟨rfl, kdX11_size⟩
theorem kdX11_solution : yX11_solution.cls ≠ "java/lang/invoke/MethodHandle" ∧ yX11_solution.cls ≠ "java/lang/invoke/VarHandle" ∧ (parseMethodDescriptor yX11_solution.desc).map (fun d => d.parameters.length) = some 2 := by decide +kernel
theorem kdVX11_solution : yX11_solution.cls = RX11 ∧ yX11_solution.cls ≠ "java/lang/invoke/MethodHandle" ∧ yX11_solution.cls ≠ "java/lang/invoke/VarHandle" ∧ (parseMethodDescriptor yX11_solution.desc).map (fun d => d.parameters.length) = some 2 := ⟨rfl, kdX11_solution⟩
theorem kdX11_sure : yX11_sure.cls ≠ "java/lang/invoke/MethodHandle" ∧ yX11_sure.cls ≠ "java/lang/invoke/VarHandle" ∧ (parseMethodDescriptor yX11_sure.desc).map (fun d => d.parameters.length) = some 0 := by decide +kernel
theorem kdVX11_sure : yX11_sure.cls = RX11 ∧ yX11_sure.cls ≠ "java/lang/invoke/MethodHandle" ∧ yX11_sure.cls ≠ "java/lang/invoke/VarHandle" ∧ (parseMethodDescriptor yX11_sure.desc).map (fun d => d.parameters.length) = some 0 := ⟨rfl, kdX11_sure⟩
theorem kdX11_swap : yX11_swap.cls ≠ "java/lang/invoke/MethodHandle" ∧ yX11_swap.cls ≠ "java/lang/invoke/VarHandle" ∧ (parseMethodDescriptor yX11_swap.desc).map (fun d => d.parameters.length) = some 2 := by decide +kernel
theorem kdVX11_swap : yX11_swap.cls = RX11 ∧ yX11_swap.cls ≠ "java/lang/invoke/MethodHandle" ∧ yX11_swap.cls ≠ "java/lang/invoke/VarHandle" ∧ (parseMethodDescriptor yX11_swap.desc).map (fun d => d.parameters.length) = some 2 := ⟨rfl, kdX11_swap⟩
theorem kdX11_tear : yX11_tear.cls ≠ "java/lang/invoke/MethodHandle" ∧ yX11_tear.cls ≠ "java/lang/invoke/VarHandle" ∧ (parseMethodDescriptor yX11_tear.desc).map (fun d => d.parameters.length) = some 0 := by decide +kernel
theorem kdVX11_tear : yX11_tear.cls = RX11 ∧ yX11_tear.cls ≠ "java/lang/invoke/MethodHandle" ∧ yX11_tear.cls ≠ "java/lang/invoke/VarHandle" ∧ (parseMethodDescriptor yX11_tear.desc).map (fun d => d.parameters.length) = some 0 := ⟨rfl, kdX11_tear⟩
theorem kdX11_told : yX11_told.cls ≠ "java/lang/invoke/MethodHandle" ∧ yX11_told.cls ≠ "java/lang/invoke/VarHandle" ∧ (parseMethodDescriptor yX11_told.desc).map (fun d => d.parameters.length) = some 1 := by decide +kernel
theorem kdVX11_told : yX11_told.cls = RX11 ∧ yX11_told.cls ≠ "java/lang/invoke/MethodHandle" ∧ yX11_told.cls ≠ "java/lang/invoke/VarHandle" ∧ (parseMethodDescriptor yX11_told.desc).map (fun d => d.parameters.length) = some 1 := ⟨rfl, kdX11_told⟩
theorem kdX11_toldByPrime : yX11_toldByPrime.cls ≠ "java/lang/invoke/MethodHandle" ∧ yX11_toldByPrime.cls ≠ "java/lang/invoke/VarHandle" ∧ (parseMethodDescriptor yX11_toldByPrime.desc).map (fun d => d.parameters.length) = some 1 := by decide +kernel
theorem kdVX11_toldByPrime : yX11_toldByPrime.cls = RX11 ∧ yX11_toldByPrime.cls ≠ "java/lang/invoke/MethodHandle" ∧ yX11_toldByPrime.cls ≠ "java/lang/invoke/VarHandle" ∧ (parseMethodDescriptor yX11_toldByPrime.desc).map (fun d => d.parameters.length) = some 1 := ⟨rfl, kdX11_toldByPrime⟩
theorem kdX11_toldOfGuesses : yX11_toldOfGuesses.cls ≠ "java/lang/invoke/MethodHandle" ∧ yX11_toldOfGuesses.cls ≠ "java/lang/invoke/VarHandle" ∧ (parseMethodDescriptor yX11_toldOfGuesses.desc).map (fun d => d.parameters.length) = some 1 := by decide +kernel
theorem kdVX11_toldOfGuesses : yX11_toldOfGuesses.cls = RX11 ∧ yX11_toldOfGuesses.cls ≠ "java/lang/invoke/MethodHandle" ∧ yX11_toldOfGuesses.cls ≠ "java/lang/invoke/VarHandle" ∧ (parseMethodDescriptor yX11_toldOfGuesses.desc).map (fun d => d.parameters.length) = some 1 := ⟨rfl, kdX11_toldOfGuesses⟩
theorem kdX11_toldOfTable : yX11_toldOfTable.cls ≠ "java/lang/invoke/MethodHandle" ∧ yX11_toldOfTable.cls ≠ "java/lang/invoke/VarHandle" ∧ (parseMethodDescriptor yX11_toldOfTable.desc).map (fun d => d.parameters.length) = some 1 := by decide +kernel
theorem kdVX11_toldOfTable : yX11_toldOfTable.cls = RX11 ∧ yX11_toldOfTable.cls ≠ "java/lang/invoke/MethodHandle" ∧ yX11_toldOfTable.cls ≠ "java/lang/invoke/VarHandle" ∧ (parseMethodDescriptor yX11_toldOfTable.desc).map (fun d => d.parameters.length) = some 1 := ⟨rfl, kdX11_toldOfTable⟩
theorem kdX11_turn : yX11_turn.cls ≠ "java/lang/invoke/MethodHandle" ∧ yX11_turn.cls ≠ "java/lang/invoke/VarHandle" ∧ (parseMethodDescriptor yX11_turn.desc).map (fun d => d.parameters.length) = some 0 := by decide +kernel
theorem kdVX11_turn : yX11_turn.cls = RX11 ∧ yX11_turn.cls ≠ "java/lang/invoke/MethodHandle" ∧ yX11_turn.cls ≠ "java/lang/invoke/VarHandle" ∧ (parseMethodDescriptor yX11_turn.desc).map (fun d => d.parameters.length) = some 0 := ⟨rfl, kdX11_turn⟩
theorem kdX11_undo : yX11_undo.cls ≠ "java/lang/invoke/MethodHandle" ∧ yX11_undo.cls ≠ "java/lang/invoke/VarHandle" ∧ (parseMethodDescriptor yX11_undo.desc).map (fun d => d.parameters.length) = some 1 := by decide +kernel
theorem kdVX11_undo : yX11_undo.cls = RX11 ∧ yX11_undo.cls ≠ "java/lang/invoke/MethodHandle" ∧ yX11_undo.cls ≠ "java/lang/invoke/VarHandle" ∧ (parseMethodDescriptor yX11_undo.desc).map (fun d => d.parameters.length) = some 1 := ⟨rfl, kdX11_undo⟩
theorem kdX11_whyNoValue : yX11_whyNoValue.cls ≠ "java/lang/invoke/MethodHandle" ∧ yX11_whyNoValue.cls ≠ "java/lang/invoke/VarHandle" ∧ (parseMethodDescriptor yX11_whyNoValue.desc).map (fun d => d.parameters.length) = some 1 := by decide +kernel
theorem kdVX11_whyNoValue : yX11_whyNoValue.cls = RX11 ∧ yX11_whyNoValue.cls ≠ "java/lang/invoke/MethodHandle" ∧ yX11_whyNoValue.cls ≠ "java/lang/invoke/VarHandle" ∧ (parseMethodDescriptor yX11_whyNoValue.desc).map (fun d => d.parameters.length) = some 1 := ⟨rfl, kdX11_whyNoValue⟩
theorem kdX11_write : yX11_write.cls ≠ "java/lang/invoke/MethodHandle" ∧ yX11_write.cls ≠ "java/lang/invoke/VarHandle" ∧ (parseMethodDescriptor yX11_write.desc).map (fun d => d.parameters.length) = some 3 := by decide +kernel
theorem kdVX11_write : yX11_write.cls = RX11 ∧ yX11_write.cls ≠ "java/lang/invoke/MethodHandle" ∧ yX11_write.cls ≠ "java/lang/invoke/VarHandle" ∧ (parseMethodDescriptor yX11_write.desc).map (fun d => d.parameters.length) = some 3 := ⟨rfl, kdX11_write⟩
theorem kdX12_allColumns : yX12_allColumns.cls ≠ "java/lang/invoke/MethodHandle" ∧ yX12_allColumns.cls ≠ "java/lang/invoke/VarHandle" ∧ (parseMethodDescriptor yX12_allColumns.desc).map (fun d => d.parameters.length) = some 0 := by decide +kernel
theorem kdVX12_allColumns : yX12_allColumns.cls = RX12 ∧ yX12_allColumns.cls ≠ "java/lang/invoke/MethodHandle" ∧ yX12_allColumns.cls ≠ "java/lang/invoke/VarHandle" ∧ (parseMethodDescriptor yX12_allColumns.desc).map (fun d => d.parameters.length) = some 0 := ⟨rfl, kdX12_allColumns⟩
theorem kdX12_allGuessed : yX12_allGuessed.cls ≠ "java/lang/invoke/MethodHandle" ∧ yX12_allGuessed.cls ≠ "java/lang/invoke/VarHandle" ∧ (parseMethodDescriptor yX12_allGuessed.desc).map (fun d => d.parameters.length) = some 2 := by decide +kernel
theorem kdVX12_allGuessed : yX12_allGuessed.cls = RX12 ∧ yX12_allGuessed.cls ≠ "java/lang/invoke/MethodHandle" ∧ yX12_allGuessed.cls ≠ "java/lang/invoke/VarHandle" ∧ (parseMethodDescriptor yX12_allGuessed.desc).map (fun d => d.parameters.length) = some 2 := ⟨rfl, kdX12_allGuessed⟩
theorem kdX12_at : yX12_at.cls ≠ "java/lang/invoke/MethodHandle" ∧ yX12_at.cls ≠ "java/lang/invoke/VarHandle" ∧ (parseMethodDescriptor yX12_at.desc).map (fun d => d.parameters.length) = some 2 := by decide +kernel
theorem kdVX12_at : yX12_at.cls = RX12 ∧ yX12_at.cls ≠ "java/lang/invoke/MethodHandle" ∧ yX12_at.cls ≠ "java/lang/invoke/VarHandle" ∧ (parseMethodDescriptor yX12_at.desc).map (fun d => d.parameters.length) = some 2 := ⟨rfl, kdX12_at⟩
theorem kdX12_back : yX12_back.cls ≠ "java/lang/invoke/MethodHandle" ∧ yX12_back.cls ≠ "java/lang/invoke/VarHandle" ∧ (parseMethodDescriptor yX12_back.desc).map (fun d => d.parameters.length) = some 2 := by decide +kernel
theorem kdVX12_back : yX12_back.cls = RX12 ∧ yX12_back.cls ≠ "java/lang/invoke/MethodHandle" ∧ yX12_back.cls ≠ "java/lang/invoke/VarHandle" ∧ (parseMethodDescriptor yX12_back.desc).map (fun d => d.parameters.length) = some 2 := ⟨rfl, kdX12_back⟩
theorem kdX12_backOf : yX12_backOf.cls ≠ "java/lang/invoke/MethodHandle" ∧ yX12_backOf.cls ≠ "java/lang/invoke/VarHandle" ∧ (parseMethodDescriptor yX12_backOf.desc).map (fun d => d.parameters.length) = some 2 := by decide +kernel
theorem kdVX12_backOf : yX12_backOf.cls = RX12 ∧ yX12_backOf.cls ≠ "java/lang/invoke/MethodHandle" ∧ yX12_backOf.cls ≠ "java/lang/invoke/VarHandle" ∧ (parseMethodDescriptor yX12_backOf.desc).map (fun d => d.parameters.length) = some 2 := ⟨rfl, kdX12_backOf⟩
theorem kdX12_badMany : yX12_badMany.cls ≠ "java/lang/invoke/MethodHandle" ∧ yX12_badMany.cls ≠ "java/lang/invoke/VarHandle" ∧ (parseMethodDescriptor yX12_badMany.desc).map (fun d => d.parameters.length) = some 0 := by decide +kernel
theorem kdVX12_badMany : yX12_badMany.cls = RX12 ∧ yX12_badMany.cls ≠ "java/lang/invoke/MethodHandle" ∧ yX12_badMany.cls ≠ "java/lang/invoke/VarHandle" ∧ (parseMethodDescriptor yX12_badMany.desc).map (fun d => d.parameters.length) = some 0 := ⟨rfl, kdX12_badMany⟩
theorem kdX12_broken : yX12_broken.cls ≠ "java/lang/invoke/MethodHandle" ∧ yX12_broken.cls ≠ "java/lang/invoke/VarHandle" ∧ (parseMethodDescriptor yX12_broken.desc).map (fun d => d.parameters.length) = some 0 := by decide +kernel
theorem kdVX12_broken : yX12_broken.cls = RX12 ∧ yX12_broken.cls ≠ "java/lang/invoke/MethodHandle" ∧ yX12_broken.cls ≠ "java/lang/invoke/VarHandle" ∧ (parseMethodDescriptor yX12_broken.desc).map (fun d => d.parameters.length) = some 0 := ⟨rfl, kdX12_broken⟩
theorem kdX12_cell : yX12_cell.cls ≠ "java/lang/invoke/MethodHandle" ∧ yX12_cell.cls ≠ "java/lang/invoke/VarHandle" ∧ (parseMethodDescriptor yX12_cell.desc).map (fun d => d.parameters.length) = some 2 := by decide +kernel
theorem kdVX12_cell : yX12_cell.cls = RX12 ∧ yX12_cell.cls ≠ "java/lang/invoke/MethodHandle" ∧ yX12_cell.cls ≠ "java/lang/invoke/VarHandle" ∧ (parseMethodDescriptor yX12_cell.desc).map (fun d => d.parameters.length) = some 2 := ⟨rfl, kdX12_cell⟩
theorem kdX12_cleared : yX12_cleared.cls ≠ "java/lang/invoke/MethodHandle" ∧ yX12_cleared.cls ≠ "java/lang/invoke/VarHandle" ∧ (parseMethodDescriptor yX12_cleared.desc).map (fun d => d.parameters.length) = some 3 := by decide +kernel
theorem kdVX12_cleared : yX12_cleared.cls = RX12 ∧ yX12_cleared.cls ≠ "java/lang/invoke/MethodHandle" ∧ yX12_cleared.cls ≠ "java/lang/invoke/VarHandle" ∧ (parseMethodDescriptor yX12_cleared.desc).map (fun d => d.parameters.length) = some 3 := ⟨rfl, kdX12_cleared⟩
theorem kdX12_copyRow : yX12_copyRow.cls ≠ "java/lang/invoke/MethodHandle" ∧ yX12_copyRow.cls ≠ "java/lang/invoke/VarHandle" ∧ (parseMethodDescriptor yX12_copyRow.desc).map (fun d => d.parameters.length) = some 2 := by decide +kernel
theorem kdVX12_copyRow : yX12_copyRow.cls = RX12 ∧ yX12_copyRow.cls ≠ "java/lang/invoke/MethodHandle" ∧ yX12_copyRow.cls ≠ "java/lang/invoke/VarHandle" ∧ (parseMethodDescriptor yX12_copyRow.desc).map (fun d => d.parameters.length) = some 2 := ⟨rfl, kdX12_copyRow⟩
theorem kdX12_cut : yX12_cut.cls ≠ "java/lang/invoke/MethodHandle" ∧ yX12_cut.cls ≠ "java/lang/invoke/VarHandle" ∧ (parseMethodDescriptor yX12_cut.desc).map (fun d => d.parameters.length) = some 1 := by decide +kernel
theorem kdVX12_cut : yX12_cut.cls = RX12 ∧ yX12_cut.cls ≠ "java/lang/invoke/MethodHandle" ∧ yX12_cut.cls ≠ "java/lang/invoke/VarHandle" ∧ (parseMethodDescriptor yX12_cut.desc).map (fun d => d.parameters.length) = some 1 := ⟨rfl, kdX12_cut⟩
theorem kdX12_cutNow : yX12_cutNow.cls ≠ "java/lang/invoke/MethodHandle" ∧ yX12_cutNow.cls ≠ "java/lang/invoke/VarHandle" ∧ (parseMethodDescriptor yX12_cutNow.desc).map (fun d => d.parameters.length) = some 0 := by decide +kernel
theorem kdVX12_cutNow : yX12_cutNow.cls = RX12 ∧ yX12_cutNow.cls ≠ "java/lang/invoke/MethodHandle" ∧ yX12_cutNow.cls ≠ "java/lang/invoke/VarHandle" ∧ (parseMethodDescriptor yX12_cutNow.desc).map (fun d => d.parameters.length) = some 0 := ⟨rfl, kdX12_cutNow⟩
theorem kdX12_det : yX12_det.cls ≠ "java/lang/invoke/MethodHandle" ∧ yX12_det.cls ≠ "java/lang/invoke/VarHandle" ∧ (parseMethodDescriptor yX12_det.desc).map (fun d => d.parameters.length) = some 1 := by decide +kernel
theorem kdVX12_det : yX12_det.cls = RX12 ∧ yX12_det.cls ≠ "java/lang/invoke/MethodHandle" ∧ yX12_det.cls ≠ "java/lang/invoke/VarHandle" ∧ (parseMethodDescriptor yX12_det.desc).map (fun d => d.parameters.length) = some 1 := ⟨rfl, kdX12_det⟩
theorem kdX12_determinant : yX12_determinant.cls ≠ "java/lang/invoke/MethodHandle" ∧ yX12_determinant.cls ≠ "java/lang/invoke/VarHandle" ∧ (parseMethodDescriptor yX12_determinant.desc).map (fun d => d.parameters.length) = some 0 := by decide +kernel
theorem kdVX12_determinant : yX12_determinant.cls = RX12 ∧ yX12_determinant.cls ≠ "java/lang/invoke/MethodHandle" ∧ yX12_determinant.cls ≠ "java/lang/invoke/VarHandle" ∧ (parseMethodDescriptor yX12_determinant.desc).map (fun d => d.parameters.length) = some 0 := ⟨rfl, kdX12_determinant⟩
theorem kdX12_digit : yX12_digit.cls ≠ "java/lang/invoke/MethodHandle" ∧ yX12_digit.cls ≠ "java/lang/invoke/VarHandle" ∧ (parseMethodDescriptor yX12_digit.desc).map (fun d => d.parameters.length) = some 2 := by decide +kernel
theorem kdVX12_digit : yX12_digit.cls = RX12 ∧ yX12_digit.cls ≠ "java/lang/invoke/MethodHandle" ∧ yX12_digit.cls ≠ "java/lang/invoke/VarHandle" ∧ (parseMethodDescriptor yX12_digit.desc).map (fun d => d.parameters.length) = some 2 := ⟨rfl, kdX12_digit⟩
theorem kdX12_digitOf : yX12_digitOf.cls ≠ "java/lang/invoke/MethodHandle" ∧ yX12_digitOf.cls ≠ "java/lang/invoke/VarHandle" ∧ (parseMethodDescriptor yX12_digitOf.desc).map (fun d => d.parameters.length) = some 2 := by decide +kernel
theorem kdVX12_digitOf : yX12_digitOf.cls = RX12 ∧ yX12_digitOf.cls ≠ "java/lang/invoke/MethodHandle" ∧ yX12_digitOf.cls ≠ "java/lang/invoke/VarHandle" ∧ (parseMethodDescriptor yX12_digitOf.desc).map (fun d => d.parameters.length) = some 2 := ⟨rfl, kdX12_digitOf⟩
theorem kdX12_divisor : yX12_divisor.cls ≠ "java/lang/invoke/MethodHandle" ∧ yX12_divisor.cls ≠ "java/lang/invoke/VarHandle" ∧ (parseMethodDescriptor yX12_divisor.desc).map (fun d => d.parameters.length) = some 2 := by decide +kernel
theorem kdVX12_divisor : yX12_divisor.cls = RX12 ∧ yX12_divisor.cls ≠ "java/lang/invoke/MethodHandle" ∧ yX12_divisor.cls ≠ "java/lang/invoke/VarHandle" ∧ (parseMethodDescriptor yX12_divisor.desc).map (fun d => d.parameters.length) = some 2 := ⟨rfl, kdX12_divisor⟩
theorem kdX12_draw : yX12_draw.cls ≠ "java/lang/invoke/MethodHandle" ∧ yX12_draw.cls ≠ "java/lang/invoke/VarHandle" ∧ (parseMethodDescriptor yX12_draw.desc).map (fun d => d.parameters.length) = some 1 := by decide +kernel
theorem kdVX12_draw : yX12_draw.cls = RX12 ∧ yX12_draw.cls ≠ "java/lang/invoke/MethodHandle" ∧ yX12_draw.cls ≠ "java/lang/invoke/VarHandle" ∧ (parseMethodDescriptor yX12_draw.desc).map (fun d => d.parameters.length) = some 1 := ⟨rfl, kdX12_draw⟩
theorem kdX12_drift : yX12_drift.cls ≠ "java/lang/invoke/MethodHandle" ∧ yX12_drift.cls ≠ "java/lang/invoke/VarHandle" ∧ (parseMethodDescriptor yX12_drift.desc).map (fun d => d.parameters.length) = some 1 := by decide +kernel
theorem kdVX12_drift : yX12_drift.cls = RX12 ∧ yX12_drift.cls ≠ "java/lang/invoke/MethodHandle" ∧ yX12_drift.cls ≠ "java/lang/invoke/VarHandle" ∧ (parseMethodDescriptor yX12_drift.desc).map (fun d => d.parameters.length) = some 1 := ⟨rfl, kdX12_drift⟩
theorem kdX12_e : yX12_e.cls ≠ "java/lang/invoke/MethodHandle" ∧ yX12_e.cls ≠ "java/lang/invoke/VarHandle" ∧ (parseMethodDescriptor yX12_e.desc).map (fun d => d.parameters.length) = some 2 := by decide +kernel
theorem kdVX12_e : yX12_e.cls = RX12 ∧ yX12_e.cls ≠ "java/lang/invoke/MethodHandle" ∧ yX12_e.cls ≠ "java/lang/invoke/VarHandle" ∧ (parseMethodDescriptor yX12_e.desc).map (fun d => d.parameters.length) = some 2 := ⟨rfl, kdX12_e⟩
theorem kdX12_early : yX12_early.cls ≠ "java/lang/invoke/MethodHandle" ∧ yX12_early.cls ≠ "java/lang/invoke/VarHandle" ∧ (parseMethodDescriptor yX12_early.desc).map (fun d => d.parameters.length) = some 0 := by decide +kernel
theorem kdVX12_early : yX12_early.cls = RX12 ∧ yX12_early.cls ≠ "java/lang/invoke/MethodHandle" ∧ yX12_early.cls ≠ "java/lang/invoke/VarHandle" ∧ (parseMethodDescriptor yX12_early.desc).map (fun d => d.parameters.length) = some 0 := ⟨rfl, kdX12_early⟩
theorem kdX12_firstDigits : yX12_firstDigits.cls ≠ "java/lang/invoke/MethodHandle" ∧ yX12_firstDigits.cls ≠ "java/lang/invoke/VarHandle" ∧ (parseMethodDescriptor yX12_firstDigits.desc).map (fun d => d.parameters.length) = some 2 := by decide +kernel
theorem kdVX12_firstDigits : yX12_firstDigits.cls = RX12 ∧ yX12_firstDigits.cls ≠ "java/lang/invoke/MethodHandle" ∧ yX12_firstDigits.cls ≠ "java/lang/invoke/VarHandle" ∧ (parseMethodDescriptor yX12_firstDigits.desc).map (fun d => d.parameters.length) = some 2 := ⟨rfl, kdX12_firstDigits⟩
theorem kdX12_goBack : yX12_goBack.cls ≠ "java/lang/invoke/MethodHandle" ∧ yX12_goBack.cls ≠ "java/lang/invoke/VarHandle" ∧ (parseMethodDescriptor yX12_goBack.desc).map (fun d => d.parameters.length) = some 1 := by decide +kernel
theorem kdVX12_goBack : yX12_goBack.cls = RX12 ∧ yX12_goBack.cls ≠ "java/lang/invoke/MethodHandle" ∧ yX12_goBack.cls ≠ "java/lang/invoke/VarHandle" ∧ (parseMethodDescriptor yX12_goBack.desc).map (fun d => d.parameters.length) = some 1 := ⟨rfl, kdX12_goBack⟩
theorem kdX12_guess : yX12_guess.cls ≠ "java/lang/invoke/MethodHandle" ∧ yX12_guess.cls ≠ "java/lang/invoke/VarHandle" ∧ (parseMethodDescriptor yX12_guess.desc).map (fun d => d.parameters.length) = some 3 := by decide +kernel
theorem kdVX12_guess : yX12_guess.cls = RX12 ∧ yX12_guess.cls ≠ "java/lang/invoke/MethodHandle" ∧ yX12_guess.cls ≠ "java/lang/invoke/VarHandle" ∧ (parseMethodDescriptor yX12_guess.desc).map (fun d => d.parameters.length) = some 3 := ⟨rfl, kdX12_guess⟩
theorem kdX12_halfRoot : yX12_halfRoot.cls ≠ "java/lang/invoke/MethodHandle" ∧ yX12_halfRoot.cls ≠ "java/lang/invoke/VarHandle" ∧ (parseMethodDescriptor yX12_halfRoot.desc).map (fun d => d.parameters.length) = some 1 := by decide +kernel
theorem kdVX12_halfRoot : yX12_halfRoot.cls = RX12 ∧ yX12_halfRoot.cls ≠ "java/lang/invoke/MethodHandle" ∧ yX12_halfRoot.cls ≠ "java/lang/invoke/VarHandle" ∧ (parseMethodDescriptor yX12_halfRoot.desc).map (fun d => d.parameters.length) = some 1 := ⟨rfl, kdX12_halfRoot⟩
theorem kdX12_has : yX12_has.cls ≠ "java/lang/invoke/MethodHandle" ∧ yX12_has.cls ≠ "java/lang/invoke/VarHandle" ∧ (parseMethodDescriptor yX12_has.desc).map (fun d => d.parameters.length) = some 2 := by decide +kernel
theorem kdVX12_has : yX12_has.cls = RX12 ∧ yX12_has.cls ≠ "java/lang/invoke/MethodHandle" ∧ yX12_has.cls ≠ "java/lang/invoke/VarHandle" ∧ (parseMethodDescriptor yX12_has.desc).map (fun d => d.parameters.length) = some 2 := ⟨rfl, kdX12_has⟩
theorem kdX12_in : yX12_in.cls ≠ "java/lang/invoke/MethodHandle" ∧ yX12_in.cls ≠ "java/lang/invoke/VarHandle" ∧ (parseMethodDescriptor yX12_in.desc).map (fun d => d.parameters.length) = some 3 := by decide +kernel
theorem kdVX12_in : yX12_in.cls = RX12 ∧ yX12_in.cls ≠ "java/lang/invoke/MethodHandle" ∧ yX12_in.cls ≠ "java/lang/invoke/VarHandle" ∧ (parseMethodDescriptor yX12_in.desc).map (fun d => d.parameters.length) = some 3 := ⟨rfl, kdX12_in⟩
theorem kdX12_inverse : yX12_inverse.cls ≠ "java/lang/invoke/MethodHandle" ∧ yX12_inverse.cls ≠ "java/lang/invoke/VarHandle" ∧ (parseMethodDescriptor yX12_inverse.desc).map (fun d => d.parameters.length) = some 2 := by decide +kernel
theorem kdVX12_inverse : yX12_inverse.cls = RX12 ∧ yX12_inverse.cls ≠ "java/lang/invoke/MethodHandle" ∧ yX12_inverse.cls ≠ "java/lang/invoke/VarHandle" ∧ (parseMethodDescriptor yX12_inverse.desc).map (fun d => d.parameters.length) = some 2 := ⟨rfl, kdX12_inverse⟩
theorem kdX12_isBad : yX12_isBad.cls ≠ "java/lang/invoke/MethodHandle" ∧ yX12_isBad.cls ≠ "java/lang/invoke/VarHandle" ∧ (parseMethodDescriptor yX12_isBad.desc).map (fun d => d.parameters.length) = some 0 := by decide +kernel
theorem kdVX12_isBad : yX12_isBad.cls = RX12 ∧ yX12_isBad.cls ≠ "java/lang/invoke/MethodHandle" ∧ yX12_isBad.cls ≠ "java/lang/invoke/VarHandle" ∧ (parseMethodDescriptor yX12_isBad.desc).map (fun d => d.parameters.length) = some 0 := ⟨rfl, kdX12_isBad⟩
theorem kdX12_isPrime : yX12_isPrime.cls ≠ "java/lang/invoke/MethodHandle" ∧ yX12_isPrime.cls ≠ "java/lang/invoke/VarHandle" ∧ (parseMethodDescriptor yX12_isPrime.desc).map (fun d => d.parameters.length) = some 1 := by decide +kernel
theorem kdVX12_isPrime : yX12_isPrime.cls = RX12 ∧ yX12_isPrime.cls ≠ "java/lang/invoke/MethodHandle" ∧ yX12_isPrime.cls ≠ "java/lang/invoke/VarHandle" ∧ (parseMethodDescriptor yX12_isPrime.desc).map (fun d => d.parameters.length) = some 1 := ⟨rfl, kdX12_isPrime⟩
theorem kdX12_isRow : yX12_isRow.cls ≠ "java/lang/invoke/MethodHandle" ∧ yX12_isRow.cls ≠ "java/lang/invoke/VarHandle" ∧ (parseMethodDescriptor yX12_isRow.desc).map (fun d => d.parameters.length) = some 1 := by decide +kernel
theorem kdVX12_isRow : yX12_isRow.cls = RX12 ∧ yX12_isRow.cls ≠ "java/lang/invoke/MethodHandle" ∧ yX12_isRow.cls ≠ "java/lang/invoke/VarHandle" ∧ (parseMethodDescriptor yX12_isRow.desc).map (fun d => d.parameters.length) = some 1 := ⟨rfl, kdX12_isRow⟩
theorem kdX12_keep : yX12_keep.cls ≠ "java/lang/invoke/MethodHandle" ∧ yX12_keep.cls ≠ "java/lang/invoke/VarHandle" ∧ (parseMethodDescriptor yX12_keep.desc).map (fun d => d.parameters.length) = some 1 := by decide +kernel
theorem kdVX12_keep : yX12_keep.cls = RX12 ∧ yX12_keep.cls ≠ "java/lang/invoke/MethodHandle" ∧ yX12_keep.cls ≠ "java/lang/invoke/VarHandle" ∧ (parseMethodDescriptor yX12_keep.desc).map (fun d => d.parameters.length) = some 1 := ⟨rfl, kdX12_keep⟩
theorem kdX12_kind : yX12_kind.cls ≠ "java/lang/invoke/MethodHandle" ∧ yX12_kind.cls ≠ "java/lang/invoke/VarHandle" ∧ (parseMethodDescriptor yX12_kind.desc).map (fun d => d.parameters.length) = some 0 := by decide +kernel
theorem kdVX12_kind : yX12_kind.cls = RX12 ∧ yX12_kind.cls ≠ "java/lang/invoke/MethodHandle" ∧ yX12_kind.cls ≠ "java/lang/invoke/VarHandle" ∧ (parseMethodDescriptor yX12_kind.desc).map (fun d => d.parameters.length) = some 0 := ⟨rfl, kdX12_kind⟩
theorem kdX12_layFraction : yX12_layFraction.cls ≠ "java/lang/invoke/MethodHandle" ∧ yX12_layFraction.cls ≠ "java/lang/invoke/VarHandle" ∧ (parseMethodDescriptor yX12_layFraction.desc).map (fun d => d.parameters.length) = some 2 := by decide +kernel
theorem kdVX12_layFraction : yX12_layFraction.cls = RX12 ∧ yX12_layFraction.cls ≠ "java/lang/invoke/MethodHandle" ∧ yX12_layFraction.cls ≠ "java/lang/invoke/VarHandle" ∧ (parseMethodDescriptor yX12_layFraction.desc).map (fun d => d.parameters.length) = some 2 := ⟨rfl, kdX12_layFraction⟩
theorem kdX12_layGuess : yX12_layGuess.cls ≠ "java/lang/invoke/MethodHandle" ∧ yX12_layGuess.cls ≠ "java/lang/invoke/VarHandle" ∧ (parseMethodDescriptor yX12_layGuess.desc).map (fun d => d.parameters.length) = some 2 := by decide +kernel
theorem kdVX12_layGuess : yX12_layGuess.cls = RX12 ∧ yX12_layGuess.cls ≠ "java/lang/invoke/MethodHandle" ∧ yX12_layGuess.cls ≠ "java/lang/invoke/VarHandle" ∧ (parseMethodDescriptor yX12_layGuess.desc).map (fun d => d.parameters.length) = some 2 := ⟨rfl, kdX12_layGuess⟩
theorem kdX12_layNear : yX12_layNear.cls ≠ "java/lang/invoke/MethodHandle" ∧ yX12_layNear.cls ≠ "java/lang/invoke/VarHandle" ∧ (parseMethodDescriptor yX12_layNear.desc).map (fun d => d.parameters.length) = some 0 := by decide +kernel
theorem kdVX12_layNear : yX12_layNear.cls = RX12 ∧ yX12_layNear.cls ≠ "java/lang/invoke/MethodHandle" ∧ yX12_layNear.cls ≠ "java/lang/invoke/VarHandle" ∧ (parseMethodDescriptor yX12_layNear.desc).map (fun d => d.parameters.length) = some 0 := ⟨rfl, kdX12_layNear⟩
theorem kdX12_layNothing : yX12_layNothing.cls ≠ "java/lang/invoke/MethodHandle" ∧ yX12_layNothing.cls ≠ "java/lang/invoke/VarHandle" ∧ (parseMethodDescriptor yX12_layNothing.desc).map (fun d => d.parameters.length) = some 0 := by decide +kernel
theorem kdVX12_layNothing : yX12_layNothing.cls = RX12 ∧ yX12_layNothing.cls ≠ "java/lang/invoke/MethodHandle" ∧ yX12_layNothing.cls ≠ "java/lang/invoke/VarHandle" ∧ (parseMethodDescriptor yX12_layNothing.desc).map (fun d => d.parameters.length) = some 0 := ⟨rfl, kdX12_layNothing⟩
theorem kdX12_layOnes : yX12_layOnes.cls ≠ "java/lang/invoke/MethodHandle" ∧ yX12_layOnes.cls ≠ "java/lang/invoke/VarHandle" ∧ (parseMethodDescriptor yX12_layOnes.desc).map (fun d => d.parameters.length) = some 1 := by decide +kernel
theorem kdVX12_layOnes : yX12_layOnes.cls = RX12 ∧ yX12_layOnes.cls ≠ "java/lang/invoke/MethodHandle" ∧ yX12_layOnes.cls ≠ "java/lang/invoke/VarHandle" ∧ (parseMethodDescriptor yX12_layOnes.desc).map (fun d => d.parameters.length) = some 1 := ⟨rfl, kdX12_layOnes⟩
theorem kdX12_layShare : yX12_layShare.cls ≠ "java/lang/invoke/MethodHandle" ∧ yX12_layShare.cls ≠ "java/lang/invoke/VarHandle" ∧ (parseMethodDescriptor yX12_layShare.desc).map (fun d => d.parameters.length) = some 2 := by decide +kernel
theorem kdVX12_layShare : yX12_layShare.cls = RX12 ∧ yX12_layShare.cls ≠ "java/lang/invoke/MethodHandle" ∧ yX12_layShare.cls ≠ "java/lang/invoke/VarHandle" ∧ (parseMethodDescriptor yX12_layShare.desc).map (fun d => d.parameters.length) = some 2 := ⟨rfl, kdX12_layShare⟩
theorem kdX12_layShort : yX12_layShort.cls ≠ "java/lang/invoke/MethodHandle" ∧ yX12_layShort.cls ≠ "java/lang/invoke/VarHandle" ∧ (parseMethodDescriptor yX12_layShort.desc).map (fun d => d.parameters.length) = some 0 := by decide +kernel
theorem kdVX12_layShort : yX12_layShort.cls = RX12 ∧ yX12_layShort.cls ≠ "java/lang/invoke/MethodHandle" ∧ yX12_layShort.cls ≠ "java/lang/invoke/VarHandle" ∧ (parseMethodDescriptor yX12_layShort.desc).map (fun d => d.parameters.length) = some 0 := ⟨rfl, kdX12_layShort⟩
theorem kdX12_laySolution : yX12_laySolution.cls ≠ "java/lang/invoke/MethodHandle" ∧ yX12_laySolution.cls ≠ "java/lang/invoke/VarHandle" ∧ (parseMethodDescriptor yX12_laySolution.desc).map (fun d => d.parameters.length) = some 1 := by decide +kernel
theorem kdVX12_laySolution : yX12_laySolution.cls = RX12 ∧ yX12_laySolution.cls ≠ "java/lang/invoke/MethodHandle" ∧ yX12_laySolution.cls ≠ "java/lang/invoke/VarHandle" ∧ (parseMethodDescriptor yX12_laySolution.desc).map (fun d => d.parameters.length) = some 1 := ⟨rfl, kdX12_laySolution⟩
theorem kdX12_leading : yX12_leading.cls ≠ "java/lang/invoke/MethodHandle" ∧ yX12_leading.cls ≠ "java/lang/invoke/VarHandle" ∧ (parseMethodDescriptor yX12_leading.desc).map (fun d => d.parameters.length) = some 0 := by decide +kernel
theorem kdVX12_leading : yX12_leading.cls = RX12 ∧ yX12_leading.cls ≠ "java/lang/invoke/MethodHandle" ∧ yX12_leading.cls ≠ "java/lang/invoke/VarHandle" ∧ (parseMethodDescriptor yX12_leading.desc).map (fun d => d.parameters.length) = some 0 := ⟨rfl, kdX12_leading⟩
theorem kdX12_leftOver : yX12_leftOver.cls ≠ "java/lang/invoke/MethodHandle" ∧ yX12_leftOver.cls ≠ "java/lang/invoke/VarHandle" ∧ (parseMethodDescriptor yX12_leftOver.desc).map (fun d => d.parameters.length) = some 2 := by decide +kernel
theorem kdVX12_leftOver : yX12_leftOver.cls = RX12 ∧ yX12_leftOver.cls ≠ "java/lang/invoke/MethodHandle" ∧ yX12_leftOver.cls ≠ "java/lang/invoke/VarHandle" ∧ (parseMethodDescriptor yX12_leftOver.desc).map (fun d => d.parameters.length) = some 2 := ⟨rfl, kdX12_leftOver⟩
theorem kdX12_minor : yX12_minor.cls ≠ "java/lang/invoke/MethodHandle" ∧ yX12_minor.cls ≠ "java/lang/invoke/VarHandle" ∧ (parseMethodDescriptor yX12_minor.desc).map (fun d => d.parameters.length) = some 2 := by decide +kernel
theorem kdVX12_minor : yX12_minor.cls = RX12 ∧ yX12_minor.cls ≠ "java/lang/invoke/MethodHandle" ∧ yX12_minor.cls ≠ "java/lang/invoke/VarHandle" ∧ (parseMethodDescriptor yX12_minor.desc).map (fun d => d.parameters.length) = some 2 := ⟨rfl, kdX12_minor⟩
theorem kdX12_mix : yX12_mix.cls ≠ "java/lang/invoke/MethodHandle" ∧ yX12_mix.cls ≠ "java/lang/invoke/VarHandle" ∧ (parseMethodDescriptor yX12_mix.desc).map (fun d => d.parameters.length) = some 3 := by decide +kernel
theorem kdVX12_mix : yX12_mix.cls = RX12 ∧ yX12_mix.cls ≠ "java/lang/invoke/MethodHandle" ∧ yX12_mix.cls ≠ "java/lang/invoke/VarHandle" ∧ (parseMethodDescriptor yX12_mix.desc).map (fun d => d.parameters.length) = some 3 := ⟨rfl, kdX12_mix⟩
theorem kdX12_n : yX12_n.cls ≠ "java/lang/invoke/MethodHandle" ∧ yX12_n.cls ≠ "java/lang/invoke/VarHandle" ∧ (parseMethodDescriptor yX12_n.desc).map (fun d => d.parameters.length) = some 0 := by decide +kernel
theorem kdVX12_n : yX12_n.cls = RX12 ∧ yX12_n.cls ≠ "java/lang/invoke/MethodHandle" ∧ yX12_n.cls ≠ "java/lang/invoke/VarHandle" ∧ (parseMethodDescriptor yX12_n.desc).map (fun d => d.parameters.length) = some 0 := ⟨rfl, kdX12_n⟩
theorem kdX12_near : yX12_near.cls ≠ "java/lang/invoke/MethodHandle" ∧ yX12_near.cls ≠ "java/lang/invoke/VarHandle" ∧ (parseMethodDescriptor yX12_near.desc).map (fun d => d.parameters.length) = some 1 := by decide +kernel
theorem kdVX12_near : yX12_near.cls = RX12 ∧ yX12_near.cls ≠ "java/lang/invoke/MethodHandle" ∧ yX12_near.cls ≠ "java/lang/invoke/VarHandle" ∧ (parseMethodDescriptor yX12_near.desc).map (fun d => d.parameters.length) = some 1 := ⟨rfl, kdX12_near⟩
theorem kdX12_nearNow : yX12_nearNow.cls ≠ "java/lang/invoke/MethodHandle" ∧ yX12_nearNow.cls ≠ "java/lang/invoke/VarHandle" ∧ (parseMethodDescriptor yX12_nearNow.desc).map (fun d => d.parameters.length) = some 0 := by decide +kernel
theorem kdVX12_nearNow : yX12_nearNow.cls = RX12 ∧ yX12_nearNow.cls ≠ "java/lang/invoke/MethodHandle" ∧ yX12_nearNow.cls ≠ "java/lang/invoke/VarHandle" ∧ (parseMethodDescriptor yX12_nearNow.desc).map (fun d => d.parameters.length) = some 0 := ⟨rfl, kdX12_nearNow⟩
theorem kdX12_nothing : yX12_nothing.cls ≠ "java/lang/invoke/MethodHandle" ∧ yX12_nothing.cls ≠ "java/lang/invoke/VarHandle" ∧ (parseMethodDescriptor yX12_nothing.desc).map (fun d => d.parameters.length) = some 1 := by decide +kernel
theorem kdVX12_nothing : yX12_nothing.cls = RX12 ∧ yX12_nothing.cls ≠ "java/lang/invoke/MethodHandle" ∧ yX12_nothing.cls ≠ "java/lang/invoke/VarHandle" ∧ (parseMethodDescriptor yX12_nothing.desc).map (fun d => d.parameters.length) = some 1 := ⟨rfl, kdX12_nothing⟩
theorem kdX12_ones : yX12_ones.cls ≠ "java/lang/invoke/MethodHandle" ∧ yX12_ones.cls ≠ "java/lang/invoke/VarHandle" ∧ (parseMethodDescriptor yX12_ones.desc).map (fun d => d.parameters.length) = some 1 := by decide +kernel
theorem kdVX12_ones : yX12_ones.cls = RX12 ∧ yX12_ones.cls ≠ "java/lang/invoke/MethodHandle" ∧ yX12_ones.cls ≠ "java/lang/invoke/VarHandle" ∧ (parseMethodDescriptor yX12_ones.desc).map (fun d => d.parameters.length) = some 1 := ⟨rfl, kdX12_ones⟩
theorem kdX12_p : yX12_p.cls ≠ "java/lang/invoke/MethodHandle" ∧ yX12_p.cls ≠ "java/lang/invoke/VarHandle" ∧ (parseMethodDescriptor yX12_p.desc).map (fun d => d.parameters.length) = some 0 := by decide +kernel
theorem kdVX12_p : yX12_p.cls = RX12 ∧ yX12_p.cls ≠ "java/lang/invoke/MethodHandle" ∧ yX12_p.cls ≠ "java/lang/invoke/VarHandle" ∧ (parseMethodDescriptor yX12_p.desc).map (fun d => d.parameters.length) = some 0 := ⟨rfl, kdX12_p⟩
theorem kdX12_pick : yX12_pick.cls ≠ "java/lang/invoke/MethodHandle" ∧ yX12_pick.cls ≠ "java/lang/invoke/VarHandle" ∧ (parseMethodDescriptor yX12_pick.desc).map (fun d => d.parameters.length) = some 2 := by decide +kernel
theorem kdVX12_pick : yX12_pick.cls = RX12 ∧ yX12_pick.cls ≠ "java/lang/invoke/MethodHandle" ∧ yX12_pick.cls ≠ "java/lang/invoke/VarHandle" ∧ (parseMethodDescriptor yX12_pick.desc).map (fun d => d.parameters.length) = some 2 := ⟨rfl, kdX12_pick⟩
theorem kdX12_power : yX12_power.cls ≠ "java/lang/invoke/MethodHandle" ∧ yX12_power.cls ≠ "java/lang/invoke/VarHandle" ∧ (parseMethodDescriptor yX12_power.desc).map (fun d => d.parameters.length) = some 2 := by decide +kernel
theorem kdVX12_power : yX12_power.cls = RX12 ∧ yX12_power.cls ≠ "java/lang/invoke/MethodHandle" ∧ yX12_power.cls ≠ "java/lang/invoke/VarHandle" ∧ (parseMethodDescriptor yX12_power.desc).map (fun d => d.parameters.length) = some 2 := ⟨rfl, kdX12_power⟩
theorem kdX12_prime : yX12_prime.cls ≠ "java/lang/invoke/MethodHandle" ∧ yX12_prime.cls ≠ "java/lang/invoke/VarHandle" ∧ (parseMethodDescriptor yX12_prime.desc).map (fun d => d.parameters.length) = some 1 := by decide +kernel
theorem kdVX12_prime : yX12_prime.cls = RX12 ∧ yX12_prime.cls ≠ "java/lang/invoke/MethodHandle" ∧ yX12_prime.cls ≠ "java/lang/invoke/VarHandle" ∧ (parseMethodDescriptor yX12_prime.desc).map (fun d => d.parameters.length) = some 1 := ⟨rfl, kdX12_prime⟩
theorem kdX12_put : yX12_put.cls ≠ "java/lang/invoke/MethodHandle" ∧ yX12_put.cls ≠ "java/lang/invoke/VarHandle" ∧ (parseMethodDescriptor yX12_put.desc).map (fun d => d.parameters.length) = some 3 := by decide +kernel
theorem kdVX12_put : yX12_put.cls = RX12 ∧ yX12_put.cls ≠ "java/lang/invoke/MethodHandle" ∧ yX12_put.cls ≠ "java/lang/invoke/VarHandle" ∧ (parseMethodDescriptor yX12_put.desc).map (fun d => d.parameters.length) = some 3 := ⟨rfl, kdX12_put⟩
theorem kdX12_rank : yX12_rank.cls ≠ "java/lang/invoke/MethodHandle" ∧ yX12_rank.cls ≠ "java/lang/invoke/VarHandle" ∧ (parseMethodDescriptor yX12_rank.desc).map (fun d => d.parameters.length) = some 0 := by decide +kernel
theorem kdVX12_rank : yX12_rank.cls = RX12 ∧ yX12_rank.cls ≠ "java/lang/invoke/MethodHandle" ∧ yX12_rank.cls ≠ "java/lang/invoke/VarHandle" ∧ (parseMethodDescriptor yX12_rank.desc).map (fun d => d.parameters.length) = some 0 := ⟨rfl, kdX12_rank⟩
theorem kdX12_rankOf : yX12_rankOf.cls ≠ "java/lang/invoke/MethodHandle" ∧ yX12_rankOf.cls ≠ "java/lang/invoke/VarHandle" ∧ (parseMethodDescriptor yX12_rankOf.desc).map (fun d => d.parameters.length) = some 2 := by decide +kernel
theorem kdVX12_rankOf : yX12_rankOf.cls = RX12 ∧ yX12_rankOf.cls ≠ "java/lang/invoke/MethodHandle" ∧ yX12_rankOf.cls ≠ "java/lang/invoke/VarHandle" ∧ (parseMethodDescriptor yX12_rankOf.desc).map (fun d => d.parameters.length) = some 2 := ⟨rfl, kdX12_rankOf⟩
theorem kdX12_remember : yX12_remember.cls ≠ "java/lang/invoke/MethodHandle" ∧ yX12_remember.cls ≠ "java/lang/invoke/VarHandle" ∧ (parseMethodDescriptor yX12_remember.desc).map (fun d => d.parameters.length) = some 0 := by decide +kernel
theorem kdVX12_remember : yX12_remember.cls = RX12 ∧ yX12_remember.cls ≠ "java/lang/invoke/MethodHandle" ∧ yX12_remember.cls ≠ "java/lang/invoke/VarHandle" ∧ (parseMethodDescriptor yX12_remember.desc).map (fun d => d.parameters.length) = some 0 := ⟨rfl, kdX12_remember⟩
theorem kdX12_rest : yX12_rest.cls ≠ "java/lang/invoke/MethodHandle" ∧ yX12_rest.cls ≠ "java/lang/invoke/VarHandle" ∧ (parseMethodDescriptor yX12_rest.desc).map (fun d => d.parameters.length) = some 2 := by decide +kernel
theorem kdVX12_rest : yX12_rest.cls = RX12 ∧ yX12_rest.cls ≠ "java/lang/invoke/MethodHandle" ∧ yX12_rest.cls ≠ "java/lang/invoke/VarHandle" ∧ (parseMethodDescriptor yX12_rest.desc).map (fun d => d.parameters.length) = some 2 := ⟨rfl, kdX12_rest⟩
theorem kdX12_restOf : yX12_restOf.cls ≠ "java/lang/invoke/MethodHandle" ∧ yX12_restOf.cls ≠ "java/lang/invoke/VarHandle" ∧ (parseMethodDescriptor yX12_restOf.desc).map (fun d => d.parameters.length) = some 2 := by decide +kernel
theorem kdVX12_restOf : yX12_restOf.cls = RX12 ∧ yX12_restOf.cls ≠ "java/lang/invoke/MethodHandle" ∧ yX12_restOf.cls ≠ "java/lang/invoke/VarHandle" ∧ (parseMethodDescriptor yX12_restOf.desc).map (fun d => d.parameters.length) = some 2 := ⟨rfl, kdX12_restOf⟩
theorem kdX12_round : yX12_round.cls ≠ "java/lang/invoke/MethodHandle" ∧ yX12_round.cls ≠ "java/lang/invoke/VarHandle" ∧ (parseMethodDescriptor yX12_round.desc).map (fun d => d.parameters.length) = some 2 := by decide +kernel
theorem kdVX12_round : yX12_round.cls = RX12 ∧ yX12_round.cls ≠ "java/lang/invoke/MethodHandle" ∧ yX12_round.cls ≠ "java/lang/invoke/VarHandle" ∧ (parseMethodDescriptor yX12_round.desc).map (fun d => d.parameters.length) = some 2 := ⟨rfl, kdX12_round⟩
theorem kdX12_rowsFor : yX12_rowsFor.cls ≠ "java/lang/invoke/MethodHandle" ∧ yX12_rowsFor.cls ≠ "java/lang/invoke/VarHandle" ∧ (parseMethodDescriptor yX12_rowsFor.desc).map (fun d => d.parameters.length) = some 1 := by decide +kernel
theorem kdVX12_rowsFor : yX12_rowsFor.cls = RX12 ∧ yX12_rowsFor.cls ≠ "java/lang/invoke/MethodHandle" ∧ yX12_rowsFor.cls ≠ "java/lang/invoke/VarHandle" ∧ (parseMethodDescriptor yX12_rowsFor.desc).map (fun d => d.parameters.length) = some 1 := ⟨rfl, kdX12_rowsFor⟩
theorem kdX12_seed : yX12_seed.cls ≠ "java/lang/invoke/MethodHandle" ∧ yX12_seed.cls ≠ "java/lang/invoke/VarHandle" ∧ (parseMethodDescriptor yX12_seed.desc).map (fun d => d.parameters.length) = some 1 := by decide +kernel
theorem kdVX12_seed : yX12_seed.cls = RX12 ∧ yX12_seed.cls ≠ "java/lang/invoke/MethodHandle" ∧ yX12_seed.cls ≠ "java/lang/invoke/VarHandle" ∧ (parseMethodDescriptor yX12_seed.desc).map (fun d => d.parameters.length) = some 1 := ⟨rfl, kdX12_seed⟩
theorem kdX12_set : yX12_set.cls ≠ "java/lang/invoke/MethodHandle" ∧ yX12_set.cls ≠ "java/lang/invoke/VarHandle" ∧ (parseMethodDescriptor yX12_set.desc).map (fun d => d.parameters.length) = some 3 := by decide +kernel
theorem kdVX12_set : yX12_set.cls = RX12 ∧ yX12_set.cls ≠ "java/lang/invoke/MethodHandle" ∧ yX12_set.cls ≠ "java/lang/invoke/VarHandle" ∧ (parseMethodDescriptor yX12_set.desc).map (fun d => d.parameters.length) = some 3 := ⟨rfl, kdX12_set⟩
theorem kdX12_shortNow : yX12_shortNow.cls ≠ "java/lang/invoke/MethodHandle" ∧ yX12_shortNow.cls ≠ "java/lang/invoke/VarHandle" ∧ (parseMethodDescriptor yX12_shortNow.desc).map (fun d => d.parameters.length) = some 0 := by decide +kernel
theorem kdVX12_shortNow : yX12_shortNow.cls = RX12 ∧ yX12_shortNow.cls ≠ "java/lang/invoke/MethodHandle" ∧ yX12_shortNow.cls ≠ "java/lang/invoke/VarHandle" ∧ (parseMethodDescriptor yX12_shortNow.desc).map (fun d => d.parameters.length) = some 0 := ⟨rfl, kdX12_shortNow⟩
theorem kdX12_shorten : yX12_shorten.cls ≠ "java/lang/invoke/MethodHandle" ∧ yX12_shorten.cls ≠ "java/lang/invoke/VarHandle" ∧ (parseMethodDescriptor yX12_shorten.desc).map (fun d => d.parameters.length) = some 1 := by decide +kernel
theorem kdVX12_shorten : yX12_shorten.cls = RX12 ∧ yX12_shorten.cls ≠ "java/lang/invoke/MethodHandle" ∧ yX12_shorten.cls ≠ "java/lang/invoke/VarHandle" ∧ (parseMethodDescriptor yX12_shorten.desc).map (fun d => d.parameters.length) = some 1 := ⟨rfl, kdX12_shorten⟩
theorem kdX12_shortly : yX12_shortly.cls ≠ "java/lang/invoke/MethodHandle" ∧ yX12_shortly.cls ≠ "java/lang/invoke/VarHandle" ∧ (parseMethodDescriptor yX12_shortly.desc).map (fun d => d.parameters.length) = some 1 := by decide +kernel
theorem kdVX12_shortly : yX12_shortly.cls = RX12 ∧ yX12_shortly.cls ≠ "java/lang/invoke/MethodHandle" ∧ yX12_shortly.cls ≠ "java/lang/invoke/VarHandle" ∧ (parseMethodDescriptor yX12_shortly.desc).map (fun d => d.parameters.length) = some 1 := ⟨rfl, kdX12_shortly⟩
theorem kdX12_side : yX12_side.cls ≠ "java/lang/invoke/MethodHandle" ∧ yX12_side.cls ≠ "java/lang/invoke/VarHandle" ∧ (parseMethodDescriptor yX12_side.desc).map (fun d => d.parameters.length) = some 2 := by decide +kernel
theorem kdVX12_side : yX12_side.cls = RX12 ∧ yX12_side.cls ≠ "java/lang/invoke/MethodHandle" ∧ yX12_side.cls ≠ "java/lang/invoke/VarHandle" ∧ (parseMethodDescriptor yX12_side.desc).map (fun d => d.parameters.length) = some 2 := ⟨rfl, kdX12_side⟩
theorem kdX12_size : yX12_size.cls ≠ "java/lang/invoke/MethodHandle" ∧ yX12_size.cls ≠ "java/lang/invoke/VarHandle" ∧ (parseMethodDescriptor yX12_size.desc).map (fun d => d.parameters.length) = some 1 := by decide +kernel
theorem kdVX12_size : yX12_size.cls = RX12 ∧ yX12_size.cls ≠ "java/lang/invoke/MethodHandle" ∧ yX12_size.cls ≠ "java/lang/invoke/VarHandle" ∧ (parseMethodDescriptor yX12_size.desc).map (fun d => d.parameters.length) = some 1 := ⟨rfl, kdX12_size⟩
theorem kdX12_solution : yX12_solution.cls ≠ "java/lang/invoke/MethodHandle" ∧ yX12_solution.cls ≠ "java/lang/invoke/VarHandle" ∧ (parseMethodDescriptor yX12_solution.desc).map (fun d => d.parameters.length) = some 2 := by decide +kernel
theorem kdVX12_solution : yX12_solution.cls = RX12 ∧ yX12_solution.cls ≠ "java/lang/invoke/MethodHandle" ∧ yX12_solution.cls ≠ "java/lang/invoke/VarHandle" ∧ (parseMethodDescriptor yX12_solution.desc).map (fun d => d.parameters.length) = some 2 := ⟨rfl, kdX12_solution⟩
theorem kdX12_sure : yX12_sure.cls ≠ "java/lang/invoke/MethodHandle" ∧ yX12_sure.cls ≠ "java/lang/invoke/VarHandle" ∧ (parseMethodDescriptor yX12_sure.desc).map (fun d => d.parameters.length) = some 0 := by decide +kernel
theorem kdVX12_sure : yX12_sure.cls = RX12 ∧ yX12_sure.cls ≠ "java/lang/invoke/MethodHandle" ∧ yX12_sure.cls ≠ "java/lang/invoke/VarHandle" ∧ (parseMethodDescriptor yX12_sure.desc).map (fun d => d.parameters.length) = some 0 := ⟨rfl, kdX12_sure⟩
theorem kdX12_swap : yX12_swap.cls ≠ "java/lang/invoke/MethodHandle" ∧ yX12_swap.cls ≠ "java/lang/invoke/VarHandle" ∧ (parseMethodDescriptor yX12_swap.desc).map (fun d => d.parameters.length) = some 2 := by decide +kernel
theorem kdVX12_swap : yX12_swap.cls = RX12 ∧ yX12_swap.cls ≠ "java/lang/invoke/MethodHandle" ∧ yX12_swap.cls ≠ "java/lang/invoke/VarHandle" ∧ (parseMethodDescriptor yX12_swap.desc).map (fun d => d.parameters.length) = some 2 := ⟨rfl, kdX12_swap⟩
theorem kdX12_tear : yX12_tear.cls ≠ "java/lang/invoke/MethodHandle" ∧ yX12_tear.cls ≠ "java/lang/invoke/VarHandle" ∧ (parseMethodDescriptor yX12_tear.desc).map (fun d => d.parameters.length) = some 0 := by decide +kernel
theorem kdVX12_tear : yX12_tear.cls = RX12 ∧ yX12_tear.cls ≠ "java/lang/invoke/MethodHandle" ∧ yX12_tear.cls ≠ "java/lang/invoke/VarHandle" ∧ (parseMethodDescriptor yX12_tear.desc).map (fun d => d.parameters.length) = some 0 := ⟨rfl, kdX12_tear⟩
theorem kdX12_three : yX12_three.cls ≠ "java/lang/invoke/MethodHandle" ∧ yX12_three.cls ≠ "java/lang/invoke/VarHandle" ∧ (parseMethodDescriptor yX12_three.desc).map (fun d => d.parameters.length) = some 4 := by decide +kernel
theorem kdVX12_three : yX12_three.cls = RX12 ∧ yX12_three.cls ≠ "java/lang/invoke/MethodHandle" ∧ yX12_three.cls ≠ "java/lang/invoke/VarHandle" ∧ (parseMethodDescriptor yX12_three.desc).map (fun d => d.parameters.length) = some 4 := ⟨rfl, kdX12_three⟩
theorem kdX12_told : yX12_told.cls ≠ "java/lang/invoke/MethodHandle" ∧ yX12_told.cls ≠ "java/lang/invoke/VarHandle" ∧ (parseMethodDescriptor yX12_told.desc).map (fun d => d.parameters.length) = some 1 := by decide +kernel
theorem kdVX12_told : yX12_told.cls = RX12 ∧ yX12_told.cls ≠ "java/lang/invoke/MethodHandle" ∧ yX12_told.cls ≠ "java/lang/invoke/VarHandle" ∧ (parseMethodDescriptor yX12_told.desc).map (fun d => d.parameters.length) = some 1 := ⟨rfl, kdX12_told⟩
theorem kdX12_toldOfPrime : yX12_toldOfPrime.cls ≠ "java/lang/invoke/MethodHandle" ∧ yX12_toldOfPrime.cls ≠ "java/lang/invoke/VarHandle" ∧ (parseMethodDescriptor yX12_toldOfPrime.desc).map (fun d => d.parameters.length) = some 1 := by decide +kernel
theorem kdVX12_toldOfPrime : yX12_toldOfPrime.cls = RX12 ∧ yX12_toldOfPrime.cls ≠ "java/lang/invoke/MethodHandle" ∧ yX12_toldOfPrime.cls ≠ "java/lang/invoke/VarHandle" ∧ (parseMethodDescriptor yX12_toldOfPrime.desc).map (fun d => d.parameters.length) = some 1 := ⟨rfl, kdX12_toldOfPrime⟩
theorem kdX12_tooSoon : yX12_tooSoon.cls ≠ "java/lang/invoke/MethodHandle" ∧ yX12_tooSoon.cls ≠ "java/lang/invoke/VarHandle" ∧ (parseMethodDescriptor yX12_tooSoon.desc).map (fun d => d.parameters.length) = some 0 := by decide +kernel
theorem kdVX12_tooSoon : yX12_tooSoon.cls = RX12 ∧ yX12_tooSoon.cls ≠ "java/lang/invoke/MethodHandle" ∧ yX12_tooSoon.cls ≠ "java/lang/invoke/VarHandle" ∧ (parseMethodDescriptor yX12_tooSoon.desc).map (fun d => d.parameters.length) = some 0 := ⟨rfl, kdX12_tooSoon⟩
theorem kdX12_turn : yX12_turn.cls ≠ "java/lang/invoke/MethodHandle" ∧ yX12_turn.cls ≠ "java/lang/invoke/VarHandle" ∧ (parseMethodDescriptor yX12_turn.desc).map (fun d => d.parameters.length) = some 0 := by decide +kernel
theorem kdVX12_turn : yX12_turn.cls = RX12 ∧ yX12_turn.cls ≠ "java/lang/invoke/MethodHandle" ∧ yX12_turn.cls ≠ "java/lang/invoke/VarHandle" ∧ (parseMethodDescriptor yX12_turn.desc).map (fun d => d.parameters.length) = some 0 := ⟨rfl, kdX12_turn⟩
theorem kdX12_two : yX12_two.cls ≠ "java/lang/invoke/MethodHandle" ∧ yX12_two.cls ≠ "java/lang/invoke/VarHandle" ∧ (parseMethodDescriptor yX12_two.desc).map (fun d => d.parameters.length) = some 4 := by decide +kernel
theorem kdVX12_two : yX12_two.cls = RX12 ∧ yX12_two.cls ≠ "java/lang/invoke/MethodHandle" ∧ yX12_two.cls ≠ "java/lang/invoke/VarHandle" ∧ (parseMethodDescriptor yX12_two.desc).map (fun d => d.parameters.length) = some 4 := ⟨rfl, kdX12_two⟩
theorem kdX12_undo : yX12_undo.cls ≠ "java/lang/invoke/MethodHandle" ∧ yX12_undo.cls ≠ "java/lang/invoke/VarHandle" ∧ (parseMethodDescriptor yX12_undo.desc).map (fun d => d.parameters.length) = some 1 := by decide +kernel
theorem kdVX12_undo : yX12_undo.cls = RX12 ∧ yX12_undo.cls ≠ "java/lang/invoke/MethodHandle" ∧ yX12_undo.cls ≠ "java/lang/invoke/VarHandle" ∧ (parseMethodDescriptor yX12_undo.desc).map (fun d => d.parameters.length) = some 1 := ⟨rfl, kdX12_undo⟩
theorem kdX12_waysNow : yX12_waysNow.cls ≠ "java/lang/invoke/MethodHandle" ∧ yX12_waysNow.cls ≠ "java/lang/invoke/VarHandle" ∧ (parseMethodDescriptor yX12_waysNow.desc).map (fun d => d.parameters.length) = some 0 := by decide +kernel
theorem kdVX12_waysNow : yX12_waysNow.cls = RX12 ∧ yX12_waysNow.cls ≠ "java/lang/invoke/MethodHandle" ∧ yX12_waysNow.cls ≠ "java/lang/invoke/VarHandle" ∧ (parseMethodDescriptor yX12_waysNow.desc).map (fun d => d.parameters.length) = some 0 := ⟨rfl, kdX12_waysNow⟩
theorem kdX12_wideRank : yX12_wideRank.cls ≠ "java/lang/invoke/MethodHandle" ∧ yX12_wideRank.cls ≠ "java/lang/invoke/VarHandle" ∧ (parseMethodDescriptor yX12_wideRank.desc).map (fun d => d.parameters.length) = some 1 := by decide +kernel
theorem kdVX12_wideRank : yX12_wideRank.cls = RX12 ∧ yX12_wideRank.cls ≠ "java/lang/invoke/MethodHandle" ∧ yX12_wideRank.cls ≠ "java/lang/invoke/VarHandle" ∧ (parseMethodDescriptor yX12_wideRank.desc).map (fun d => d.parameters.length) = some 1 := ⟨rfl, kdX12_wideRank⟩
theorem kdX12_write : yX12_write.cls ≠ "java/lang/invoke/MethodHandle" ∧ yX12_write.cls ≠ "java/lang/invoke/VarHandle" ∧ (parseMethodDescriptor yX12_write.desc).map (fun d => d.parameters.length) = some 3 := by decide +kernel
theorem kdVX12_write : yX12_write.cls = RX12 ∧ yX12_write.cls ≠ "java/lang/invoke/MethodHandle" ∧ yX12_write.cls ≠ "java/lang/invoke/VarHandle" ∧ (parseMethodDescriptor yX12_write.desc).map (fun d => d.parameters.length) = some 3 := ⟨rfl, kdX12_write⟩
theorem kdX12_wrong : yX12_wrong.cls ≠ "java/lang/invoke/MethodHandle" ∧ yX12_wrong.cls ≠ "java/lang/invoke/VarHandle" ∧ (parseMethodDescriptor yX12_wrong.desc).map (fun d => d.parameters.length) = some 0 := by decide +kernel
theorem kdVX12_wrong : yX12_wrong.cls = RX12 ∧ yX12_wrong.cls ≠ "java/lang/invoke/MethodHandle" ∧ yX12_wrong.cls ≠ "java/lang/invoke/VarHandle" ∧ (parseMethodDescriptor yX12_wrong.desc).map (fun d => d.parameters.length) = some 0 := ⟨rfl, kdX12_wrong⟩
theorem kdX1_above : yX1_above.cls ≠ "java/lang/invoke/MethodHandle" ∧ yX1_above.cls ≠ "java/lang/invoke/VarHandle" ∧ (parseMethodDescriptor yX1_above.desc).map (fun d => d.parameters.length) = some 2 := by decide +kernel
theorem kdVX1_above : yX1_above.cls = RX1 ∧ yX1_above.cls ≠ "java/lang/invoke/MethodHandle" ∧ yX1_above.cls ≠ "java/lang/invoke/VarHandle" ∧ (parseMethodDescriptor yX1_above.desc).map (fun d => d.parameters.length) = some 2 := ⟨rfl, kdX1_above⟩
theorem kdX1_below : yX1_below.cls ≠ "java/lang/invoke/MethodHandle" ∧ yX1_below.cls ≠ "java/lang/invoke/VarHandle" ∧ (parseMethodDescriptor yX1_below.desc).map (fun d => d.parameters.length) = some 2 := by decide +kernel
theorem kdVX1_below : yX1_below.cls = RX1 ∧ yX1_below.cls ≠ "java/lang/invoke/MethodHandle" ∧ yX1_below.cls ≠ "java/lang/invoke/VarHandle" ∧ (parseMethodDescriptor yX1_below.desc).map (fun d => d.parameters.length) = some 2 := ⟨rfl, kdX1_below⟩
theorem kdX1_broken : yX1_broken.cls ≠ "java/lang/invoke/MethodHandle" ∧ yX1_broken.cls ≠ "java/lang/invoke/VarHandle" ∧ (parseMethodDescriptor yX1_broken.desc).map (fun d => d.parameters.length) = some 0 := by decide +kernel
theorem kdVX1_broken : yX1_broken.cls = RX1 ∧ yX1_broken.cls ≠ "java/lang/invoke/MethodHandle" ∧ yX1_broken.cls ≠ "java/lang/invoke/VarHandle" ∧ (parseMethodDescriptor yX1_broken.desc).map (fun d => d.parameters.length) = some 0 := ⟨rfl, kdX1_broken⟩
theorem kdX1_clear : yX1_clear.cls ≠ "java/lang/invoke/MethodHandle" ∧ yX1_clear.cls ≠ "java/lang/invoke/VarHandle" ∧ (parseMethodDescriptor yX1_clear.desc).map (fun d => d.parameters.length) = some 1 := by decide +kernel
theorem kdVX1_clear : yX1_clear.cls = RX1 ∧ yX1_clear.cls ≠ "java/lang/invoke/MethodHandle" ∧ yX1_clear.cls ≠ "java/lang/invoke/VarHandle" ∧ (parseMethodDescriptor yX1_clear.desc).map (fun d => d.parameters.length) = some 1 := ⟨rfl, kdX1_clear⟩
theorem kdX1_clearColumn : yX1_clearColumn.cls ≠ "java/lang/invoke/MethodHandle" ∧ yX1_clearColumn.cls ≠ "java/lang/invoke/VarHandle" ∧ (parseMethodDescriptor yX1_clearColumn.desc).map (fun d => d.parameters.length) = some 1 := by decide +kernel
theorem kdVX1_clearColumn : yX1_clearColumn.cls = RX1 ∧ yX1_clearColumn.cls ≠ "java/lang/invoke/MethodHandle" ∧ yX1_clearColumn.cls ≠ "java/lang/invoke/VarHandle" ∧ (parseMethodDescriptor yX1_clearColumn.desc).map (fun d => d.parameters.length) = some 1 := ⟨rfl, kdX1_clearColumn⟩
theorem kdX1_clearRow : yX1_clearRow.cls ≠ "java/lang/invoke/MethodHandle" ∧ yX1_clearRow.cls ≠ "java/lang/invoke/VarHandle" ∧ (parseMethodDescriptor yX1_clearRow.desc).map (fun d => d.parameters.length) = some 2 := by decide +kernel
theorem kdVX1_clearRow : yX1_clearRow.cls = RX1 ∧ yX1_clearRow.cls ≠ "java/lang/invoke/MethodHandle" ∧ yX1_clearRow.cls ≠ "java/lang/invoke/VarHandle" ∧ (parseMethodDescriptor yX1_clearRow.desc).map (fun d => d.parameters.length) = some 2 := ⟨rfl, kdX1_clearRow⟩
theorem kdX1_determinant : yX1_determinant.cls ≠ "java/lang/invoke/MethodHandle" ∧ yX1_determinant.cls ≠ "java/lang/invoke/VarHandle" ∧ (parseMethodDescriptor yX1_determinant.desc).map (fun d => d.parameters.length) = some 0 := by decide +kernel
theorem kdVX1_determinant : yX1_determinant.cls = RX1 ∧ yX1_determinant.cls ≠ "java/lang/invoke/MethodHandle" ∧ yX1_determinant.cls ≠ "java/lang/invoke/VarHandle" ∧ (parseMethodDescriptor yX1_determinant.desc).map (fun d => d.parameters.length) = some 0 := ⟨rfl, kdX1_determinant⟩
theorem kdX1_isBroken : yX1_isBroken.cls ≠ "java/lang/invoke/MethodHandle" ∧ yX1_isBroken.cls ≠ "java/lang/invoke/VarHandle" ∧ (parseMethodDescriptor yX1_isBroken.desc).map (fun d => d.parameters.length) = some 1 := by decide +kernel
theorem kdVX1_isBroken : yX1_isBroken.cls = RX1 ∧ yX1_isBroken.cls ≠ "java/lang/invoke/MethodHandle" ∧ yX1_isBroken.cls ≠ "java/lang/invoke/VarHandle" ∧ (parseMethodDescriptor yX1_isBroken.desc).map (fun d => d.parameters.length) = some 1 := ⟨rfl, kdX1_isBroken⟩
theorem kdX1_kind : yX1_kind.cls ≠ "java/lang/invoke/MethodHandle" ∧ yX1_kind.cls ≠ "java/lang/invoke/VarHandle" ∧ (parseMethodDescriptor yX1_kind.desc).map (fun d => d.parameters.length) = some 0 := by decide +kernel
theorem kdVX1_kind : yX1_kind.cls = RX1 ∧ yX1_kind.cls ≠ "java/lang/invoke/MethodHandle" ∧ yX1_kind.cls ≠ "java/lang/invoke/VarHandle" ∧ (parseMethodDescriptor yX1_kind.desc).map (fun d => d.parameters.length) = some 0 := ⟨rfl, kdX1_kind⟩
theorem kdX1_leading : yX1_leading.cls ≠ "java/lang/invoke/MethodHandle" ∧ yX1_leading.cls ≠ "java/lang/invoke/VarHandle" ∧ (parseMethodDescriptor yX1_leading.desc).map (fun d => d.parameters.length) = some 0 := by decide +kernel
theorem kdVX1_leading : yX1_leading.cls = RX1 ∧ yX1_leading.cls ≠ "java/lang/invoke/MethodHandle" ∧ yX1_leading.cls ≠ "java/lang/invoke/VarHandle" ∧ (parseMethodDescriptor yX1_leading.desc).map (fun d => d.parameters.length) = some 0 := ⟨rfl, kdX1_leading⟩
theorem kdX1_nearest : yX1_nearest.cls ≠ "java/lang/invoke/MethodHandle" ∧ yX1_nearest.cls ≠ "java/lang/invoke/VarHandle" ∧ (parseMethodDescriptor yX1_nearest.desc).map (fun d => d.parameters.length) = some 1 := by decide +kernel
theorem kdVX1_nearest : yX1_nearest.cls = RX1 ∧ yX1_nearest.cls ≠ "java/lang/invoke/MethodHandle" ∧ yX1_nearest.cls ≠ "java/lang/invoke/VarHandle" ∧ (parseMethodDescriptor yX1_nearest.desc).map (fun d => d.parameters.length) = some 1 := ⟨rfl, kdX1_nearest⟩
theorem kdX1_rowLedBy : yX1_rowLedBy.cls ≠ "java/lang/invoke/MethodHandle" ∧ yX1_rowLedBy.cls ≠ "java/lang/invoke/VarHandle" ∧ (parseMethodDescriptor yX1_rowLedBy.desc).map (fun d => d.parameters.length) = some 1 := by decide +kernel
theorem kdVX1_rowLedBy : yX1_rowLedBy.cls = RX1 ∧ yX1_rowLedBy.cls ≠ "java/lang/invoke/MethodHandle" ∧ yX1_rowLedBy.cls ≠ "java/lang/invoke/VarHandle" ∧ (parseMethodDescriptor yX1_rowLedBy.desc).map (fun d => d.parameters.length) = some 1 := ⟨rfl, kdX1_rowLedBy⟩
theorem kdX1_solutionAbove : yX1_solutionAbove.cls ≠ "java/lang/invoke/MethodHandle" ∧ yX1_solutionAbove.cls ≠ "java/lang/invoke/VarHandle" ∧ (parseMethodDescriptor yX1_solutionAbove.desc).map (fun d => d.parameters.length) = some 1 := by decide +kernel
theorem kdVX1_solutionAbove : yX1_solutionAbove.cls = RX1 ∧ yX1_solutionAbove.cls ≠ "java/lang/invoke/MethodHandle" ∧ yX1_solutionAbove.cls ≠ "java/lang/invoke/VarHandle" ∧ (parseMethodDescriptor yX1_solutionAbove.desc).map (fun d => d.parameters.length) = some 1 := ⟨rfl, kdX1_solutionAbove⟩
theorem kdX1_solutionBelow : yX1_solutionBelow.cls ≠ "java/lang/invoke/MethodHandle" ∧ yX1_solutionBelow.cls ≠ "java/lang/invoke/VarHandle" ∧ (parseMethodDescriptor yX1_solutionBelow.desc).map (fun d => d.parameters.length) = some 1 := by decide +kernel
theorem kdVX1_solutionBelow : yX1_solutionBelow.cls = RX1 ∧ yX1_solutionBelow.cls ≠ "java/lang/invoke/MethodHandle" ∧ yX1_solutionBelow.cls ≠ "java/lang/invoke/VarHandle" ∧ (parseMethodDescriptor yX1_solutionBelow.desc).map (fun d => d.parameters.length) = some 1 := ⟨rfl, kdX1_solutionBelow⟩
theorem kdX1_vanishing : yX1_vanishing.cls ≠ "java/lang/invoke/MethodHandle" ∧ yX1_vanishing.cls ≠ "java/lang/invoke/VarHandle" ∧ (parseMethodDescriptor yX1_vanishing.desc).map (fun d => d.parameters.length) = some 1 := by decide +kernel
theorem kdVX1_vanishing : yX1_vanishing.cls = RX1 ∧ yX1_vanishing.cls ≠ "java/lang/invoke/MethodHandle" ∧ yX1_vanishing.cls ≠ "java/lang/invoke/VarHandle" ∧ (parseMethodDescriptor yX1_vanishing.desc).map (fun d => d.parameters.length) = some 1 := ⟨rfl, kdX1_vanishing⟩
theorem kdX1_wideRank : yX1_wideRank.cls ≠ "java/lang/invoke/MethodHandle" ∧ yX1_wideRank.cls ≠ "java/lang/invoke/VarHandle" ∧ (parseMethodDescriptor yX1_wideRank.desc).map (fun d => d.parameters.length) = some 0 := by decide +kernel
theorem kdVX1_wideRank : yX1_wideRank.cls = RX1 ∧ yX1_wideRank.cls ≠ "java/lang/invoke/MethodHandle" ∧ yX1_wideRank.cls ≠ "java/lang/invoke/VarHandle" ∧ (parseMethodDescriptor yX1_wideRank.desc).map (fun d => d.parameters.length) = some 0 := ⟨rfl, kdX1_wideRank⟩
theorem kdX2_next : yX2_next.cls ≠ "java/lang/invoke/MethodHandle" ∧ yX2_next.cls ≠ "java/lang/invoke/VarHandle" ∧ (parseMethodDescriptor yX2_next.desc).map (fun d => d.parameters.length) = some 1 := by decide +kernel
theorem kdVX2_next : yX2_next.cls = RX2 ∧ yX2_next.cls ≠ "java/lang/invoke/MethodHandle" ∧ yX2_next.cls ≠ "java/lang/invoke/VarHandle" ∧ (parseMethodDescriptor yX2_next.desc).map (fun d => d.parameters.length) = some 1 := ⟨rfl, kdX2_next⟩
theorem kdX3_add : yX3_add.cls ≠ "java/lang/invoke/MethodHandle" ∧ yX3_add.cls ≠ "java/lang/invoke/VarHandle" ∧ (parseMethodDescriptor yX3_add.desc).map (fun d => d.parameters.length) = some 3 := by decide +kernel
theorem kdVX3_add : yX3_add.cls = RX3 ∧ yX3_add.cls ≠ "java/lang/invoke/MethodHandle" ∧ yX3_add.cls ≠ "java/lang/invoke/VarHandle" ∧ (parseMethodDescriptor yX3_add.desc).map (fun d => d.parameters.length) = some 3 := ⟨rfl, kdX3_add⟩
theorem kdX3_begin : yX3_begin.cls ≠ "java/lang/invoke/MethodHandle" ∧ yX3_begin.cls ≠ "java/lang/invoke/VarHandle" ∧ (parseMethodDescriptor yX3_begin.desc).map (fun d => d.parameters.length) = some 1 := by decide +kernel
theorem kdVX3_begin : yX3_begin.cls = RX3 ∧ yX3_begin.cls ≠ "java/lang/invoke/MethodHandle" ∧ yX3_begin.cls ≠ "java/lang/invoke/VarHandle" ∧ (parseMethodDescriptor yX3_begin.desc).map (fun d => d.parameters.length) = some 1 := ⟨rfl, kdX3_begin⟩
theorem kdX3_canAdd : yX3_canAdd.cls ≠ "java/lang/invoke/MethodHandle" ∧ yX3_canAdd.cls ≠ "java/lang/invoke/VarHandle" ∧ (parseMethodDescriptor yX3_canAdd.desc).map (fun d => d.parameters.length) = some 3 := by decide +kernel
theorem kdVX3_canAdd : yX3_canAdd.cls = RX3 ∧ yX3_canAdd.cls ≠ "java/lang/invoke/MethodHandle" ∧ yX3_canAdd.cls ≠ "java/lang/invoke/VarHandle" ∧ (parseMethodDescriptor yX3_canAdd.desc).map (fun d => d.parameters.length) = some 3 := ⟨rfl, kdX3_canAdd⟩
theorem kdX3_exchange : yX3_exchange.cls ≠ "java/lang/invoke/MethodHandle" ∧ yX3_exchange.cls ≠ "java/lang/invoke/VarHandle" ∧ (parseMethodDescriptor yX3_exchange.desc).map (fun d => d.parameters.length) = some 2 := by decide +kernel
theorem kdVX3_exchange : yX3_exchange.cls = RX3 ∧ yX3_exchange.cls ≠ "java/lang/invoke/MethodHandle" ∧ yX3_exchange.cls ≠ "java/lang/invoke/VarHandle" ∧ (parseMethodDescriptor yX3_exchange.desc).map (fun d => d.parameters.length) = some 2 := ⟨rfl, kdX3_exchange⟩
theorem kdX3_has : yX3_has.cls ≠ "java/lang/invoke/MethodHandle" ∧ yX3_has.cls ≠ "java/lang/invoke/VarHandle" ∧ (parseMethodDescriptor yX3_has.desc).map (fun d => d.parameters.length) = some 1 := by decide +kernel
theorem kdVX3_has : yX3_has.cls = RX3 ∧ yX3_has.cls ≠ "java/lang/invoke/MethodHandle" ∧ yX3_has.cls ≠ "java/lang/invoke/VarHandle" ∧ (parseMethodDescriptor yX3_has.desc).map (fun d => d.parameters.length) = some 1 := ⟨rfl, kdX3_has⟩
theorem kdX3_number : yX3_number.cls ≠ "java/lang/invoke/MethodHandle" ∧ yX3_number.cls ≠ "java/lang/invoke/VarHandle" ∧ (parseMethodDescriptor yX3_number.desc).map (fun d => d.parameters.length) = some 2 := by decide +kernel
theorem kdVX3_number : yX3_number.cls = RX3 ∧ yX3_number.cls ≠ "java/lang/invoke/MethodHandle" ∧ yX3_number.cls ≠ "java/lang/invoke/VarHandle" ∧ (parseMethodDescriptor yX3_number.desc).map (fun d => d.parameters.length) = some 2 := ⟨rfl, kdX3_number⟩
theorem kdX3_p : yX3_p.cls ≠ "java/lang/invoke/MethodHandle" ∧ yX3_p.cls ≠ "java/lang/invoke/VarHandle" ∧ (parseMethodDescriptor yX3_p.desc).map (fun d => d.parameters.length) = some 0 := by decide +kernel
theorem kdVX3_p : yX3_p.cls = RX3 ∧ yX3_p.cls ≠ "java/lang/invoke/MethodHandle" ∧ yX3_p.cls ≠ "java/lang/invoke/VarHandle" ∧ (parseMethodDescriptor yX3_p.desc).map (fun d => d.parameters.length) = some 0 := ⟨rfl, kdX3_p⟩
theorem kdX3_readFrom : yX3_readFrom.cls ≠ "java/lang/invoke/MethodHandle" ∧ yX3_readFrom.cls ≠ "java/lang/invoke/VarHandle" ∧ (parseMethodDescriptor yX3_readFrom.desc).map (fun d => d.parameters.length) = some 2 := by decide +kernel
theorem kdVX3_readFrom : yX3_readFrom.cls = RX3 ∧ yX3_readFrom.cls ≠ "java/lang/invoke/MethodHandle" ∧ yX3_readFrom.cls ≠ "java/lang/invoke/VarHandle" ∧ (parseMethodDescriptor yX3_readFrom.desc).map (fun d => d.parameters.length) = some 2 := ⟨rfl, kdX3_readFrom⟩
theorem kdX3_set : yX3_set.cls ≠ "java/lang/invoke/MethodHandle" ∧ yX3_set.cls ≠ "java/lang/invoke/VarHandle" ∧ (parseMethodDescriptor yX3_set.desc).map (fun d => d.parameters.length) = some 3 := by decide +kernel
theorem kdVX3_set : yX3_set.cls = RX3 ∧ yX3_set.cls ≠ "java/lang/invoke/MethodHandle" ∧ yX3_set.cls ≠ "java/lang/invoke/VarHandle" ∧ (parseMethodDescriptor yX3_set.desc).map (fun d => d.parameters.length) = some 3 := ⟨rfl, kdX3_set⟩
theorem kdX3_squares : yX3_squares.cls ≠ "java/lang/invoke/MethodHandle" ∧ yX3_squares.cls ≠ "java/lang/invoke/VarHandle" ∧ (parseMethodDescriptor yX3_squares.desc).map (fun d => d.parameters.length) = some 1 := by decide +kernel
theorem kdVX3_squares : yX3_squares.cls = RX3 ∧ yX3_squares.cls ≠ "java/lang/invoke/MethodHandle" ∧ yX3_squares.cls ≠ "java/lang/invoke/VarHandle" ∧ (parseMethodDescriptor yX3_squares.desc).map (fun d => d.parameters.length) = some 1 := ⟨rfl, kdX3_squares⟩
theorem kdX3_transpose : yX3_transpose.cls ≠ "java/lang/invoke/MethodHandle" ∧ yX3_transpose.cls ≠ "java/lang/invoke/VarHandle" ∧ (parseMethodDescriptor yX3_transpose.desc).map (fun d => d.parameters.length) = some 0 := by decide +kernel
theorem kdVX3_transpose : yX3_transpose.cls = RX3 ∧ yX3_transpose.cls ≠ "java/lang/invoke/MethodHandle" ∧ yX3_transpose.cls ≠ "java/lang/invoke/VarHandle" ∧ (parseMethodDescriptor yX3_transpose.desc).map (fun d => d.parameters.length) = some 0 := ⟨rfl, kdX3_transpose⟩
theorem kdX3_writeTo : yX3_writeTo.cls ≠ "java/lang/invoke/MethodHandle" ∧ yX3_writeTo.cls ≠ "java/lang/invoke/VarHandle" ∧ (parseMethodDescriptor yX3_writeTo.desc).map (fun d => d.parameters.length) = some 2 := by decide +kernel
theorem kdVX3_writeTo : yX3_writeTo.cls = RX3 ∧ yX3_writeTo.cls ≠ "java/lang/invoke/MethodHandle" ∧ yX3_writeTo.cls ≠ "java/lang/invoke/VarHandle" ∧ (parseMethodDescriptor yX3_writeTo.desc).map (fun d => d.parameters.length) = some 2 := ⟨rfl, kdX3_writeTo⟩
theorem kdX4_boundOf : yX4_boundOf.cls ≠ "java/lang/invoke/MethodHandle" ∧ yX4_boundOf.cls ≠ "java/lang/invoke/VarHandle" ∧ (parseMethodDescriptor yX4_boundOf.desc).map (fun d => d.parameters.length) = some 1 := by decide +kernel
theorem kdVX4_boundOf : yX4_boundOf.cls = RX4 ∧ yX4_boundOf.cls ≠ "java/lang/invoke/MethodHandle" ∧ yX4_boundOf.cls ≠ "java/lang/invoke/VarHandle" ∧ (parseMethodDescriptor yX4_boundOf.desc).map (fun d => d.parameters.length) = some 1 := ⟨rfl, kdX4_boundOf⟩
theorem kdX4_is : yX4_is.cls ≠ "java/lang/invoke/MethodHandle" ∧ yX4_is.cls ≠ "java/lang/invoke/VarHandle" ∧ (parseMethodDescriptor yX4_is.desc).map (fun d => d.parameters.length) = some 2 := by decide +kernel
theorem kdVX4_is : yX4_is.cls = RX4 ∧ yX4_is.cls ≠ "java/lang/invoke/MethodHandle" ∧ yX4_is.cls ≠ "java/lang/invoke/VarHandle" ∧ (parseMethodDescriptor yX4_is.desc).map (fun d => d.parameters.length) = some 2 := ⟨rfl, kdX4_is⟩
theorem kdX4_seek : yX4_seek.cls ≠ "java/lang/invoke/MethodHandle" ∧ yX4_seek.cls ≠ "java/lang/invoke/VarHandle" ∧ (parseMethodDescriptor yX4_seek.desc).map (fun d => d.parameters.length) = some 3 := by decide +kernel
theorem kdVX4_seek : yX4_seek.cls = RX4 ∧ yX4_seek.cls ≠ "java/lang/invoke/MethodHandle" ∧ yX4_seek.cls ≠ "java/lang/invoke/VarHandle" ∧ (parseMethodDescriptor yX4_seek.desc).map (fun d => d.parameters.length) = some 3 := ⟨rfl, kdX4_seek⟩
theorem kdX5_bringBack : yX5_bringBack.cls ≠ "java/lang/invoke/MethodHandle" ∧ yX5_bringBack.cls ≠ "java/lang/invoke/VarHandle" ∧ (parseMethodDescriptor yX5_bringBack.desc).map (fun d => d.parameters.length) = some 2 := by decide +kernel
theorem kdVX5_bringBack : yX5_bringBack.cls = RX5 ∧ yX5_bringBack.cls ≠ "java/lang/invoke/MethodHandle" ∧ yX5_bringBack.cls ≠ "java/lang/invoke/VarHandle" ∧ (parseMethodDescriptor yX5_bringBack.desc).map (fun d => d.parameters.length) = some 2 := ⟨rfl, kdX5_bringBack⟩
theorem kdX5_remember : yX5_remember.cls ≠ "java/lang/invoke/MethodHandle" ∧ yX5_remember.cls ≠ "java/lang/invoke/VarHandle" ∧ (parseMethodDescriptor yX5_remember.desc).map (fun d => d.parameters.length) = some 1 := by decide +kernel
theorem kdVX5_remember : yX5_remember.cls = RX5 ∧ yX5_remember.cls ≠ "java/lang/invoke/MethodHandle" ∧ yX5_remember.cls ≠ "java/lang/invoke/VarHandle" ∧ (parseMethodDescriptor yX5_remember.desc).map (fun d => d.parameters.length) = some 1 := ⟨rfl, kdX5_remember⟩
theorem kdX6_give : yX6_give.cls ≠ "java/lang/invoke/MethodHandle" ∧ yX6_give.cls ≠ "java/lang/invoke/VarHandle" ∧ (parseMethodDescriptor yX6_give.desc).map (fun d => d.parameters.length) = some 2 := by decide +kernel
theorem kdVX6_give : yX6_give.cls = RX6 ∧ yX6_give.cls ≠ "java/lang/invoke/MethodHandle" ∧ yX6_give.cls ≠ "java/lang/invoke/VarHandle" ∧ (parseMethodDescriptor yX6_give.desc).map (fun d => d.parameters.length) = some 2 := ⟨rfl, kdX6_give⟩
theorem kdX6_take : yX6_take.cls ≠ "java/lang/invoke/MethodHandle" ∧ yX6_take.cls ≠ "java/lang/invoke/VarHandle" ∧ (parseMethodDescriptor yX6_take.desc).map (fun d => d.parameters.length) = some 2 := by decide +kernel
theorem kdVX6_take : yX6_take.cls = RX6 ∧ yX6_take.cls ≠ "java/lang/invoke/MethodHandle" ∧ yX6_take.cls ≠ "java/lang/invoke/VarHandle" ∧ (parseMethodDescriptor yX6_take.desc).map (fun d => d.parameters.length) = some 2 := ⟨rfl, kdX6_take⟩
theorem kdX7_begin : yX7_begin.cls ≠ "java/lang/invoke/MethodHandle" ∧ yX7_begin.cls ≠ "java/lang/invoke/VarHandle" ∧ (parseMethodDescriptor yX7_begin.desc).map (fun d => d.parameters.length) = some 1 := by decide +kernel
theorem kdVX7_begin : yX7_begin.cls = RX7 ∧ yX7_begin.cls ≠ "java/lang/invoke/MethodHandle" ∧ yX7_begin.cls ≠ "java/lang/invoke/VarHandle" ∧ (parseMethodDescriptor yX7_begin.desc).map (fun d => d.parameters.length) = some 1 := ⟨rfl, kdX7_begin⟩
theorem kdX7_step : yX7_step.cls ≠ "java/lang/invoke/MethodHandle" ∧ yX7_step.cls ≠ "java/lang/invoke/VarHandle" ∧ (parseMethodDescriptor yX7_step.desc).map (fun d => d.parameters.length) = some 2 := by decide +kernel
theorem kdVX7_step : yX7_step.cls = RX7 ∧ yX7_step.cls ≠ "java/lang/invoke/MethodHandle" ∧ yX7_step.cls ≠ "java/lang/invoke/VarHandle" ∧ (parseMethodDescriptor yX7_step.desc).map (fun d => d.parameters.length) = some 2 := ⟨rfl, kdX7_step⟩
theorem kdX8_clear : yX8_clear.cls ≠ "java/lang/invoke/MethodHandle" ∧ yX8_clear.cls ≠ "java/lang/invoke/VarHandle" ∧ (parseMethodDescriptor yX8_clear.desc).map (fun d => d.parameters.length) = some 1 := by decide +kernel
theorem kdVX8_clear : yX8_clear.cls = RX8 ∧ yX8_clear.cls ≠ "java/lang/invoke/MethodHandle" ∧ yX8_clear.cls ≠ "java/lang/invoke/VarHandle" ∧ (parseMethodDescriptor yX8_clear.desc).map (fun d => d.parameters.length) = some 1 := ⟨rfl, kdX8_clear⟩
theorem kdX8_clearColumn : yX8_clearColumn.cls ≠ "java/lang/invoke/MethodHandle" ∧ yX8_clearColumn.cls ≠ "java/lang/invoke/VarHandle" ∧ (parseMethodDescriptor yX8_clearColumn.desc).map (fun d => d.parameters.length) = some 1 := by decide +kernel
theorem kdVX8_clearColumn : yX8_clearColumn.cls = RX8 ∧ yX8_clearColumn.cls ≠ "java/lang/invoke/MethodHandle" ∧ yX8_clearColumn.cls ≠ "java/lang/invoke/VarHandle" ∧ (parseMethodDescriptor yX8_clearColumn.desc).map (fun d => d.parameters.length) = some 1 := ⟨rfl, kdX8_clearColumn⟩
theorem kdX8_inverse : yX8_inverse.cls ≠ "java/lang/invoke/MethodHandle" ∧ yX8_inverse.cls ≠ "java/lang/invoke/VarHandle" ∧ (parseMethodDescriptor yX8_inverse.desc).map (fun d => d.parameters.length) = some 2 := by decide +kernel
theorem kdVX8_inverse : yX8_inverse.cls = RX8 ∧ yX8_inverse.cls ≠ "java/lang/invoke/MethodHandle" ∧ yX8_inverse.cls ≠ "java/lang/invoke/VarHandle" ∧ (parseMethodDescriptor yX8_inverse.desc).map (fun d => d.parameters.length) = some 2 := ⟨rfl, kdX8_inverse⟩
theorem kdX8_oneOver : yX8_oneOver.cls ≠ "java/lang/invoke/MethodHandle" ∧ yX8_oneOver.cls ≠ "java/lang/invoke/VarHandle" ∧ (parseMethodDescriptor yX8_oneOver.desc).map (fun d => d.parameters.length) = some 1 := by decide +kernel
theorem kdVX8_oneOver : yX8_oneOver.cls = RX8 ∧ yX8_oneOver.cls ≠ "java/lang/invoke/MethodHandle" ∧ yX8_oneOver.cls ≠ "java/lang/invoke/VarHandle" ∧ (parseMethodDescriptor yX8_oneOver.desc).map (fun d => d.parameters.length) = some 1 := ⟨rfl, kdX8_oneOver⟩
theorem kdX8_ways : yX8_ways.cls ≠ "java/lang/invoke/MethodHandle" ∧ yX8_ways.cls ≠ "java/lang/invoke/VarHandle" ∧ (parseMethodDescriptor yX8_ways.desc).map (fun d => d.parameters.length) = some 0 := by decide +kernel
theorem kdVX8_ways : yX8_ways.cls = RX8 ∧ yX8_ways.cls ≠ "java/lang/invoke/MethodHandle" ∧ yX8_ways.cls ≠ "java/lang/invoke/VarHandle" ∧ (parseMethodDescriptor yX8_ways.desc).map (fun d => d.parameters.length) = some 0 := ⟨rfl, kdX8_ways⟩
theorem kdX9_clearColumns : yX9_clearColumns.cls ≠ "java/lang/invoke/MethodHandle" ∧ yX9_clearColumns.cls ≠ "java/lang/invoke/VarHandle" ∧ (parseMethodDescriptor yX9_clearColumns.desc).map (fun d => d.parameters.length) = some 0 := by decide +kernel
theorem kdVX9_clearColumns : yX9_clearColumns.cls = RX9 ∧ yX9_clearColumns.cls ≠ "java/lang/invoke/MethodHandle" ∧ yX9_clearColumns.cls ≠ "java/lang/invoke/VarHandle" ∧ (parseMethodDescriptor yX9_clearColumns.desc).map (fun d => d.parameters.length) = some 0 := ⟨rfl, kdX9_clearColumns⟩
theorem kdX9_exchangeRows : yX9_exchangeRows.cls ≠ "java/lang/invoke/MethodHandle" ∧ yX9_exchangeRows.cls ≠ "java/lang/invoke/VarHandle" ∧ (parseMethodDescriptor yX9_exchangeRows.desc).map (fun d => d.parameters.length) = some 2 := by decide +kernel
theorem kdVX9_exchangeRows : yX9_exchangeRows.cls = RX9 ∧ yX9_exchangeRows.cls ≠ "java/lang/invoke/MethodHandle" ∧ yX9_exchangeRows.cls ≠ "java/lang/invoke/VarHandle" ∧ (parseMethodDescriptor yX9_exchangeRows.desc).map (fun d => d.parameters.length) = some 2 := ⟨rfl, kdX9_exchangeRows⟩
theorem kdX9_fitsSide : yX9_fitsSide.cls ≠ "java/lang/invoke/MethodHandle" ∧ yX9_fitsSide.cls ≠ "java/lang/invoke/VarHandle" ∧ (parseMethodDescriptor yX9_fitsSide.desc).map (fun d => d.parameters.length) = some 0 := by decide +kernel
theorem kdVX9_fitsSide : yX9_fitsSide.cls = RX9 ∧ yX9_fitsSide.cls ≠ "java/lang/invoke/MethodHandle" ∧ yX9_fitsSide.cls ≠ "java/lang/invoke/VarHandle" ∧ (parseMethodDescriptor yX9_fitsSide.desc).map (fun d => d.parameters.length) = some 0 := ⟨rfl, kdX9_fitsSide⟩
theorem kdX9_raise : yX9_raise.cls ≠ "java/lang/invoke/MethodHandle" ∧ yX9_raise.cls ≠ "java/lang/invoke/VarHandle" ∧ (parseMethodDescriptor yX9_raise.desc).map (fun d => d.parameters.length) = some 1 := by decide +kernel
theorem kdVX9_raise : yX9_raise.cls = RX9 ∧ yX9_raise.cls ≠ "java/lang/invoke/MethodHandle" ∧ yX9_raise.cls ≠ "java/lang/invoke/VarHandle" ∧ (parseMethodDescriptor yX9_raise.desc).map (fun d => d.parameters.length) = some 1 := ⟨rfl, kdX9_raise⟩
