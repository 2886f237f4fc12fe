theorem wy_yX11_within : am_yok yX11_within 3 = true := by decide +kernel
set_option maxRecDepth 100000 in
theorem wl_X_47 : Cond.methodLink "ShareHouse" 47 yX11_within ∈ am_tb := am_tb2 (i := 209) rfl rfl
set_option maxRecDepth 100000 in
theorem ws_yX11_within : Cond.static yX11_within ∈ am_tb := am_tb2 (i := 210) rfl rfl
set_option maxRecDepth 100000 in
theorem wn_ShareHouse : Cond.initialized "ShareHouse" ∈ am_tb := am_tb1 (i := 1) rfl rfl
set_option maxRecDepth 100000 in
theorem wc_yX11_within : Cond.code yX11_within cX11_within 3 (some .boolean) ∈ am_tb := am_tb2 (i := 211) rfl rfl
theorem wy_yX2_add : am_yok yX2_add 3 = true := by decide +kernel
set_option maxRecDepth 100000 in
theorem wl_X_55 : Cond.methodLink "ShareHouse" 55 yX2_add ∈ am_tb := am_tb2 (i := 212) rfl rfl
set_option maxRecDepth 100000 in
theorem wi_yX2_add : Cond.instanceMethod yX2_add ∈ am_tb := am_tb2 (i := 213) rfl rfl
set_option maxRecDepth 100000 in
theorem we_yX2_add : Cond.selects yX2_add.cls yX2_add yX2_add ∈ am_tb := am_tb2 (i := 214) rfl rfl
set_option maxRecDepth 100000 in
theorem wn_ShareHouse_Flats : Cond.initialized "ShareHouse$Flats" ∈ am_tb := am_tb1 (i := 3) rfl rfl
set_option maxRecDepth 100000 in
theorem wc_yX2_add : Cond.code yX2_add cX2_add 4 (some .int) ∈ am_tb := am_tb2 (i := 215) rfl rfl
set_option maxRecDepth 100000 in
theorem wk_Ta_113 : Cond.methodLinkNest "ShareHouse$Tape" 113 yX11_within "ShareHouse" ∈ tables_1 := am_tm2 (i := 231) rfl
theorem wy_yX9_kindOf : am_yok yX9_kindOf 1 = true := by decide +kernel
set_option maxRecDepth 100000 in
theorem wl_Ta_29 : Cond.methodLink "ShareHouse$Tape" 29 yX9_kindOf ∈ am_tb := am_tb2 (i := 228) rfl rfl
set_option maxRecDepth 100000 in
theorem ws_yX9_kindOf : Cond.static yX9_kindOf ∈ am_tb := am_tb2 (i := 229) rfl rfl
set_option maxRecDepth 100000 in
theorem wn_ShareHouse_Tape : Cond.initialized "ShareHouse$Tape" ∈ am_tb := am_tb1 (i := 9) rfl rfl
set_option maxRecDepth 100000 in
theorem wc_yX9_kindOf : Cond.code yX9_kindOf cX9_kindOf 1 (some .int) ∈ am_tb := am_tb2 (i := 230) rfl rfl
theorem wy_yX9_add : am_yok yX9_add 2 = true := by decide +kernel
set_option maxRecDepth 100000 in
theorem wl_X_65 : Cond.methodLink "ShareHouse" 65 yX9_add ∈ am_tb := am_tb2 (i := 224) rfl rfl
set_option maxRecDepth 100000 in
theorem wi_yX9_add : Cond.instanceMethod yX9_add ∈ am_tb := am_tb2 (i := 225) rfl rfl
set_option maxRecDepth 100000 in
theorem we_yX9_add : Cond.selects yX9_add.cls yX9_add yX9_add ∈ am_tb := am_tb2 (i := 226) rfl rfl
set_option maxRecDepth 100000 in
theorem wc_yX9_add : Cond.code yX9_add cX9_add 5 (some .int) ∈ am_tb := am_tb2 (i := 227) rfl rfl
set_option maxRecDepth 100000 in
theorem wk_Fl_44 : Cond.methodLinkNest "ShareHouse$Flats" 44 yX11_within "ShareHouse" ∈ tables_1 := am_tm3 (i := 0) rfl
theorem wy_yX2_has : am_yok yX2_has 1 = true := by decide +kernel
set_option maxRecDepth 100000 in
theorem wl_X_68 : Cond.methodLink "ShareHouse" 68 yX2_has ∈ am_tb := am_tb2 (i := 236) rfl rfl
set_option maxRecDepth 100000 in
theorem wi_yX2_has : Cond.instanceMethod yX2_has ∈ am_tb := am_tb2 (i := 237) rfl rfl
set_option maxRecDepth 100000 in
theorem we_yX2_has : Cond.selects yX2_has.cls yX2_has yX2_has ∈ am_tb := am_tb2 (i := 238) rfl rfl
set_option maxRecDepth 100000 in
theorem wc_yX2_has : Cond.code yX2_has cX2_has 2 (some .boolean) ∈ am_tb := am_tb2 (i := 239) rfl rfl
theorem wy_yX9_clear : am_yok yX9_clear 0 = true := by decide +kernel
set_option maxRecDepth 100000 in
theorem wl_X_76 : Cond.methodLink "ShareHouse" 76 yX9_clear ∈ am_tb := am_tb3 (i := 144) rfl rfl
set_option maxRecDepth 100000 in
theorem wi_yX9_clear : Cond.instanceMethod yX9_clear ∈ am_tb := am_tb3 (i := 145) rfl rfl
set_option maxRecDepth 100000 in
theorem we_yX9_clear : Cond.selects yX9_clear.cls yX9_clear yX9_clear ∈ am_tb := am_tb3 (i := 146) rfl rfl
set_option maxRecDepth 100000 in
theorem wc_yX9_clear : Cond.code yX9_clear cX9_clear 1 none ∈ am_tb := am_tb3 (i := 147) rfl rfl
theorem wy_yX9_step : am_yok yX9_step 0 = true := by decide +kernel
set_option maxRecDepth 100000 in
theorem wl_Ta_44 : Cond.methodLink "ShareHouse$Tape" 44 yX9_step ∈ am_tb := am_tb3 (i := 9) rfl rfl
set_option maxRecDepth 100000 in
theorem wi_yX9_step : Cond.instanceMethod yX9_step ∈ am_tb := am_tb3 (i := 11) rfl rfl
set_option maxRecDepth 100000 in
theorem we_yX9_step : Cond.selects yX9_step.cls yX9_step yX9_step ∈ am_tb := am_tbP (i := 1) (q := (yX9_step, 10)) rfl
set_option maxRecDepth 100000 in
theorem wc_yX9_step : Cond.code yX9_step cX9_step 1 none ∈ am_tb := am_tb3 (i := 12) rfl rfl
theorem wy_yX4_put : am_yok yX4_put 2 = true := by decide +kernel
set_option maxRecDepth 100000 in
theorem wl_Ta_57 : Cond.methodLink "ShareHouse$Tape" 57 yX4_put ∈ am_tb := am_tb3 (i := 17) rfl rfl
set_option maxRecDepth 100000 in
theorem wi_yX4_put : Cond.instanceMethod yX4_put ∈ am_tb := am_tb3 (i := 18) rfl rfl
set_option maxRecDepth 100000 in
theorem we_yX4_put : Cond.selects yX4_put.cls yX4_put yX4_put ∈ am_tb := am_tb3 (i := 19) rfl rfl
set_option maxRecDepth 100000 in
theorem wn_ShareHouse_Lease : Cond.initialized "ShareHouse$Lease" ∈ am_tb := am_tb1 (i := 4) rfl rfl
set_option maxRecDepth 100000 in
theorem wc_yX4_put : Cond.code yX4_put cX4_put 3 none ∈ am_tb := am_tb3 (i := 20) rfl rfl
theorem wy_yJ0_length_8abf5 : am_yok yJ0_length_8abf5 0 = true := by decide +kernel
set_option maxRecDepth 100000 in
theorem wl_Ta_142 : Cond.methodLink "ShareHouse$Tape" 142 yJ0_length_8abf5 ∈ am_tb := am_tb3 (i := 34) rfl rfl
set_option maxRecDepth 100000 in
theorem wi_yJ0_length_8abf5 : Cond.instanceMethod yJ0_length_8abf5 ∈ am_tb := am_tb3 (i := 35) rfl rfl
set_option maxRecDepth 100000 in
theorem we_yJ0_length_8abf5 : Cond.selects yJ0_length_8abf5.cls yJ0_length_8abf5 yJ0_length_8abf5 ∈ am_tb := am_tb3 (i := 36) rfl rfl
set_option maxRecDepth 100000 in
theorem wn_java_lang_String : Cond.initialized "java/lang/String" ∈ am_tb := am_tb1 (i := 14) rfl rfl
set_option maxRecDepth 100000 in
theorem wc_yJ0_length_8abf5 : Cond.code yJ0_length_8abf5 cJ0_length_8abf5 1 (some .int) ∈ am_tb := am_tb3 (i := 37) rfl rfl
theorem wy_yJ0_charAt_5068e : am_yok yJ0_charAt_5068e 1 = true := by decide +kernel
set_option maxRecDepth 100000 in
theorem wl_Ta_147 : Cond.methodLink "ShareHouse$Tape" 147 yJ0_charAt_5068e ∈ am_tb := am_tb3 (i := 44) rfl rfl
set_option maxRecDepth 100000 in
theorem wi_yJ0_charAt_5068e : Cond.instanceMethod yJ0_charAt_5068e ∈ am_tb := am_tb3 (i := 45) rfl rfl
set_option maxRecDepth 100000 in
theorem we_yJ0_charAt_5068e : Cond.selects yJ0_charAt_5068e.cls yJ0_charAt_5068e yJ0_charAt_5068e ∈ am_tb := am_tb3 (i := 46) rfl rfl
set_option maxRecDepth 100000 in
theorem wc_yJ0_charAt_5068e : Cond.code yJ0_charAt_5068e cJ0_charAt_5068e 2 (some .char) ∈ am_tb := am_tb3 (i := 47) rfl rfl
theorem wy_yX9_isAtHand : am_yok yX9_isAtHand 1 = true := by decide +kernel
set_option maxRecDepth 100000 in
theorem wl_Ta_94 : Cond.methodLink "ShareHouse$Tape" 94 yX9_isAtHand ∈ am_tb := am_tb3 (i := 30) rfl rfl
set_option maxRecDepth 100000 in
theorem wi_yX9_isAtHand : Cond.instanceMethod yX9_isAtHand ∈ am_tb := am_tb3 (i := 32) rfl rfl
set_option maxRecDepth 100000 in
theorem we_yX9_isAtHand : Cond.selects yX9_isAtHand.cls yX9_isAtHand yX9_isAtHand ∈ am_tb := am_tbP (i := 5) (q := (yX9_isAtHand, 10)) rfl
set_option maxRecDepth 100000 in
theorem wc_yX9_isAtHand : Cond.code yX9_isAtHand cX9_isAtHand 3 (some .boolean) ∈ am_tb := am_tb3 (i := 33) rfl rfl
theorem wy_yX9_take : am_yok yX9_take 1 = true := by decide +kernel
set_option maxRecDepth 100000 in
theorem wl_Ta_69 : Cond.methodLink "ShareHouse$Tape" 69 yX9_take ∈ am_tb := am_tb3 (i := 26) rfl rfl
set_option maxRecDepth 100000 in
theorem wi_yX9_take : Cond.instanceMethod yX9_take ∈ am_tb := am_tb3 (i := 28) rfl rfl
set_option maxRecDepth 100000 in
theorem we_yX9_take : Cond.selects yX9_take.cls yX9_take yX9_take ∈ am_tb := am_tbP (i := 4) (q := (yX9_take, 10)) rfl
set_option maxRecDepth 100000 in
theorem wc_yX9_take : Cond.code yX9_take cX9_take 2 (some .boolean) ∈ am_tb := am_tb3 (i := 29) rfl rfl
theorem wy_yX9_headAtHand : am_yok yX9_headAtHand 0 = true := by decide +kernel
set_option maxRecDepth 100000 in
theorem wl_Ta_86 : Cond.methodLink "ShareHouse$Tape" 86 yX9_headAtHand ∈ am_tb := am_tb3 (i := 82) rfl rfl
set_option maxRecDepth 100000 in
theorem wi_yX9_headAtHand : Cond.instanceMethod yX9_headAtHand ∈ am_tb := am_tb3 (i := 84) rfl rfl
set_option maxRecDepth 100000 in
theorem we_yX9_headAtHand : Cond.selects yX9_headAtHand.cls yX9_headAtHand yX9_headAtHand ∈ am_tb := am_tbP (i := 6) (q := (yX9_headAtHand, 10)) rfl
set_option maxRecDepth 100000 in
theorem wc_yX9_headAtHand : Cond.code yX9_headAtHand cX9_headAtHand 1 (some .int) ∈ am_tb := am_tb3 (i := 85) rfl rfl
theorem wy_yX9_readHeads : am_yok yX9_readHeads 0 = true := by decide +kernel
set_option maxRecDepth 100000 in
theorem wl_Ta_64 : Cond.methodLink "ShareHouse$Tape" 64 yX9_readHeads ∈ am_tb := am_tb3 (i := 21) rfl rfl
set_option maxRecDepth 100000 in
theorem wi_yX9_readHeads : Cond.instanceMethod yX9_readHeads ∈ am_tb := am_tb3 (i := 23) rfl rfl
set_option maxRecDepth 100000 in
theorem we_yX9_readHeads : Cond.selects yX9_readHeads.cls yX9_readHeads yX9_readHeads ∈ am_tb := am_tbP (i := 3) (q := (yX9_readHeads, 10)) rfl
set_option maxRecDepth 100000 in
theorem wc_yX9_readHeads : Cond.code yX9_readHeads cX9_readHeads 4 (some .boolean) ∈ am_tb := am_tb3 (i := 24) rfl rfl
theorem wy_yX9_plainShareAtHand : am_yok yX9_plainShareAtHand 0 = true := by decide +kernel
set_option maxRecDepth 100000 in
theorem wl_Ta_107 : Cond.methodLink "ShareHouse$Tape" 107 yX9_plainShareAtHand ∈ am_tb := am_tb3 (i := 98) rfl rfl
set_option maxRecDepth 100000 in
theorem wi_yX9_plainShareAtHand : Cond.instanceMethod yX9_plainShareAtHand ∈ am_tb := am_tb3 (i := 100) rfl rfl
set_option maxRecDepth 100000 in
theorem we_yX9_plainShareAtHand : Cond.selects yX9_plainShareAtHand.cls yX9_plainShareAtHand yX9_plainShareAtHand ∈ am_tb := am_tbP (i := 8) (q := (yX9_plainShareAtHand, 10)) rfl
set_option maxRecDepth 100000 in
theorem wc_yX9_plainShareAtHand : Cond.code yX9_plainShareAtHand cX9_plainShareAtHand 1 (some .int) ∈ am_tb := am_tb3 (i := 101) rfl rfl
theorem wy_yX9_numberAtHand : am_yok yX9_numberAtHand 0 = true := by decide +kernel
set_option maxRecDepth 100000 in
theorem wl_Ta_110 : Cond.methodLink "ShareHouse$Tape" 110 yX9_numberAtHand ∈ am_tb := am_tb3 (i := 106) rfl rfl
set_option maxRecDepth 100000 in
theorem wi_yX9_numberAtHand : Cond.instanceMethod yX9_numberAtHand ∈ am_tb := am_tb3 (i := 108) rfl rfl
set_option maxRecDepth 100000 in
theorem we_yX9_numberAtHand : Cond.selects yX9_numberAtHand.cls yX9_numberAtHand yX9_numberAtHand ∈ am_tb := am_tbP (i := 9) (q := (yX9_numberAtHand, 10)) rfl
set_option maxRecDepth 100000 in
theorem wc_yX9_numberAtHand : Cond.code yX9_numberAtHand cX9_numberAtHand 3 (some .int) ∈ am_tb := am_tb3 (i := 109) rfl rfl
theorem wy_yX9_readShare : am_yok yX9_readShare 0 = true := by decide +kernel
set_option maxRecDepth 100000 in
theorem wl_Ta_73 : Cond.methodLink "ShareHouse$Tape" 73 yX9_readShare ∈ am_tb := am_tb3 (i := 94) rfl rfl
set_option maxRecDepth 100000 in
theorem wi_yX9_readShare : Cond.instanceMethod yX9_readShare ∈ am_tb := am_tb3 (i := 96) rfl rfl
set_option maxRecDepth 100000 in
theorem we_yX9_readShare : Cond.selects yX9_readShare.cls yX9_readShare yX9_readShare ∈ am_tb := am_tbP (i := 7) (q := (yX9_readShare, 10)) rfl
set_option maxRecDepth 100000 in
theorem wc_yX9_readShare : Cond.code yX9_readShare cX9_readShare 4 (some .boolean) ∈ am_tb := am_tb3 (i := 97) rfl rfl
theorem wy_yX9_takeSemicolon : am_yok yX9_takeSemicolon 0 = true := by decide +kernel
set_option maxRecDepth 100000 in
theorem wl_Ta_81 : Cond.methodLink "ShareHouse$Tape" 81 yX9_takeSemicolon ∈ am_tb := am_tb3 (i := 127) rfl rfl
set_option maxRecDepth 100000 in
theorem wi_yX9_takeSemicolon : Cond.instanceMethod yX9_takeSemicolon ∈ am_tb := am_tb3 (i := 129) rfl rfl
set_option maxRecDepth 100000 in
theorem we_yX9_takeSemicolon : Cond.selects yX9_takeSemicolon.cls yX9_takeSemicolon yX9_takeSemicolon ∈ am_tb := am_tbP (i := 12) (q := (yX9_takeSemicolon, 10)) rfl
set_option maxRecDepth 100000 in
theorem wc_yX9_takeSemicolon : Cond.code yX9_takeSemicolon cX9_takeSemicolon 1 (some .boolean) ∈ am_tb := am_tb3 (i := 130) rfl rfl
theorem wy_yX9_readOne : am_yok yX9_readOne 0 = true := by decide +kernel
set_option maxRecDepth 100000 in
theorem wl_Ta_132 : Cond.methodLink "ShareHouse$Tape" 132 yX9_readOne ∈ am_tb := am_tb3 (i := 119) rfl rfl
set_option maxRecDepth 100000 in
theorem wi_yX9_readOne : Cond.instanceMethod yX9_readOne ∈ am_tb := am_tb3 (i := 121) rfl rfl
set_option maxRecDepth 100000 in
theorem we_yX9_readOne : Cond.selects yX9_readOne.cls yX9_readOne yX9_readOne ∈ am_tb := am_tbP (i := 11) (q := (yX9_readOne, 10)) rfl
set_option maxRecDepth 100000 in
theorem wc_yX9_readOne : Cond.code yX9_readOne cX9_readOne 4 (some .boolean) ∈ am_tb := am_tb3 (i := 122) rfl rfl
theorem wy_yX9_readCondition : am_yok yX9_readCondition 0 = true := by decide +kernel
set_option maxRecDepth 100000 in
theorem wl_Ta_78 : Cond.methodLink "ShareHouse$Tape" 78 yX9_readCondition ∈ am_tb := am_tb3 (i := 115) rfl rfl
set_option maxRecDepth 100000 in
theorem wi_yX9_readCondition : Cond.instanceMethod yX9_readCondition ∈ am_tb := am_tb3 (i := 117) rfl rfl
set_option maxRecDepth 100000 in
theorem we_yX9_readCondition : Cond.selects yX9_readCondition.cls yX9_readCondition yX9_readCondition ∈ am_tb := am_tbP (i := 10) (q := (yX9_readCondition, 10)) rfl
set_option maxRecDepth 100000 in
theorem wc_yX9_readCondition : Cond.code yX9_readCondition cX9_readCondition 2 (some .boolean) ∈ am_tb := am_tb3 (i := 118) rfl rfl
theorem wy_yX9_readClause : am_yok yX9_readClause 0 = true := by decide +kernel
set_option maxRecDepth 100000 in
theorem wl_Ta_50 : Cond.methodLink "ShareHouse$Tape" 50 yX9_readClause ∈ am_tb := am_tb3 (i := 13) rfl rfl
set_option maxRecDepth 100000 in
theorem wi_yX9_readClause : Cond.instanceMethod yX9_readClause ∈ am_tb := am_tb3 (i := 15) rfl rfl
set_option maxRecDepth 100000 in
theorem we_yX9_readClause : Cond.selects yX9_readClause.cls yX9_readClause yX9_readClause ∈ am_tb := am_tbP (i := 2) (q := (yX9_readClause, 10)) rfl
set_option maxRecDepth 100000 in
theorem wc_yX9_readClause : Cond.code yX9_readClause cX9_readClause 2 (some .boolean) ∈ am_tb := am_tb3 (i := 16) rfl rfl
theorem wy_yX9_read : am_yok yX9_read 2 = true := by decide +kernel
set_option maxRecDepth 100000 in
theorem wl_X_87 : Cond.methodLink "ShareHouse" 87 yX9_read ∈ am_tb := am_tb3 (i := 5) rfl rfl
set_option maxRecDepth 100000 in
theorem wi_yX9_read : Cond.instanceMethod yX9_read ∈ am_tb := am_tb3 (i := 6) rfl rfl
set_option maxRecDepth 100000 in
theorem we_yX9_read : Cond.selects yX9_read.cls yX9_read yX9_read ∈ am_tb := am_tb3 (i := 7) rfl rfl
set_option maxRecDepth 100000 in
theorem wc_yX9_read : Cond.code yX9_read cX9_read 4 (some .int) ∈ am_tb := am_tb3 (i := 8) rfl rfl
theorem wy_yX11_copy : am_yok yX11_copy 2 = true := by decide +kernel
set_option maxRecDepth 100000 in
theorem wk_Le_13 : Cond.methodLinkNest "ShareHouse$Lease" 13 yX11_copy "ShareHouse" ∈ tables_1 := am_tm3 (i := 135) rfl
set_option maxRecDepth 100000 in
theorem ws_yX11_copy : Cond.static yX11_copy ∈ am_tb := am_tb3 (i := 136) rfl rfl
set_option maxRecDepth 100000 in
theorem wc_yX11_copy : Cond.code yX11_copy cX11_copy 2 none ∈ am_tb := am_tb3 (i := 137) rfl rfl
theorem wy_yX4_become : am_yok yX4_become 1 = true := by decide +kernel
set_option maxRecDepth 100000 in
theorem wl_X_99 : Cond.methodLink "ShareHouse" 99 yX4_become ∈ am_tb := am_tb3 (i := 131) rfl rfl
set_option maxRecDepth 100000 in
theorem wi_yX4_become : Cond.instanceMethod yX4_become ∈ am_tb := am_tb3 (i := 132) rfl rfl
set_option maxRecDepth 100000 in
theorem we_yX4_become : Cond.selects yX4_become.cls yX4_become yX4_become ∈ am_tb := am_tb3 (i := 133) rfl rfl
set_option maxRecDepth 100000 in
theorem wc_yX4_become : Cond.code yX4_become cX4_become 2 none ∈ am_tb := am_tb3 (i := 134) rfl rfl
theorem wy_yX11_readLease : am_yok yX11_readLease 1 = true := by decide +kernel
set_option maxRecDepth 100000 in
theorem wl_X_72 : Cond.methodLink "ShareHouse" 72 yX11_readLease ∈ am_tb := am_tb3 (i := 1) rfl rfl
set_option maxRecDepth 100000 in
theorem wi_yX11_readLease : Cond.instanceMethod yX11_readLease ∈ am_tb := am_tb3 (i := 3) rfl rfl
set_option maxRecDepth 100000 in
theorem we_yX11_readLease : Cond.selects yX11_readLease.cls yX11_readLease yX11_readLease ∈ am_tb := am_tbP (i := 0) (q := (yX11_readLease, 7)) rfl
set_option maxRecDepth 100000 in
theorem wc_yX11_readLease : Cond.code yX11_readLease cX11_readLease 4 (some .int) ∈ am_tb := am_tb3 (i := 4) rfl rfl
theorem wy_yX4_cell : am_yok yX4_cell 2 = true := by decide +kernel
set_option maxRecDepth 100000 in
theorem wl_X_108 : Cond.methodLink "ShareHouse" 108 yX4_cell ∈ am_tb := am_tb3 (i := 153) rfl rfl
set_option maxRecDepth 100000 in
theorem wi_yX4_cell : Cond.instanceMethod yX4_cell ∈ am_tb := am_tb3 (i := 154) rfl rfl
set_option maxRecDepth 100000 in
theorem we_yX4_cell : Cond.selects yX4_cell.cls yX4_cell yX4_cell ∈ am_tb := am_tb3 (i := 155) rfl rfl
set_option maxRecDepth 100000 in
theorem wc_yX4_cell : Cond.code yX4_cell cX4_cell 3 (some .int) ∈ am_tb := am_tb3 (i := 156) rfl rfl
theorem wy_yX11_isHead : am_yok yX11_isHead 1 = true := by decide +kernel
set_option maxRecDepth 100000 in
theorem wl_X_112 : Cond.methodLink "ShareHouse" 112 yX11_isHead ∈ am_tb := am_tb3 (i := 161) rfl rfl
set_option maxRecDepth 100000 in
theorem ws_yX11_isHead : Cond.static yX11_isHead ∈ am_tb := am_tb3 (i := 162) rfl rfl
set_option maxRecDepth 100000 in
theorem wc_yX11_isHead : Cond.code yX11_isHead cX11_isHead 1 (some .boolean) ∈ am_tb := am_tb3 (i := 163) rfl rfl
set_option maxRecDepth 100000 in
theorem wl_Le_23 : Cond.methodLink "ShareHouse$Lease" 23 yX4_cell ∈ am_tb := am_tb3 (i := 176) rfl rfl
theorem wy_yX4_lastFor : am_yok yX4_lastFor 1 = true := by decide +kernel
set_option maxRecDepth 100000 in
theorem wl_Pa_58 : Cond.methodLink "ShareHouse$Parting" 58 yX4_lastFor ∈ am_tb := am_tb3 (i := 172) rfl rfl
set_option maxRecDepth 100000 in
theorem wi_yX4_lastFor : Cond.instanceMethod yX4_lastFor ∈ am_tb := am_tb3 (i := 173) rfl rfl
set_option maxRecDepth 100000 in
theorem we_yX4_lastFor : Cond.selects yX4_lastFor.cls yX4_lastFor yX4_lastFor ∈ am_tb := am_tb3 (i := 174) rfl rfl
set_option maxRecDepth 100000 in
theorem wc_yX4_lastFor : Cond.code yX4_lastFor cX4_lastFor 3 (some .int) ∈ am_tb := am_tb3 (i := 175) rfl rfl
set_option maxRecDepth 100000 in
theorem wl_Pa_64 : Cond.methodLink "ShareHouse$Parting" 64 yX4_cell ∈ am_tb := am_tb3 (i := 177) rfl rfl
theorem wy_yX11_divisorOf : am_yok yX11_divisorOf 2 = true := by decide +kernel
set_option maxRecDepth 100000 in
theorem wk_Pa_42 : Cond.methodLinkNest "ShareHouse$Parting" 42 yX11_divisorOf "ShareHouse" ∈ tables_1 := am_tm3 (i := 182) rfl
set_option maxRecDepth 100000 in
theorem ws_yX11_divisorOf : Cond.static yX11_divisorOf ∈ am_tb := am_tb3 (i := 183) rfl rfl
set_option maxRecDepth 100000 in
theorem wc_yX11_divisorOf : Cond.code yX11_divisorOf cX11_divisorOf 11 (some .long) ∈ am_tb := am_tb3 (i := 184) rfl rfl
theorem wy_yX6_putShare : am_yok yX6_putShare 3 = true := by decide +kernel
set_option maxRecDepth 100000 in
theorem wl_Pa_68 : Cond.methodLink "ShareHouse$Parting" 68 yX6_putShare ∈ am_tb := am_tb3 (i := 178) rfl rfl
set_option maxRecDepth 100000 in
theorem wi_yX6_putShare : Cond.instanceMethod yX6_putShare ∈ am_tb := am_tb3 (i := 180) rfl rfl
set_option maxRecDepth 100000 in
theorem we_yX6_putShare : Cond.selects yX6_putShare.cls yX6_putShare yX6_putShare ∈ am_tb := am_tbP (i := 14) (q := (yX6_putShare, 7)) rfl
set_option maxRecDepth 100000 in
theorem wn_ShareHouse_Parting : Cond.initialized "ShareHouse$Parting" ∈ am_tb := am_tb1 (i := 11) rfl rfl
set_option maxRecDepth 100000 in
theorem wc_yX6_putShare : Cond.code yX6_putShare cX6_putShare 7 none ∈ am_tb := am_tb3 (i := 181) rfl rfl
theorem wy_yX2_allAreas : am_yok yX2_allAreas 0 = true := by decide +kernel
set_option maxRecDepth 100000 in
theorem wl_Pa_75 : Cond.methodLink "ShareHouse$Parting" 75 yX2_allAreas ∈ am_tb := am_tb3 (i := 188) rfl rfl
set_option maxRecDepth 100000 in
theorem wi_yX2_allAreas : Cond.instanceMethod yX2_allAreas ∈ am_tb := am_tb3 (i := 189) rfl rfl
set_option maxRecDepth 100000 in
theorem we_yX2_allAreas : Cond.selects yX2_allAreas.cls yX2_allAreas yX2_allAreas ∈ am_tb := am_tb3 (i := 190) rfl rfl
set_option maxRecDepth 100000 in
theorem wc_yX2_allAreas : Cond.code yX2_allAreas cX2_allAreas 3 (some .int) ∈ am_tb := am_tb3 (i := 191) rfl rfl
theorem wy_yX2_allFloors : am_yok yX2_allFloors 0 = true := by decide +kernel
set_option maxRecDepth 100000 in
theorem wl_Pa_82 : Cond.methodLink "ShareHouse$Parting" 82 yX2_allFloors ∈ am_tb := am_tb3 (i := 192) rfl rfl
set_option maxRecDepth 100000 in
theorem wi_yX2_allFloors : Cond.instanceMethod yX2_allFloors ∈ am_tb := am_tb3 (i := 193) rfl rfl
set_option maxRecDepth 100000 in
theorem we_yX2_allFloors : Cond.selects yX2_allFloors.cls yX2_allFloors yX2_allFloors ∈ am_tb := am_tb3 (i := 194) rfl rfl
set_option maxRecDepth 100000 in
theorem wc_yX2_allFloors : Cond.code yX2_allFloors cX2_allFloors 3 (some .int) ∈ am_tb := am_tb3 (i := 195) rfl rfl
theorem wy_yX6_readShareOf : am_yok yX6_readShareOf 3 = true := by decide +kernel
set_option maxRecDepth 100000 in
theorem wl_Pa_38 : Cond.methodLink "ShareHouse$Parting" 38 yX6_readShareOf ∈ am_tb := am_tb3 (i := 168) rfl rfl
set_option maxRecDepth 100000 in
theorem wi_yX6_readShareOf : Cond.instanceMethod yX6_readShareOf ∈ am_tb := am_tb3 (i := 170) rfl rfl
set_option maxRecDepth 100000 in
theorem we_yX6_readShareOf : Cond.selects yX6_readShareOf.cls yX6_readShareOf yX6_readShareOf ∈ am_tb := am_tbP (i := 13) (q := (yX6_readShareOf, 7)) rfl
set_option maxRecDepth 100000 in
theorem wc_yX6_readShareOf : Cond.code yX6_readShareOf cX6_readShareOf 6 none ∈ am_tb := am_tb3 (i := 171) rfl rfl
theorem wy_yX6_readShares : am_yok yX6_readShares 2 = true := by decide +kernel
set_option maxRecDepth 100000 in
theorem wl_X_115 : Cond.methodLink "ShareHouse" 115 yX6_readShares ∈ am_tb := am_tb3 (i := 164) rfl rfl
set_option maxRecDepth 100000 in
theorem wi_yX6_readShares : Cond.instanceMethod yX6_readShares ∈ am_tb := am_tb3 (i := 165) rfl rfl
set_option maxRecDepth 100000 in
theorem we_yX6_readShares : Cond.selects yX6_readShares.cls yX6_readShares yX6_readShares ∈ am_tb := am_tb3 (i := 166) rfl rfl
set_option maxRecDepth 100000 in
theorem wc_yX6_readShares : Cond.code yX6_readShares cX6_readShares 4 none ∈ am_tb := am_tb3 (i := 167) rfl rfl
set_option maxRecDepth 100000 in
theorem wl_X_135 : Cond.methodLink "ShareHouse" 135 yX11_divisorOf ∈ am_tb := am_tb3 (i := 201) rfl rfl
theorem wy_yX11_isPast : am_yok yX11_isPast 1 = true := by decide +kernel
set_option maxRecDepth 100000 in
theorem wl_X_153 : Cond.methodLink "ShareHouse" 153 yX11_isPast ∈ am_tb := am_tb3 (i := 217) rfl rfl
set_option maxRecDepth 100000 in
theorem wi_yX11_isPast : Cond.instanceMethod yX11_isPast ∈ am_tb := am_tb3 (i := 219) rfl rfl
set_option maxRecDepth 100000 in
theorem we_yX11_isPast : Cond.selects yX11_isPast.cls yX11_isPast yX11_isPast ∈ am_tb := am_tbP (i := 15) (q := (yX11_isPast, 7)) rfl
set_option maxRecDepth 100000 in
theorem wc_yX11_isPast : Cond.code yX11_isPast cX11_isPast 2 (some .boolean) ∈ am_tb := am_tb3 (i := 220) rfl rfl
theorem wy_yX1_add : am_yok yX1_add 5 = true := by decide +kernel
set_option maxRecDepth 100000 in
theorem wl_X_161 : Cond.methodLink "ShareHouse" 161 yX1_add ∈ am_tb := am_tb3 (i := 222) rfl rfl
set_option maxRecDepth 100000 in
theorem wi_yX1_add : Cond.instanceMethod yX1_add ∈ am_tb := am_tb3 (i := 223) rfl rfl
set_option maxRecDepth 100000 in
theorem we_yX1_add : Cond.selects yX1_add.cls yX1_add yX1_add ∈ am_tb := am_tb3 (i := 224) rfl rfl
set_option maxRecDepth 100000 in
theorem wn_ShareHouse_Costs : Cond.initialized "ShareHouse$Costs" ∈ am_tb := am_tb1 (i := 5) rfl rfl
set_option maxRecDepth 100000 in
theorem wc_yX1_add : Cond.code yX1_add cX1_add 6 (some .int) ∈ am_tb := am_tb3 (i := 225) rfl rfl
set_option maxRecDepth 100000 in
theorem wk_Co_51 : Cond.methodLinkNest "ShareHouse$Costs" 51 yX11_within "ShareHouse" ∈ tables_1 := am_tm3 (i := 234) rfl
theorem wy_yX1_has : am_yok yX1_has 1 = true := by decide +kernel
set_option maxRecDepth 100000 in
theorem wl_X_166 : Cond.methodLink "ShareHouse" 166 yX1_has ∈ am_tb := am_tb3 (i := 230) rfl rfl
set_option maxRecDepth 100000 in
theorem wi_yX1_has : Cond.instanceMethod yX1_has ∈ am_tb := am_tb3 (i := 231) rfl rfl
set_option maxRecDepth 100000 in
theorem we_yX1_has : Cond.selects yX1_has.cls yX1_has yX1_has ∈ am_tb := am_tb3 (i := 232) rfl rfl
set_option maxRecDepth 100000 in
theorem wc_yX1_has : Cond.code yX1_has cX1_has 2 (some .boolean) ∈ am_tb := am_tb3 (i := 233) rfl rfl
theorem wy_yX1_penceOn : am_yok yX1_penceOn 2 = true := by decide +kernel
set_option maxRecDepth 100000 in
theorem wl_X_167 : Cond.methodLink "ShareHouse" 167 yX1_penceOn ∈ am_tb := am_tb3 (i := 235) rfl rfl
set_option maxRecDepth 100000 in
theorem wi_yX1_penceOn : Cond.instanceMethod yX1_penceOn ∈ am_tb := am_tb3 (i := 236) rfl rfl
set_option maxRecDepth 100000 in
theorem we_yX1_penceOn : Cond.selects yX1_penceOn.cls yX1_penceOn yX1_penceOn ∈ am_tb := am_tb3 (i := 237) rfl rfl
set_option maxRecDepth 100000 in
theorem wc_yX1_penceOn : Cond.code yX1_penceOn cX1_penceOn 4 (some .int) ∈ am_tb := am_tb3 (i := 238) rfl rfl
theorem wy_yX1_putRight : am_yok yX1_putRight 4 = true := by decide +kernel
set_option maxRecDepth 100000 in
theorem wl_Ho_85 : Cond.methodLink "ShareHouse$House" 85 yX1_putRight ∈ am_tb := am_tb4 (i := 3) rfl rfl
set_option maxRecDepth 100000 in
theorem wi_yX1_putRight : Cond.instanceMethod yX1_putRight ∈ am_tb := am_tb4 (i := 4) rfl rfl
set_option maxRecDepth 100000 in
theorem we_yX1_putRight : Cond.selects yX1_putRight.cls yX1_putRight yX1_putRight ∈ am_tb := am_tb4 (i := 5) rfl rfl
set_option maxRecDepth 100000 in
theorem wc_yX1_putRight : Cond.code yX1_putRight cX1_putRight 5 (some .int) ∈ am_tb := am_tb4 (i := 6) rfl rfl
theorem wy_yX3_putRight : am_yok yX3_putRight 2 = true := by decide +kernel
set_option maxRecDepth 100000 in
theorem wl_X_170 : Cond.methodLink "ShareHouse" 170 yX3_putRight ∈ am_tb := am_tb3 (i := 239) rfl rfl
set_option maxRecDepth 100000 in
theorem wi_yX3_putRight : Cond.instanceMethod yX3_putRight ∈ am_tb := am_tb4 (i := 0) rfl rfl
set_option maxRecDepth 100000 in
theorem we_yX3_putRight : Cond.selects yX3_putRight.cls yX3_putRight yX3_putRight ∈ am_tb := am_tb4 (i := 1) rfl rfl
set_option maxRecDepth 100000 in
theorem wn_ShareHouse_House : Cond.initialized "ShareHouse$House" ∈ am_tb := am_tb1 (i := 2) rfl rfl
set_option maxRecDepth 100000 in
theorem wc_yX3_putRight : Cond.code yX3_putRight cX3_putRight 3 (some .int) ∈ am_tb := am_tb4 (i := 2) rfl rfl
theorem wy_yX1_timesRight : am_yok yX1_timesRight 1 = true := by decide +kernel
set_option maxRecDepth 100000 in
theorem wl_X_188 : Cond.methodLink "ShareHouse" 188 yX1_timesRight ∈ am_tb := am_tb4 (i := 11) rfl rfl
set_option maxRecDepth 100000 in
theorem wi_yX1_timesRight : Cond.instanceMethod yX1_timesRight ∈ am_tb := am_tb4 (i := 12) rfl rfl
set_option maxRecDepth 100000 in
theorem we_yX1_timesRight : Cond.selects yX1_timesRight.cls yX1_timesRight yX1_timesRight ∈ am_tb := am_tb4 (i := 13) rfl rfl
set_option maxRecDepth 100000 in
theorem wc_yX1_timesRight : Cond.code yX1_timesRight cX1_timesRight 4 (some .int) ∈ am_tb := am_tb4 (i := 14) rfl rfl
set_option maxRecDepth 100000 in
theorem wl_Ho_89 : Cond.methodLink "ShareHouse$House" 89 yX2_allAreas ∈ am_tb := am_tb4 (i := 19) rfl rfl
set_option maxRecDepth 100000 in
theorem wl_Ho_93 : Cond.methodLink "ShareHouse$House" 93 yX1_penceOn ∈ am_tb := am_tb4 (i := 20) rfl rfl
theorem wy_yX3_levelOf : am_yok yX3_levelOf 1 = true := by decide +kernel
set_option maxRecDepth 100000 in
theorem wl_X_191 : Cond.methodLink "ShareHouse" 191 yX3_levelOf ∈ am_tb := am_tb4 (i := 15) rfl rfl
set_option maxRecDepth 100000 in
theorem wi_yX3_levelOf : Cond.instanceMethod yX3_levelOf ∈ am_tb := am_tb4 (i := 16) rfl rfl
set_option maxRecDepth 100000 in
theorem we_yX3_levelOf : Cond.selects yX3_levelOf.cls yX3_levelOf yX3_levelOf ∈ am_tb := am_tb4 (i := 17) rfl rfl
set_option maxRecDepth 100000 in
theorem wc_yX3_levelOf : Cond.code yX3_levelOf cX3_levelOf 3 (some .int) ∈ am_tb := am_tb4 (i := 18) rfl rfl
theorem wy_yX1_isKnown : am_yok yX1_isKnown 2 = true := by decide +kernel
set_option maxRecDepth 100000 in
theorem wl_X_194 : Cond.methodLink "ShareHouse" 194 yX1_isKnown ∈ am_tb := am_tb4 (i := 25) rfl rfl
set_option maxRecDepth 100000 in
theorem wi_yX1_isKnown : Cond.instanceMethod yX1_isKnown ∈ am_tb := am_tb4 (i := 26) rfl rfl
set_option maxRecDepth 100000 in
theorem we_yX1_isKnown : Cond.selects yX1_isKnown.cls yX1_isKnown yX1_isKnown ∈ am_tb := am_tb4 (i := 27) rfl rfl
set_option maxRecDepth 100000 in
theorem wc_yX1_isKnown : Cond.code yX1_isKnown cX1_isKnown 3 (some .boolean) ∈ am_tb := am_tb4 (i := 28) rfl rfl
set_option maxRecDepth 100000 in
theorem wl_Pa_100 : Cond.methodLink "ShareHouse$Parting" 100 yX6_readShares ∈ am_tb := am_tb4 (i := 33) rfl rfl
set_option maxRecDepth 100000 in
theorem wl_Pa_107 : Cond.methodLink "ShareHouse$Parting" 107 yX1_penceOn ∈ am_tb := am_tb4 (i := 34) rfl rfl
theorem wy_yX6_allParts : am_yok yX6_allParts 1 = true := by decide +kernel
set_option maxRecDepth 100000 in
theorem wl_Pa_110 : Cond.methodLink "ShareHouse$Parting" 110 yX6_allParts ∈ am_tb := am_tb4 (i := 35) rfl rfl
set_option maxRecDepth 100000 in
theorem wi_yX6_allParts : Cond.instanceMethod yX6_allParts ∈ am_tb := am_tb4 (i := 36) rfl rfl
set_option maxRecDepth 100000 in
theorem we_yX6_allParts : Cond.selects yX6_allParts.cls yX6_allParts yX6_allParts ∈ am_tb := am_tb4 (i := 37) rfl rfl
set_option maxRecDepth 100000 in
theorem wc_yX6_allParts : Cond.code yX6_allParts cX6_allParts 4 (some .int) ∈ am_tb := am_tb4 (i := 38) rfl rfl
theorem wy_yX6_giveOut : am_yok yX6_giveOut 2 = true := by decide +kernel
set_option maxRecDepth 100000 in
theorem wl_Pa_113 : Cond.methodLink "ShareHouse$Parting" 113 yX6_giveOut ∈ am_tb := am_tb4 (i := 39) rfl rfl
set_option maxRecDepth 100000 in
theorem wi_yX6_giveOut : Cond.instanceMethod yX6_giveOut ∈ am_tb := am_tb4 (i := 41) rfl rfl
set_option maxRecDepth 100000 in
theorem we_yX6_giveOut : Cond.selects yX6_giveOut.cls yX6_giveOut yX6_giveOut ∈ am_tb := am_tbP (i := 16) (q := (yX6_giveOut, 7)) rfl
set_option maxRecDepth 100000 in
theorem wc_yX6_giveOut : Cond.code yX6_giveOut cX6_giveOut 6 none ∈ am_tb := am_tb4 (i := 42) rfl rfl
theorem wy_yX6_capParts : am_yok yX6_capParts 2 = true := by decide +kernel
set_option maxRecDepth 100000 in
theorem wl_Pa_124 : Cond.methodLink "ShareHouse$Parting" 124 yX6_capParts ∈ am_tb := am_tb4 (i := 44) rfl rfl
set_option maxRecDepth 100000 in
theorem wi_yX6_capParts : Cond.instanceMethod yX6_capParts ∈ am_tb := am_tb4 (i := 46) rfl rfl
set_option maxRecDepth 100000 in
theorem we_yX6_capParts : Cond.selects yX6_capParts.cls yX6_capParts yX6_capParts ∈ am_tb := am_tbP (i := 17) (q := (yX6_capParts, 7)) rfl
set_option maxRecDepth 100000 in
theorem wc_yX6_capParts : Cond.code yX6_capParts cX6_capParts 4 none ∈ am_tb := am_tb4 (i := 47) rfl rfl
theorem wy_yX6_divide : am_yok yX6_divide 3 = true := by decide +kernel
set_option maxRecDepth 100000 in
theorem wl_X_198 : Cond.methodLink "ShareHouse" 198 yX6_divide ∈ am_tb := am_tb4 (i := 29) rfl rfl
set_option maxRecDepth 100000 in
theorem wi_yX6_divide : Cond.instanceMethod yX6_divide ∈ am_tb := am_tb4 (i := 30) rfl rfl
set_option maxRecDepth 100000 in
theorem we_yX6_divide : Cond.selects yX6_divide.cls yX6_divide yX6_divide ∈ am_tb := am_tb4 (i := 31) rfl rfl
set_option maxRecDepth 100000 in
theorem wc_yX6_divide : Cond.code yX6_divide cX6_divide 12 none ∈ am_tb := am_tb4 (i := 32) rfl rfl
set_option maxRecDepth 100000 in
theorem wl_X_207 : Cond.methodLink "ShareHouse" 207 yX6_allParts ∈ am_tb := am_tb4 (i := 54) rfl rfl
theorem wy_yX11_isOwner : am_yok yX11_isOwner 1 = true := by decide +kernel
set_option maxRecDepth 100000 in
theorem wl_X_210 : Cond.methodLink "ShareHouse" 210 yX11_isOwner ∈ am_tb := am_tb4 (i := 59) rfl rfl
set_option maxRecDepth 100000 in
theorem ws_yX11_isOwner : Cond.static yX11_isOwner ∈ am_tb := am_tb4 (i := 60) rfl rfl
set_option maxRecDepth 100000 in
theorem wc_yX11_isOwner : Cond.code yX11_isOwner cX11_isOwner 1 (some .boolean) ∈ am_tb := am_tb4 (i := 61) rfl rfl
theorem wy_yX5_addSale : am_yok yX5_addSale 3 = true := by decide +kernel
set_option maxRecDepth 100000 in
theorem wl_X_217 : Cond.methodLink "ShareHouse" 217 yX5_addSale ∈ am_tb := am_tb4 (i := 62) rfl rfl
set_option maxRecDepth 100000 in
theorem wi_yX5_addSale : Cond.instanceMethod yX5_addSale ∈ am_tb := am_tb4 (i := 63) rfl rfl
set_option maxRecDepth 100000 in
theorem we_yX5_addSale : Cond.selects yX5_addSale.cls yX5_addSale yX5_addSale ∈ am_tb := am_tb4 (i := 64) rfl rfl
set_option maxRecDepth 100000 in
theorem wn_ShareHouse_Owners : Cond.initialized "ShareHouse$Owners" ∈ am_tb := am_tb1 (i := 6) rfl rfl
set_option maxRecDepth 100000 in
theorem wc_yX5_addSale : Cond.code yX5_addSale cX5_addSale 4 (some .int) ∈ am_tb := am_tb4 (i := 65) rfl rfl
set_option maxRecDepth 100000 in
theorem wk_Ow_41 : Cond.methodLinkNest "ShareHouse$Owners" 41 yX11_within "ShareHouse" ∈ tables_1 := am_tm4 (i := 74) rfl
theorem wy_yX5_ownerOn : am_yok yX5_ownerOn 2 = true := by decide +kernel
set_option maxRecDepth 100000 in
theorem wl_X_223 : Cond.methodLink "ShareHouse" 223 yX5_ownerOn ∈ am_tb := am_tb4 (i := 70) rfl rfl
set_option maxRecDepth 100000 in
theorem wi_yX5_ownerOn : Cond.instanceMethod yX5_ownerOn ∈ am_tb := am_tb4 (i := 71) rfl rfl
set_option maxRecDepth 100000 in
theorem we_yX5_ownerOn : Cond.selects yX5_ownerOn.cls yX5_ownerOn yX5_ownerOn ∈ am_tb := am_tb4 (i := 72) rfl rfl
set_option maxRecDepth 100000 in
theorem wc_yX5_ownerOn : Cond.code yX5_ownerOn cX5_ownerOn 6 (some .int) ∈ am_tb := am_tb4 (i := 73) rfl rfl
theorem wy_yX5_addPayment : am_yok yX5_addPayment 3 = true := by decide +kernel
set_option maxRecDepth 100000 in
theorem wl_X_226 : Cond.methodLink "ShareHouse" 226 yX5_addPayment ∈ am_tb := am_tb4 (i := 79) rfl rfl
set_option maxRecDepth 100000 in
theorem wi_yX5_addPayment : Cond.instanceMethod yX5_addPayment ∈ am_tb := am_tb4 (i := 80) rfl rfl
set_option maxRecDepth 100000 in
theorem we_yX5_addPayment : Cond.selects yX5_addPayment.cls yX5_addPayment yX5_addPayment ∈ am_tb := am_tb4 (i := 81) rfl rfl
set_option maxRecDepth 100000 in
theorem wc_yX5_addPayment : Cond.code yX5_addPayment cX5_addPayment 4 (some .int) ∈ am_tb := am_tb4 (i := 82) rfl rfl
set_option maxRecDepth 100000 in
theorem wl_Ac_44 : Cond.methodLink "ShareHouse$Accounts" 44 yX1_isKnown ∈ am_tb := am_tb4 (i := 98) rfl rfl
set_option maxRecDepth 100000 in
theorem wl_Ac_48 : Cond.methodLink "ShareHouse$Accounts" 48 yX6_divide ∈ am_tb := am_tb4 (i := 99) rfl rfl
set_option maxRecDepth 100000 in
theorem wl_Ac_72 : Cond.methodLink "ShareHouse$Accounts" 72 yX5_ownerOn ∈ am_tb := am_tb4 (i := 104) rfl rfl
set_option maxRecDepth 100000 in
theorem wk_Ac_78 : Cond.methodLinkNest "ShareHouse$Accounts" 78 yX11_isOwner "ShareHouse" ∈ tables_1 := am_tm4 (i := 105) rfl
theorem wy_yX0_addParts : am_yok yX0_addParts 3 = true := by decide +kernel
set_option maxRecDepth 100000 in
theorem wl_Ac_54 : Cond.methodLink "ShareHouse$Accounts" 54 yX0_addParts ∈ am_tb := am_tb4 (i := 100) rfl rfl
set_option maxRecDepth 100000 in
theorem wi_yX0_addParts : Cond.instanceMethod yX0_addParts ∈ am_tb := am_tb4 (i := 102) rfl rfl
set_option maxRecDepth 100000 in
theorem we_yX0_addParts : Cond.selects yX0_addParts.cls yX0_addParts yX0_addParts ∈ am_tb := am_tbP (i := 18) (q := (yX0_addParts, 4)) rfl
set_option maxRecDepth 100000 in
theorem wn_ShareHouse_Accounts : Cond.initialized "ShareHouse$Accounts" ∈ am_tb := am_tb1 (i := 12) rfl rfl
set_option maxRecDepth 100000 in
theorem wc_yX0_addParts : Cond.code yX0_addParts cX0_addParts 6 none ∈ am_tb := am_tb4 (i := 103) rfl rfl
theorem wy_yJ7_fill_53178 : am_yok yJ7_fill_53178 2 = true := by decide +kernel
set_option maxRecDepth 100000 in
theorem wl_Ac_26 : Cond.methodLink "ShareHouse$Accounts" 26 yJ7_fill_53178 ∈ am_tb := am_tb4 (i := 95) rfl rfl
set_option maxRecDepth 100000 in
theorem ws_yJ7_fill_53178 : Cond.static yJ7_fill_53178 ∈ am_tb := am_tb4 (i := 96) rfl rfl
set_option maxRecDepth 100000 in
theorem wn_java_util_Arrays : Cond.initialized "java/util/Arrays" ∈ am_tb := am_tb1 (i := 20) rfl rfl
set_option maxRecDepth 100000 in
theorem wc_yJ7_fill_53178 : Cond.code yJ7_fill_53178 cJ7_fill_53178 4 none ∈ am_tb := am_tb4 (i := 97) rfl rfl
theorem wy_yX0_reckon : am_yok yX0_reckon 3 = true := by decide +kernel
set_option maxRecDepth 100000 in
theorem wl_X_232 : Cond.methodLink "ShareHouse" 232 yX0_reckon ∈ am_tb := am_tb4 (i := 91) rfl rfl
set_option maxRecDepth 100000 in
theorem wi_yX0_reckon : Cond.instanceMethod yX0_reckon ∈ am_tb := am_tb4 (i := 92) rfl rfl
set_option maxRecDepth 100000 in
theorem we_yX0_reckon : Cond.selects yX0_reckon.cls yX0_reckon yX0_reckon ∈ am_tb := am_tb4 (i := 93) rfl rfl
set_option maxRecDepth 100000 in
theorem wc_yX0_reckon : Cond.code yX0_reckon cX0_reckon 5 none ∈ am_tb := am_tb4 (i := 94) rfl rfl
theorem wy_yX0_billOf : am_yok yX0_billOf 1 = true := by decide +kernel
set_option maxRecDepth 100000 in
theorem wl_X_236 : Cond.methodLink "ShareHouse" 236 yX0_billOf ∈ am_tb := am_tb4 (i := 106) rfl rfl
set_option maxRecDepth 100000 in
theorem wi_yX0_billOf : Cond.instanceMethod yX0_billOf ∈ am_tb := am_tb4 (i := 107) rfl rfl
set_option maxRecDepth 100000 in
theorem we_yX0_billOf : Cond.selects yX0_billOf.cls yX0_billOf yX0_billOf ∈ am_tb := am_tb4 (i := 108) rfl rfl
set_option maxRecDepth 100000 in
theorem wc_yX0_billOf : Cond.code yX0_billOf cX0_billOf 4 (some .int) ∈ am_tb := am_tb4 (i := 109) rfl rfl
set_option maxRecDepth 100000 in
theorem wl_Ac_85 : Cond.methodLink "ShareHouse$Accounts" 85 yX0_billOf ∈ am_tb := am_tb4 (i := 114) rfl rfl
theorem wy_yX5_paidBy : am_yok yX5_paidBy 2 = true := by decide +kernel
set_option maxRecDepth 100000 in
theorem wl_Ac_89 : Cond.methodLink "ShareHouse$Accounts" 89 yX5_paidBy ∈ am_tb := am_tb4 (i := 115) rfl rfl
set_option maxRecDepth 100000 in
theorem wi_yX5_paidBy : Cond.instanceMethod yX5_paidBy ∈ am_tb := am_tb4 (i := 88) rfl rfl
set_option maxRecDepth 100000 in
theorem we_yX5_paidBy : Cond.selects yX5_paidBy.cls yX5_paidBy yX5_paidBy ∈ am_tb := am_tb4 (i := 89) rfl rfl
set_option maxRecDepth 100000 in
theorem wc_yX5_paidBy : Cond.code yX5_paidBy cX5_paidBy 5 (some .int) ∈ am_tb := am_tb4 (i := 90) rfl rfl
theorem wy_yX0_balanceOf : am_yok yX0_balanceOf 3 = true := by decide +kernel
set_option maxRecDepth 100000 in
theorem wl_X_239 : Cond.methodLink "ShareHouse" 239 yX0_balanceOf ∈ am_tb := am_tb4 (i := 110) rfl rfl
set_option maxRecDepth 100000 in
theorem wi_yX0_balanceOf : Cond.instanceMethod yX0_balanceOf ∈ am_tb := am_tb4 (i := 111) rfl rfl
set_option maxRecDepth 100000 in
theorem we_yX0_balanceOf : Cond.selects yX0_balanceOf.cls yX0_balanceOf yX0_balanceOf ∈ am_tb := am_tb4 (i := 112) rfl rfl
set_option maxRecDepth 100000 in
theorem wc_yX0_balanceOf : Cond.code yX0_balanceOf cX0_balanceOf 4 (some .int) ∈ am_tb := am_tb4 (i := 113) rfl rfl
set_option maxRecDepth 100000 in
theorem wk_Ac_109 : Cond.methodLinkNest "ShareHouse$Accounts" 109 yX11_within "ShareHouse" ∈ tables_1 := am_tm4 (i := 125) rfl
theorem wy_yX0_readChanges : am_yok yX0_readChanges 3 = true := by decide +kernel
set_option maxRecDepth 100000 in
theorem wl_Ac_92 : Cond.methodLink "ShareHouse$Accounts" 92 yX0_readChanges ∈ am_tb := am_tb4 (i := 120) rfl rfl
set_option maxRecDepth 100000 in
theorem wi_yX0_readChanges : Cond.instanceMethod yX0_readChanges ∈ am_tb := am_tb4 (i := 122) rfl rfl
set_option maxRecDepth 100000 in
theorem we_yX0_readChanges : Cond.selects yX0_readChanges.cls yX0_readChanges yX0_readChanges ∈ am_tb := am_tbP (i := 19) (q := (yX0_readChanges, 4)) rfl
set_option maxRecDepth 100000 in
theorem wc_yX0_readChanges : Cond.code yX0_readChanges cX0_readChanges 7 none ∈ am_tb := am_tb4 (i := 123) rfl rfl
theorem wy_yX0_interestOf : am_yok yX0_interestOf 3 = true := by decide +kernel
set_option maxRecDepth 100000 in
theorem wl_X_243 : Cond.methodLink "ShareHouse" 243 yX0_interestOf ∈ am_tb := am_tb4 (i := 116) rfl rfl
set_option maxRecDepth 100000 in
theorem wi_yX0_interestOf : Cond.instanceMethod yX0_interestOf ∈ am_tb := am_tb4 (i := 117) rfl rfl
set_option maxRecDepth 100000 in
theorem we_yX0_interestOf : Cond.selects yX0_interestOf.cls yX0_interestOf yX0_interestOf ∈ am_tb := am_tb4 (i := 118) rfl rfl
set_option maxRecDepth 100000 in
theorem wc_yX0_interestOf : Cond.code yX0_interestOf cX0_interestOf 9 (some .int) ∈ am_tb := am_tb4 (i := 119) rfl rfl
set_option maxRecDepth 100000 in
theorem wl_X_229 : Cond.methodLink "ShareHouse" 229 yX5_paidBy ∈ am_tb := am_tb4 (i := 87) rfl rfl
theorem wy_yX0_howManyAhead : am_yok yX0_howManyAhead 1 = true := by decide +kernel
set_option maxRecDepth 100000 in
theorem wl_Ac_132 : Cond.methodLink "ShareHouse$Accounts" 132 yX0_howManyAhead ∈ am_tb := am_tb4 (i := 138) rfl rfl
set_option maxRecDepth 100000 in
theorem wi_yX0_howManyAhead : Cond.instanceMethod yX0_howManyAhead ∈ am_tb := am_tb4 (i := 140) rfl rfl
set_option maxRecDepth 100000 in
theorem we_yX0_howManyAhead : Cond.selects yX0_howManyAhead.cls yX0_howManyAhead yX0_howManyAhead ∈ am_tb := am_tbP (i := 20) (q := (yX0_howManyAhead, 4)) rfl
set_option maxRecDepth 100000 in
theorem wc_yX0_howManyAhead : Cond.code yX0_howManyAhead cX0_howManyAhead 4 (some .int) ∈ am_tb := am_tb4 (i := 141) rfl rfl
set_option maxRecDepth 100000 in
theorem wl_Ac_125 : Cond.methodLink "ShareHouse$Accounts" 125 yX0_balanceOf ∈ am_tb := am_tb4 (i := 136) rfl rfl
set_option maxRecDepth 100000 in
theorem wl_Ac_129 : Cond.methodLink "ShareHouse$Accounts" 129 yX0_interestOf ∈ am_tb := am_tb4 (i := 137) rfl rfl
theorem wy_yX0_askedAt : am_yok yX0_askedAt 3 = true := by decide +kernel
set_option maxRecDepth 100000 in
theorem wl_X_246 : Cond.methodLink "ShareHouse" 246 yX0_askedAt ∈ am_tb := am_tb4 (i := 132) rfl rfl
set_option maxRecDepth 100000 in
theorem wi_yX0_askedAt : Cond.instanceMethod yX0_askedAt ∈ am_tb := am_tb4 (i := 133) rfl rfl
set_option maxRecDepth 100000 in
theorem we_yX0_askedAt : Cond.selects yX0_askedAt.cls yX0_askedAt yX0_askedAt ∈ am_tb := am_tb4 (i := 134) rfl rfl
set_option maxRecDepth 100000 in
theorem wc_yX0_askedAt : Cond.code yX0_askedAt cX0_askedAt 6 (some .int) ∈ am_tb := am_tb4 (i := 135) rfl rfl
theorem wy_yX10_add : am_yok yX10_add 2 = true := by decide +kernel
set_option maxRecDepth 100000 in
theorem wl_X_253 : Cond.methodLink "ShareHouse" 253 yX10_add ∈ am_tb := am_tb4 (i := 146) rfl rfl
set_option maxRecDepth 100000 in
theorem wi_yX10_add : Cond.instanceMethod yX10_add ∈ am_tb := am_tb4 (i := 147) rfl rfl
set_option maxRecDepth 100000 in
theorem we_yX10_add : Cond.selects yX10_add.cls yX10_add yX10_add ∈ am_tb := am_tb4 (i := 148) rfl rfl
set_option maxRecDepth 100000 in
theorem wn_ShareHouse_Works : Cond.initialized "ShareHouse$Works" ∈ am_tb := am_tb1 (i := 7) rfl rfl
set_option maxRecDepth 100000 in
theorem wc_yX10_add : Cond.code yX10_add cX10_add 3 (some .int) ∈ am_tb := am_tb4 (i := 149) rfl rfl
set_option maxRecDepth 100000 in
theorem wk_Wo_57 : Cond.methodLinkNest "ShareHouse$Works" 57 yX11_within "ShareHouse" ∈ tables_1 := am_tm4 (i := 158) rfl
theorem wy_yX10_has : am_yok yX10_has 1 = true := by decide +kernel
set_option maxRecDepth 100000 in
theorem wl_X_257 : Cond.methodLink "ShareHouse" 257 yX10_has ∈ am_tb := am_tb4 (i := 154) rfl rfl
set_option maxRecDepth 100000 in
theorem wi_yX10_has : Cond.instanceMethod yX10_has ∈ am_tb := am_tb4 (i := 155) rfl rfl
set_option maxRecDepth 100000 in
theorem we_yX10_has : Cond.selects yX10_has.cls yX10_has yX10_has ∈ am_tb := am_tb4 (i := 156) rfl rfl
set_option maxRecDepth 100000 in
theorem wc_yX10_has : Cond.code yX10_has cX10_has 2 (some .boolean) ∈ am_tb := am_tb4 (i := 157) rfl rfl
theorem wy_yX10_addLetter : am_yok yX10_addLetter 2 = true := by decide +kernel
set_option maxRecDepth 100000 in
theorem wl_X_261 : Cond.methodLink "ShareHouse" 261 yX10_addLetter ∈ am_tb := am_tb4 (i := 159) rfl rfl
set_option maxRecDepth 100000 in
theorem wi_yX10_addLetter : Cond.instanceMethod yX10_addLetter ∈ am_tb := am_tb4 (i := 160) rfl rfl
set_option maxRecDepth 100000 in
theorem we_yX10_addLetter : Cond.selects yX10_addLetter.cls yX10_addLetter yX10_addLetter ∈ am_tb := am_tb4 (i := 161) rfl rfl
set_option maxRecDepth 100000 in
theorem wc_yX10_addLetter : Cond.code yX10_addLetter cX10_addLetter 3 (some .int) ∈ am_tb := am_tb4 (i := 162) rfl rfl
theorem wy_yX10_addPrice : am_yok yX10_addPrice 2 = true := by decide +kernel
set_option maxRecDepth 100000 in
theorem wl_X_264 : Cond.methodLink "ShareHouse" 264 yX10_addPrice ∈ am_tb := am_tb4 (i := 167) rfl rfl
set_option maxRecDepth 100000 in
theorem wi_yX10_addPrice : Cond.instanceMethod yX10_addPrice ∈ am_tb := am_tb4 (i := 168) rfl rfl
set_option maxRecDepth 100000 in
theorem we_yX10_addPrice : Cond.selects yX10_addPrice.cls yX10_addPrice yX10_addPrice ∈ am_tb := am_tb4 (i := 169) rfl rfl
set_option maxRecDepth 100000 in
theorem wc_yX10_addPrice : Cond.code yX10_addPrice cX10_addPrice 3 (some .int) ∈ am_tb := am_tb4 (i := 170) rfl rfl
theorem wy_yX10_whyCapped : am_yok yX10_whyCapped 2 = true := by decide +kernel
set_option maxRecDepth 100000 in
theorem wl_X_267 : Cond.methodLink "ShareHouse" 267 yX10_whyCapped ∈ am_tb := am_tb4 (i := 176) rfl rfl
set_option maxRecDepth 100000 in
theorem wi_yX10_whyCapped : Cond.instanceMethod yX10_whyCapped ∈ am_tb := am_tb4 (i := 177) rfl rfl
set_option maxRecDepth 100000 in
theorem we_yX10_whyCapped : Cond.selects yX10_whyCapped.cls yX10_whyCapped yX10_whyCapped ∈ am_tb := am_tb4 (i := 178) rfl rfl
set_option maxRecDepth 100000 in
theorem wc_yX10_whyCapped : Cond.code yX10_whyCapped cX10_whyCapped 3 (some .int) ∈ am_tb := am_tb4 (i := 179) rfl rfl
theorem wy_yX10_addLike : am_yok yX10_addLike 2 = true := by decide +kernel
set_option maxRecDepth 100000 in
theorem wl_X_272 : Cond.methodLink "ShareHouse" 272 yX10_addLike ∈ am_tb := am_tb4 (i := 188) rfl rfl
set_option maxRecDepth 100000 in
theorem wi_yX10_addLike : Cond.instanceMethod yX10_addLike ∈ am_tb := am_tb4 (i := 189) rfl rfl
set_option maxRecDepth 100000 in
theorem we_yX10_addLike : Cond.selects yX10_addLike.cls yX10_addLike yX10_addLike ∈ am_tb := am_tb4 (i := 190) rfl rfl
set_option maxRecDepth 100000 in
theorem wc_yX10_addLike : Cond.code yX10_addLike cX10_addLike 3 (some .int) ∈ am_tb := am_tb4 (i := 191) rfl rfl
theorem wy_yX10_placeOf : am_yok yX10_placeOf 1 = true := by decide +kernel
set_option maxRecDepth 100000 in
theorem wl_Wo_67 : Cond.methodLink "ShareHouse$Works" 67 yX10_placeOf ∈ am_tb := am_tb4 (i := 200) rfl rfl
set_option maxRecDepth 100000 in
theorem wi_yX10_placeOf : Cond.instanceMethod yX10_placeOf ∈ am_tb := am_tb4 (i := 202) rfl rfl
set_option maxRecDepth 100000 in
theorem we_yX10_placeOf : Cond.selects yX10_placeOf.cls yX10_placeOf yX10_placeOf ∈ am_tb := am_tbP (i := 21) (q := (yX10_placeOf, 12)) rfl
set_option maxRecDepth 100000 in
theorem wc_yX10_placeOf : Cond.code yX10_placeOf cX10_placeOf 5 (some .int) ∈ am_tb := am_tb4 (i := 203) rfl rfl
theorem wy_yX10_fairOf : am_yok yX10_fairOf 1 = true := by decide +kernel
set_option maxRecDepth 100000 in
theorem wl_X_275 : Cond.methodLink "ShareHouse" 275 yX10_fairOf ∈ am_tb := am_tb4 (i := 196) rfl rfl
set_option maxRecDepth 100000 in
theorem wi_yX10_fairOf : Cond.instanceMethod yX10_fairOf ∈ am_tb := am_tb4 (i := 197) rfl rfl
set_option maxRecDepth 100000 in
theorem we_yX10_fairOf : Cond.selects yX10_fairOf.cls yX10_fairOf yX10_fairOf ∈ am_tb := am_tb4 (i := 198) rfl rfl
set_option maxRecDepth 100000 in
theorem wc_yX10_fairOf : Cond.code yX10_fairOf cX10_fairOf 5 (some .int) ∈ am_tb := am_tb4 (i := 199) rfl rfl
set_option maxRecDepth 100000 in
theorem wl_X_278 : Cond.methodLink "ShareHouse" 278 yX2_allAreas ∈ am_tb := am_tb4 (i := 208) rfl rfl
theorem wy_yX8_add : am_yok yX8_add 3 = true := by decide +kernel
set_option maxRecDepth 100000 in
theorem wl_X_286 : Cond.methodLink "ShareHouse" 286 yX8_add ∈ am_tb := am_tb4 (i := 213) rfl rfl
set_option maxRecDepth 100000 in
theorem wi_yX8_add : Cond.instanceMethod yX8_add ∈ am_tb := am_tb4 (i := 214) rfl rfl
set_option maxRecDepth 100000 in
theorem we_yX8_add : Cond.selects yX8_add.cls yX8_add yX8_add ∈ am_tb := am_tb4 (i := 215) rfl rfl
set_option maxRecDepth 100000 in
theorem wn_ShareHouse_Reserve : Cond.initialized "ShareHouse$Reserve" ∈ am_tb := am_tb1 (i := 8) rfl rfl
set_option maxRecDepth 100000 in
theorem wc_yX8_add : Cond.code yX8_add cX8_add 4 (some .int) ∈ am_tb := am_tb4 (i := 216) rfl rfl
set_option maxRecDepth 100000 in
theorem wk_Re_32 : Cond.methodLinkNest "ShareHouse$Reserve" 32 yX11_within "ShareHouse" ∈ tables_1 := am_tm4 (i := 225) rfl
theorem wy_yX8_hasAll : am_yok yX8_hasAll 1 = true := by decide +kernel
set_option maxRecDepth 100000 in
theorem wl_X_290 : Cond.methodLink "ShareHouse" 290 yX8_hasAll ∈ am_tb := am_tb4 (i := 221) rfl rfl
set_option maxRecDepth 100000 in
theorem wi_yX8_hasAll : Cond.instanceMethod yX8_hasAll ∈ am_tb := am_tb4 (i := 222) rfl rfl
set_option maxRecDepth 100000 in
theorem we_yX8_hasAll : Cond.selects yX8_hasAll.cls yX8_hasAll yX8_hasAll ∈ am_tb := am_tb4 (i := 223) rfl rfl
set_option maxRecDepth 100000 in
theorem wc_yX8_hasAll : Cond.code yX8_hasAll cX8_hasAll 2 (some .boolean) ∈ am_tb := am_tb4 (i := 224) rfl rfl
theorem wy_yX3_lack : am_yok yX3_lack 0 = true := by decide +kernel
set_option maxRecDepth 100000 in
theorem wl_X_293 : Cond.methodLink "ShareHouse" 293 yX3_lack ∈ am_tb := am_tb4 (i := 226) rfl rfl
set_option maxRecDepth 100000 in
theorem wi_yX3_lack : Cond.instanceMethod yX3_lack ∈ am_tb := am_tb4 (i := 227) rfl rfl
set_option maxRecDepth 100000 in
theorem we_yX3_lack : Cond.selects yX3_lack.cls yX3_lack yX3_lack ∈ am_tb := am_tb4 (i := 228) rfl rfl
set_option maxRecDepth 100000 in
theorem wc_yX3_lack : Cond.code yX3_lack cX3_lack 1 (some .int) ∈ am_tb := am_tb4 (i := 229) rfl rfl
set_option maxRecDepth 100000 in
theorem wl_Re_36 : Cond.methodLink "ShareHouse$Reserve" 36 yJ7_fill_53178 ∈ am_tb := am_tb4 (i := 234) rfl rfl
theorem wy_yX8_leastPayFor : am_yok yX8_leastPayFor 2 = true := by decide +kernel
set_option maxRecDepth 100000 in
theorem wl_Re_52 : Cond.methodLink "ShareHouse$Reserve" 52 yX8_leastPayFor ∈ am_tb := am_tb5 (i := 0) rfl rfl
set_option maxRecDepth 100000 in
theorem wi_yX8_leastPayFor : Cond.instanceMethod yX8_leastPayFor ∈ am_tb := am_tb5 (i := 2) rfl rfl
set_option maxRecDepth 100000 in
theorem we_yX8_leastPayFor : Cond.selects yX8_leastPayFor.cls yX8_leastPayFor yX8_leastPayFor ∈ am_tb := am_tbP (i := 23) (q := (yX8_leastPayFor, 7)) rfl
set_option maxRecDepth 100000 in
theorem wc_yX8_leastPayFor : Cond.code yX8_leastPayFor cX8_leastPayFor 4 (some .int) ∈ am_tb := am_tb5 (i := 3) rfl rfl
theorem wy_yX8_addRenewals : am_yok yX8_addRenewals 2 = true := by decide +kernel
set_option maxRecDepth 100000 in
theorem wl_Re_42 : Cond.methodLink "ShareHouse$Reserve" 42 yX8_addRenewals ∈ am_tb := am_tb4 (i := 235) rfl rfl
set_option maxRecDepth 100000 in
theorem wi_yX8_addRenewals : Cond.instanceMethod yX8_addRenewals ∈ am_tb := am_tb4 (i := 237) rfl rfl
set_option maxRecDepth 100000 in
theorem we_yX8_addRenewals : Cond.selects yX8_addRenewals.cls yX8_addRenewals yX8_addRenewals ∈ am_tb := am_tbP (i := 22) (q := (yX8_addRenewals, 7)) rfl
set_option maxRecDepth 100000 in
theorem wc_yX8_addRenewals : Cond.code yX8_addRenewals cX8_addRenewals 6 none ∈ am_tb := am_tb4 (i := 238) rfl rfl
theorem wy_yX8_reckon : am_yok yX8_reckon 2 = true := by decide +kernel
set_option maxRecDepth 100000 in
theorem wl_X_296 : Cond.methodLink "ShareHouse" 296 yX8_reckon ∈ am_tb := am_tb4 (i := 230) rfl rfl
set_option maxRecDepth 100000 in
theorem wi_yX8_reckon : Cond.instanceMethod yX8_reckon ∈ am_tb := am_tb4 (i := 231) rfl rfl
set_option maxRecDepth 100000 in
theorem we_yX8_reckon : Cond.selects yX8_reckon.cls yX8_reckon yX8_reckon ∈ am_tb := am_tb4 (i := 232) rfl rfl
set_option maxRecDepth 100000 in
theorem wc_yX8_reckon : Cond.code yX8_reckon cX8_reckon 5 none ∈ am_tb := am_tb4 (i := 233) rfl rfl
set_option maxRecDepth 100000 in
theorem wk_Pr_59 : Cond.methodLinkNest "ShareHouse$Proof" 59 yX11_copy "ShareHouse" ∈ tables_1 := am_tm5 (i := 31) rfl
set_option maxRecDepth 100000 in
theorem wl_Pr_29 : Cond.methodLink "ShareHouse$Proof" 29 yX8_hasAll ∈ am_tb := am_tb5 (i := 16) rfl rfl
theorem wy_yJ6_bitCount_0f7a4 : am_yok yJ6_bitCount_0f7a4 1 = true := by decide +kernel
set_option maxRecDepth 100000 in
theorem wl_Pr_35 : Cond.methodLink "ShareHouse$Proof" 35 yJ6_bitCount_0f7a4 ∈ am_tb := am_tb5 (i := 17) rfl rfl
set_option maxRecDepth 100000 in
theorem ws_yJ6_bitCount_0f7a4 : Cond.static yJ6_bitCount_0f7a4 ∈ am_tb := am_tb5 (i := 18) rfl rfl
set_option maxRecDepth 100000 in
theorem wn_java_lang_Integer : Cond.initialized "java/lang/Integer" ∈ am_tb := am_tb1 (i := 21) rfl rfl
set_option maxRecDepth 100000 in
theorem wc_yJ6_bitCount_0f7a4 : Cond.code yJ6_bitCount_0f7a4 cJ6_bitCount_0f7a4 1 (some .int) ∈ am_tb := am_tb5 (i := 19) rfl rfl
set_option maxRecDepth 100000 in
theorem wl_Pr_41 : Cond.methodLink "ShareHouse$Proof" 41 yX8_reckon ∈ am_tb := am_tb5 (i := 23) rfl rfl
theorem wy_yX7_addRow : am_yok yX7_addRow 3 = true := by decide +kernel
set_option maxRecDepth 100000 in
theorem wl_Pr_51 : Cond.methodLink "ShareHouse$Proof" 51 yX7_addRow ∈ am_tb := am_tb5 (i := 24) rfl rfl
set_option maxRecDepth 100000 in
theorem wi_yX7_addRow : Cond.instanceMethod yX7_addRow ∈ am_tb := am_tb5 (i := 26) rfl rfl
set_option maxRecDepth 100000 in
theorem we_yX7_addRow : Cond.selects yX7_addRow.cls yX7_addRow yX7_addRow ∈ am_tb := am_tbP (i := 24) (q := (yX7_addRow, 4)) rfl
set_option maxRecDepth 100000 in
theorem wn_ShareHouse_Proof : Cond.initialized "ShareHouse$Proof" ∈ am_tb := am_tb1 (i := 10) rfl rfl
set_option maxRecDepth 100000 in
theorem wc_yX7_addRow : Cond.code yX7_addRow cX7_addRow 4 none ∈ am_tb := am_tb5 (i := 27) rfl rfl
theorem wy_yX7_goesAhead : am_yok yX7_goesAhead 2 = true := by decide +kernel
set_option maxRecDepth 100000 in
theorem wl_Pr_55 : Cond.methodLink "ShareHouse$Proof" 55 yX7_goesAhead ∈ am_tb := am_tb5 (i := 28) rfl rfl
set_option maxRecDepth 100000 in
theorem ws_yX7_goesAhead : Cond.static yX7_goesAhead ∈ am_tb := am_tb5 (i := 29) rfl rfl
set_option maxRecDepth 100000 in
theorem wc_yX7_goesAhead : Cond.code yX7_goesAhead cX7_goesAhead 4 (some .boolean) ∈ am_tb := am_tb5 (i := 30) rfl rfl
theorem wy_yX7_tell : am_yok yX7_tell 3 = true := by decide +kernel
set_option maxRecDepth 100000 in
theorem wl_X_308 : Cond.methodLink "ShareHouse" 308 yX7_tell ∈ am_tb := am_tb5 (i := 12) rfl rfl
set_option maxRecDepth 100000 in
theorem wi_yX7_tell : Cond.instanceMethod yX7_tell ∈ am_tb := am_tb5 (i := 13) rfl rfl
set_option maxRecDepth 100000 in
theorem we_yX7_tell : Cond.selects yX7_tell.cls yX7_tell yX7_tell ∈ am_tb := am_tb5 (i := 14) rfl rfl
set_option maxRecDepth 100000 in
theorem wc_yX7_tell : Cond.code yX7_tell cX7_tell 7 (some .int) ∈ am_tb := am_tb5 (i := 15) rfl rfl
set_option maxRecDepth 100000 in
theorem wk_Pr_22 : Cond.methodLinkNest "ShareHouse$Proof" 22 yX11_within "ShareHouse" ∈ tables_1 := am_tm5 (i := 40) rfl
theorem wy_yX7_has : am_yok yX7_has 2 = true := by decide +kernel
set_option maxRecDepth 100000 in
theorem wl_X_312 : Cond.methodLink "ShareHouse" 312 yX7_has ∈ am_tb := am_tb5 (i := 36) rfl rfl
set_option maxRecDepth 100000 in
theorem wi_yX7_has : Cond.instanceMethod yX7_has ∈ am_tb := am_tb5 (i := 37) rfl rfl
set_option maxRecDepth 100000 in
theorem we_yX7_has : Cond.selects yX7_has.cls yX7_has yX7_has ∈ am_tb := am_tb5 (i := 38) rfl rfl
set_option maxRecDepth 100000 in
theorem wc_yX7_has : Cond.code yX7_has cX7_has 3 (some .boolean) ∈ am_tb := am_tb5 (i := 39) rfl rfl
theorem wy_yX7_firstWrong : am_yok yX7_firstWrong 0 = true := by decide +kernel
set_option maxRecDepth 100000 in
theorem wl_X_321 : Cond.methodLink "ShareHouse" 321 yX7_firstWrong ∈ am_tb := am_tb5 (i := 53) rfl rfl
set_option maxRecDepth 100000 in
theorem wi_yX7_firstWrong : Cond.instanceMethod yX7_firstWrong ∈ am_tb := am_tb5 (i := 54) rfl rfl
set_option maxRecDepth 100000 in
theorem we_yX7_firstWrong : Cond.selects yX7_firstWrong.cls yX7_firstWrong yX7_firstWrong ∈ am_tb := am_tb5 (i := 55) rfl rfl
set_option maxRecDepth 100000 in
theorem wc_yX7_firstWrong : Cond.code yX7_firstWrong cX7_firstWrong 2 (some .int) ∈ am_tb := am_tb5 (i := 56) rfl rfl
theorem wy_yX0_readAreas : am_yok yX0_readAreas 1 = true := by decide +kernel
set_option maxRecDepth 100000 in
theorem wl_Ac_135 : Cond.methodLink "ShareHouse$Accounts" 135 yX0_readAreas ∈ am_tb := am_tb5 (i := 65) rfl rfl
set_option maxRecDepth 100000 in
theorem wi_yX0_readAreas : Cond.instanceMethod yX0_readAreas ∈ am_tb := am_tb5 (i := 67) rfl rfl
set_option maxRecDepth 100000 in
theorem we_yX0_readAreas : Cond.selects yX0_readAreas.cls yX0_readAreas yX0_readAreas ∈ am_tb := am_tbP (i := 25) (q := (yX0_readAreas, 4)) rfl
set_option maxRecDepth 100000 in
theorem wc_yX0_readAreas : Cond.code yX0_readAreas cX0_readAreas 4 none ∈ am_tb := am_tb5 (i := 68) rfl rfl
set_option maxRecDepth 100000 in
theorem wl_Ac_139 : Cond.methodLink "ShareHouse$Accounts" 139 yX2_allAreas ∈ am_tb := am_tb5 (i := 69) rfl rfl
theorem wy_yX0_areasOf : am_yok yX0_areasOf 1 = true := by decide +kernel
set_option maxRecDepth 100000 in
theorem wl_Ac_148 : Cond.methodLink "ShareHouse$Accounts" 148 yX0_areasOf ∈ am_tb := am_tb5 (i := 71) rfl rfl
set_option maxRecDepth 100000 in
theorem wi_yX0_areasOf : Cond.instanceMethod yX0_areasOf ∈ am_tb := am_tb5 (i := 73) rfl rfl
set_option maxRecDepth 100000 in
theorem we_yX0_areasOf : Cond.selects yX0_areasOf.cls yX0_areasOf yX0_areasOf ∈ am_tb := am_tbP (i := 26) (q := (yX0_areasOf, 4)) rfl
set_option maxRecDepth 100000 in
theorem wc_yX0_areasOf : Cond.code yX0_areasOf cX0_areasOf 4 (some .int) ∈ am_tb := am_tb5 (i := 74) rfl rfl
set_option maxRecDepth 100000 in
theorem wl_Ac_143 : Cond.methodLink "ShareHouse$Accounts" 143 yJ6_bitCount_0f7a4 ∈ am_tb := am_tb5 (i := 70) rfl rfl
theorem wy_yX0_buyersOf : am_yok yX0_buyersOf 1 = true := by decide +kernel
set_option maxRecDepth 100000 in
theorem wl_X_324 : Cond.methodLink "ShareHouse" 324 yX0_buyersOf ∈ am_tb := am_tb5 (i := 61) rfl rfl
set_option maxRecDepth 100000 in
theorem wi_yX0_buyersOf : Cond.instanceMethod yX0_buyersOf ∈ am_tb := am_tb5 (i := 62) rfl rfl
set_option maxRecDepth 100000 in
theorem we_yX0_buyersOf : Cond.selects yX0_buyersOf.cls yX0_buyersOf yX0_buyersOf ∈ am_tb := am_tb5 (i := 63) rfl rfl
set_option maxRecDepth 100000 in
theorem wc_yX0_buyersOf : Cond.code yX0_buyersOf cX0_buyersOf 6 (some .int) ∈ am_tb := am_tb5 (i := 64) rfl rfl
set_option maxRecDepth 100000 in
theorem wk_Ho_65 : Cond.methodLinkNest "ShareHouse$House" 65 yX11_copy "ShareHouse" ∈ tables_1 := am_tm5 (i := 87) rfl
set_option maxRecDepth 100000 in
theorem wk_Fl_29 : Cond.methodLinkNest "ShareHouse$Flats" 29 yX11_copy "ShareHouse" ∈ tables_1 := am_tm5 (i := 92) rfl
theorem wy_yX11_copy_ : am_yok yX11_copy_ 2 = true := by decide +kernel
set_option maxRecDepth 100000 in
theorem wk_Fl_33 : Cond.methodLinkNest "ShareHouse$Flats" 33 yX11_copy_ "ShareHouse" ∈ tables_1 := am_tm5 (i := 93) rfl
set_option maxRecDepth 100000 in
theorem ws_yX11_copy_ : Cond.static yX11_copy_ ∈ am_tb := am_tb5 (i := 94) rfl rfl
set_option maxRecDepth 100000 in
theorem wc_yX11_copy_ : Cond.code yX11_copy_ cX11_copy_ 3 none ∈ am_tb := am_tb5 (i := 95) rfl rfl
set_option maxRecDepth 100000 in
theorem wl_Fl_36 : Cond.methodLink "ShareHouse$Flats" 36 yX4_become ∈ am_tb := am_tb5 (i := 96) rfl rfl
theorem wy_yX2_become : am_yok yX2_become 1 = true := by decide +kernel
set_option maxRecDepth 100000 in
theorem wl_Ho_69 : Cond.methodLink "ShareHouse$House" 69 yX2_become ∈ am_tb := am_tb5 (i := 88) rfl rfl
set_option maxRecDepth 100000 in
theorem wi_yX2_become : Cond.instanceMethod yX2_become ∈ am_tb := am_tb5 (i := 89) rfl rfl
set_option maxRecDepth 100000 in
theorem we_yX2_become : Cond.selects yX2_become.cls yX2_become yX2_become ∈ am_tb := am_tb5 (i := 90) rfl rfl
set_option maxRecDepth 100000 in
theorem wc_yX2_become : Cond.code yX2_become cX2_become 3 none ∈ am_tb := am_tb5 (i := 91) rfl rfl
set_option maxRecDepth 100000 in
theorem wk_Co_37 : Cond.methodLinkNest "ShareHouse$Costs" 37 yX11_copy "ShareHouse" ∈ tables_1 := am_tm5 (i := 101) rfl
set_option maxRecDepth 100000 in
theorem wk_Co_41 : Cond.methodLinkNest "ShareHouse$Costs" 41 yX11_copy_ "ShareHouse" ∈ tables_1 := am_tm5 (i := 102) rfl
theorem wy_yX1_become : am_yok yX1_become 1 = true := by decide +kernel
set_option maxRecDepth 100000 in
theorem wl_Ho_73 : Cond.methodLink "ShareHouse$House" 73 yX1_become ∈ am_tb := am_tb5 (i := 97) rfl rfl
set_option maxRecDepth 100000 in
theorem wi_yX1_become : Cond.instanceMethod yX1_become ∈ am_tb := am_tb5 (i := 98) rfl rfl
set_option maxRecDepth 100000 in
theorem we_yX1_become : Cond.selects yX1_become.cls yX1_become yX1_become ∈ am_tb := am_tb5 (i := 99) rfl rfl
set_option maxRecDepth 100000 in
theorem wc_yX1_become : Cond.code yX1_become cX1_become 2 none ∈ am_tb := am_tb5 (i := 100) rfl rfl
set_option maxRecDepth 100000 in
theorem wk_Ow_30 : Cond.methodLinkNest "ShareHouse$Owners" 30 yX11_copy "ShareHouse" ∈ tables_1 := am_tm5 (i := 107) rfl
theorem wy_yX5_become : am_yok yX5_become 1 = true := by decide +kernel
set_option maxRecDepth 100000 in
theorem wl_Ho_76 : Cond.methodLink "ShareHouse$House" 76 yX5_become ∈ am_tb := am_tb5 (i := 103) rfl rfl
set_option maxRecDepth 100000 in
theorem wi_yX5_become : Cond.instanceMethod yX5_become ∈ am_tb := am_tb5 (i := 104) rfl rfl
set_option maxRecDepth 100000 in
theorem we_yX5_become : Cond.selects yX5_become.cls yX5_become yX5_become ∈ am_tb := am_tb5 (i := 105) rfl rfl
set_option maxRecDepth 100000 in
theorem wc_yX5_become : Cond.code yX5_become cX5_become 2 none ∈ am_tb := am_tb5 (i := 106) rfl rfl
set_option maxRecDepth 100000 in
theorem wk_Wo_43 : Cond.methodLinkNest "ShareHouse$Works" 43 yX11_copy "ShareHouse" ∈ tables_1 := am_tm5 (i := 112) rfl
set_option maxRecDepth 100000 in
theorem wk_Wo_47 : Cond.methodLinkNest "ShareHouse$Works" 47 yX11_copy_ "ShareHouse" ∈ tables_1 := am_tm5 (i := 113) rfl
theorem wy_yX10_become : am_yok yX10_become 1 = true := by decide +kernel
set_option maxRecDepth 100000 in
theorem wl_Ho_79 : Cond.methodLink "ShareHouse$House" 79 yX10_become ∈ am_tb := am_tb5 (i := 108) rfl rfl
set_option maxRecDepth 100000 in
theorem wi_yX10_become : Cond.instanceMethod yX10_become ∈ am_tb := am_tb5 (i := 109) rfl rfl
set_option maxRecDepth 100000 in
theorem we_yX10_become : Cond.selects yX10_become.cls yX10_become yX10_become ∈ am_tb := am_tb5 (i := 110) rfl rfl
set_option maxRecDepth 100000 in
theorem wc_yX10_become : Cond.code yX10_become cX10_become 2 none ∈ am_tb := am_tb5 (i := 111) rfl rfl
set_option maxRecDepth 100000 in
theorem wk_Re_24 : Cond.methodLinkNest "ShareHouse$Reserve" 24 yX11_copy "ShareHouse" ∈ tables_1 := am_tm5 (i := 118) rfl
theorem wy_yX8_become : am_yok yX8_become 1 = true := by decide +kernel
set_option maxRecDepth 100000 in
theorem wl_Ho_82 : Cond.methodLink "ShareHouse$House" 82 yX8_become ∈ am_tb := am_tb5 (i := 114) rfl rfl
set_option maxRecDepth 100000 in
theorem wi_yX8_become : Cond.instanceMethod yX8_become ∈ am_tb := am_tb5 (i := 115) rfl rfl
set_option maxRecDepth 100000 in
theorem we_yX8_become : Cond.selects yX8_become.cls yX8_become yX8_become ∈ am_tb := am_tb5 (i := 116) rfl rfl
set_option maxRecDepth 100000 in
theorem wc_yX8_become : Cond.code yX8_become cX8_become 2 none ∈ am_tb := am_tb5 (i := 117) rfl rfl
theorem wy_yX3_become : am_yok yX3_become 1 = true := by decide +kernel
set_option maxRecDepth 100000 in
theorem wl_X_344 : Cond.methodLink "ShareHouse" 344 yX3_become ∈ am_tb := am_tb5 (i := 83) rfl rfl
set_option maxRecDepth 100000 in
theorem wi_yX3_become : Cond.instanceMethod yX3_become ∈ am_tb := am_tb5 (i := 84) rfl rfl
set_option maxRecDepth 100000 in
theorem we_yX3_become : Cond.selects yX3_become.cls yX3_become yX3_become ∈ am_tb := am_tb5 (i := 85) rfl rfl
set_option maxRecDepth 100000 in
theorem wc_yX3_become : Cond.code yX3_become cX3_become 2 none ∈ am_tb := am_tb5 (i := 86) rfl rfl
theorem wy_yX12_in : am_yok yX12_in 3 = true := by decide +kernel
set_option maxRecDepth 100000 in
theorem wl_M_51 : Cond.methodLink "ShareHouseModel" 51 yX12_in ∈ am_tb := am_tb5 (i := 224) rfl rfl
set_option maxRecDepth 100000 in
theorem ws_yX12_in : Cond.static yX12_in ∈ am_tb := am_tb5 (i := 225) rfl rfl
set_option maxRecDepth 100000 in
theorem wn_ShareHouseModel : Cond.initialized "ShareHouseModel" ∈ am_tb := am_tb1 (i := 13) rfl rfl
set_option maxRecDepth 100000 in
theorem wc_yX12_in : Cond.code yX12_in cX12_in 3 (some .boolean) ∈ am_tb := am_tb5 (i := 226) rfl rfl
theorem wy_yX12_isFlat : am_yok yX12_isFlat 1 = true := by decide +kernel
set_option maxRecDepth 100000 in
theorem wl_M_179 : Cond.methodLink "ShareHouseModel" 179 yX12_isFlat ∈ am_tb := am_tb6 (i := 0) rfl rfl
set_option maxRecDepth 100000 in
theorem wi_yX12_isFlat : Cond.instanceMethod yX12_isFlat ∈ am_tb := am_tb6 (i := 2) rfl rfl
set_option maxRecDepth 100000 in
theorem we_yX12_isFlat : Cond.selects yX12_isFlat.cls yX12_isFlat yX12_isFlat ∈ am_tb := am_tbP (i := 27) (q := (yX12_isFlat, 30)) rfl
set_option maxRecDepth 100000 in
theorem wc_yX12_isFlat : Cond.code yX12_isFlat cX12_isFlat 2 (some .boolean) ∈ am_tb := am_tb6 (i := 3) rfl rfl
theorem wy_yX12_isLetter : am_yok yX12_isLetter 1 = true := by decide +kernel
set_option maxRecDepth 100000 in
theorem wl_M_66 : Cond.methodLink "ShareHouseModel" 66 yX12_isLetter ∈ am_tb := am_tb6 (i := 8) rfl rfl
set_option maxRecDepth 100000 in
theorem wi_yX12_isLetter : Cond.instanceMethod yX12_isLetter ∈ am_tb := am_tb6 (i := 10) rfl rfl
set_option maxRecDepth 100000 in
theorem we_yX12_isLetter : Cond.selects yX12_isLetter.cls yX12_isLetter yX12_isLetter ∈ am_tb := am_tbP (i := 29) (q := (yX12_isLetter, 30)) rfl
set_option maxRecDepth 100000 in
theorem wc_yX12_isLetter : Cond.code yX12_isLetter cX12_isLetter 2 (some .boolean) ∈ am_tb := am_tb6 (i := 11) rfl rfl
theorem wy_yX12_isDigit : am_yok yX12_isDigit 1 = true := by decide +kernel
set_option maxRecDepth 100000 in
theorem wl_M_70 : Cond.methodLink "ShareHouseModel" 70 yX12_isDigit ∈ am_tb := am_tb6 (i := 12) rfl rfl
set_option maxRecDepth 100000 in
theorem wi_yX12_isDigit : Cond.instanceMethod yX12_isDigit ∈ am_tb := am_tb6 (i := 14) rfl rfl
set_option maxRecDepth 100000 in
theorem we_yX12_isDigit : Cond.selects yX12_isDigit.cls yX12_isDigit yX12_isDigit ∈ am_tb := am_tbP (i := 30) (q := (yX12_isDigit, 30)) rfl
set_option maxRecDepth 100000 in
theorem wc_yX12_isDigit : Cond.code yX12_isDigit cX12_isDigit 2 (some .boolean) ∈ am_tb := am_tb6 (i := 15) rfl rfl
theorem wy_yX12_next : am_yok yX12_next 0 = true := by decide +kernel
set_option maxRecDepth 100000 in
theorem wl_M_80 : Cond.methodLink "ShareHouseModel" 80 yX12_next ∈ am_tb := am_tb6 (i := 4) rfl rfl
set_option maxRecDepth 100000 in
theorem wi_yX12_next : Cond.instanceMethod yX12_next ∈ am_tb := am_tb6 (i := 6) rfl rfl
set_option maxRecDepth 100000 in
theorem we_yX12_next : Cond.selects yX12_next.cls yX12_next yX12_next ∈ am_tb := am_tbP (i := 28) (q := (yX12_next, 30)) rfl
set_option maxRecDepth 100000 in
theorem wc_yX12_next : Cond.code yX12_next cX12_next 3 none ∈ am_tb := am_tb6 (i := 7) rfl rfl
theorem wy_yX12_isName : am_yok yX12_isName 2 = true := by decide +kernel
set_option maxRecDepth 100000 in
theorem wl_M_76 : Cond.methodLink "ShareHouseModel" 76 yX12_isName ∈ am_tb := am_tb6 (i := 33) rfl rfl
set_option maxRecDepth 100000 in
theorem wi_yX12_isName : Cond.instanceMethod yX12_isName ∈ am_tb := am_tb6 (i := 35) rfl rfl
set_option maxRecDepth 100000 in
theorem we_yX12_isName : Cond.selects yX12_isName.cls yX12_isName yX12_isName ∈ am_tb := am_tbP (i := 35) (q := (yX12_isName, 30)) rfl
set_option maxRecDepth 100000 in
theorem wc_yX12_isName : Cond.code yX12_isName cX12_isName 6 (some .boolean) ∈ am_tb := am_tb6 (i := 36) rfl rfl
theorem wy_yX12_may : am_yok yX12_may 2 = true := by decide +kernel
set_option maxRecDepth 100000 in
theorem wl_M_83 : Cond.methodLink "ShareHouseModel" 83 yX12_may ∈ am_tb := am_tb6 (i := 29) rfl rfl
set_option maxRecDepth 100000 in
theorem wi_yX12_may : Cond.instanceMethod yX12_may ∈ am_tb := am_tb6 (i := 31) rfl rfl
set_option maxRecDepth 100000 in
theorem we_yX12_may : Cond.selects yX12_may.cls yX12_may yX12_may ∈ am_tb := am_tbP (i := 34) (q := (yX12_may, 30)) rfl
set_option maxRecDepth 100000 in
theorem wc_yX12_may : Cond.code yX12_may cX12_may 5 (some .boolean) ∈ am_tb := am_tb6 (i := 32) rfl rfl
theorem wy_yX12_head : am_yok yX12_head 0 = true := by decide +kernel
set_option maxRecDepth 100000 in
theorem wl_M_101 : Cond.methodLink "ShareHouseModel" 101 yX12_head ∈ am_tb := am_tb6 (i := 41) rfl rfl
set_option maxRecDepth 100000 in
theorem wi_yX12_head : Cond.instanceMethod yX12_head ∈ am_tb := am_tb6 (i := 43) rfl rfl
set_option maxRecDepth 100000 in
theorem we_yX12_head : Cond.selects yX12_head.cls yX12_head yX12_head ∈ am_tb := am_tbP (i := 37) (q := (yX12_head, 30)) rfl
set_option maxRecDepth 100000 in
theorem wc_yX12_head : Cond.code yX12_head cX12_head 1 (some .int) ∈ am_tb := am_tb6 (i := 44) rfl rfl
theorem wy_yX12_bad : am_yok yX12_bad 0 = true := by decide +kernel
set_option maxRecDepth 100000 in
theorem wl_M_86 : Cond.methodLink "ShareHouseModel" 86 yX12_bad ∈ am_tb := am_tb6 (i := 20) rfl rfl
set_option maxRecDepth 100000 in
theorem wi_yX12_bad : Cond.instanceMethod yX12_bad ∈ am_tb := am_tb6 (i := 22) rfl rfl
set_option maxRecDepth 100000 in
theorem we_yX12_bad : Cond.selects yX12_bad.cls yX12_bad yX12_bad ∈ am_tb := am_tbP (i := 32) (q := (yX12_bad, 30)) rfl
set_option maxRecDepth 100000 in
theorem wc_yX12_bad : Cond.code yX12_bad cX12_bad 1 none ∈ am_tb := am_tb6 (i := 23) rfl rfl
theorem wy_yX12_oneHead : am_yok yX12_oneHead 0 = true := by decide +kernel
set_option maxRecDepth 100000 in
theorem wl_M_107 : Cond.methodLink "ShareHouseModel" 107 yX12_oneHead ∈ am_tb := am_tb6 (i := 37) rfl rfl
set_option maxRecDepth 100000 in
theorem wi_yX12_oneHead : Cond.instanceMethod yX12_oneHead ∈ am_tb := am_tb6 (i := 39) rfl rfl
set_option maxRecDepth 100000 in
theorem we_yX12_oneHead : Cond.selects yX12_oneHead.cls yX12_oneHead yX12_oneHead ∈ am_tb := am_tbP (i := 36) (q := (yX12_oneHead, 30)) rfl
set_option maxRecDepth 100000 in
theorem wc_yX12_oneHead : Cond.code yX12_oneHead cX12_oneHead 2 (some .int) ∈ am_tb := am_tb6 (i := 40) rfl rfl
theorem wy_yX12_heads : am_yok yX12_heads 0 = true := by decide +kernel
set_option maxRecDepth 100000 in
theorem wl_M_165 : Cond.methodLink "ShareHouseModel" 165 yX12_heads ∈ am_tb := am_tb6 (i := 24) rfl rfl
set_option maxRecDepth 100000 in
theorem wi_yX12_heads : Cond.instanceMethod yX12_heads ∈ am_tb := am_tb6 (i := 26) rfl rfl
set_option maxRecDepth 100000 in
theorem we_yX12_heads : Cond.selects yX12_heads.cls yX12_heads yX12_heads ∈ am_tb := am_tbP (i := 33) (q := (yX12_heads, 30)) rfl
set_option maxRecDepth 100000 in
theorem wc_yX12_heads : Cond.code yX12_heads cX12_heads 2 (some .int) ∈ am_tb := am_tb6 (i := 27) rfl rfl
theorem wy_yX12_must : am_yok yX12_must 2 = true := by decide +kernel
set_option maxRecDepth 100000 in
theorem wl_M_135 : Cond.methodLink "ShareHouseModel" 135 yX12_must ∈ am_tb := am_tb6 (i := 53) rfl rfl
set_option maxRecDepth 100000 in
theorem wi_yX12_must : Cond.instanceMethod yX12_must ∈ am_tb := am_tb6 (i := 55) rfl rfl
set_option maxRecDepth 100000 in
theorem we_yX12_must : Cond.selects yX12_must.cls yX12_must yX12_must ∈ am_tb := am_tbP (i := 38) (q := (yX12_must, 30)) rfl
set_option maxRecDepth 100000 in
theorem wc_yX12_must : Cond.code yX12_must cX12_must 4 none ∈ am_tb := am_tb6 (i := 56) rfl rfl
theorem wy_yX12_flatOf : am_yok yX12_flatOf 2 = true := by decide +kernel
set_option maxRecDepth 100000 in
theorem wl_M_146 : Cond.methodLink "ShareHouseModel" 146 yX12_flatOf ∈ am_tb := am_tb6 (i := 81) rfl rfl
set_option maxRecDepth 100000 in
theorem wi_yX12_flatOf : Cond.instanceMethod yX12_flatOf ∈ am_tb := am_tb6 (i := 83) rfl rfl
set_option maxRecDepth 100000 in
theorem we_yX12_flatOf : Cond.selects yX12_flatOf.cls yX12_flatOf yX12_flatOf ∈ am_tb := am_tbP (i := 43) (q := (yX12_flatOf, 30)) rfl
set_option maxRecDepth 100000 in
theorem wc_yX12_flatOf : Cond.code yX12_flatOf cX12_flatOf 3 (some .int) ∈ am_tb := am_tb6 (i := 84) rfl rfl
theorem wy_yX12_number : am_yok yX12_number 2 = true := by decide +kernel
set_option maxRecDepth 100000 in
theorem wl_M_129 : Cond.methodLink "ShareHouseModel" 129 yX12_number ∈ am_tb := am_tb6 (i := 65) rfl rfl
set_option maxRecDepth 100000 in
theorem wi_yX12_number : Cond.instanceMethod yX12_number ∈ am_tb := am_tb6 (i := 67) rfl rfl
set_option maxRecDepth 100000 in
theorem we_yX12_number : Cond.selects yX12_number.cls yX12_number yX12_number ∈ am_tb := am_tbP (i := 40) (q := (yX12_number, 30)) rfl
set_option maxRecDepth 100000 in
theorem wc_yX12_number : Cond.code yX12_number cX12_number 6 (some .int) ∈ am_tb := am_tb6 (i := 68) rfl rfl
theorem wy_yX12_one : am_yok yX12_one 1 = true := by decide +kernel
set_option maxRecDepth 100000 in
theorem wl_M_159 : Cond.methodLink "ShareHouseModel" 159 yX12_one ∈ am_tb := am_tb6 (i := 75) rfl rfl
set_option maxRecDepth 100000 in
theorem wi_yX12_one : Cond.instanceMethod yX12_one ∈ am_tb := am_tb6 (i := 77) rfl rfl
set_option maxRecDepth 100000 in
theorem we_yX12_one : Cond.selects yX12_one.cls yX12_one yX12_one ∈ am_tb := am_tbP (i := 42) (q := (yX12_one, 30)) rfl
set_option maxRecDepth 100000 in
theorem wc_yX12_one : Cond.code yX12_one cX12_one 4 (some .boolean) ∈ am_tb := am_tb6 (i := 78) rfl rfl
theorem wy_yX12_cond : am_yok yX12_cond 1 = true := by decide +kernel
set_option maxRecDepth 100000 in
theorem wl_M_173 : Cond.methodLink "ShareHouseModel" 173 yX12_cond ∈ am_tb := am_tb6 (i := 70) rfl rfl
set_option maxRecDepth 100000 in
theorem wi_yX12_cond : Cond.instanceMethod yX12_cond ∈ am_tb := am_tb6 (i := 72) rfl rfl
set_option maxRecDepth 100000 in
theorem we_yX12_cond : Cond.selects yX12_cond.cls yX12_cond yX12_cond ∈ am_tb := am_tbP (i := 41) (q := (yX12_cond, 30)) rfl
set_option maxRecDepth 100000 in
theorem wc_yX12_cond : Cond.code yX12_cond cX12_cond 3 none ∈ am_tb := am_tb6 (i := 73) rfl rfl
theorem wy_yX12_tellShare : am_yok yX12_tellShare 0 = true := by decide +kernel
set_option maxRecDepth 100000 in
theorem wl_M_170 : Cond.methodLink "ShareHouseModel" 170 yX12_tellShare ∈ am_tb := am_tb6 (i := 57) rfl rfl
set_option maxRecDepth 100000 in
theorem wi_yX12_tellShare : Cond.instanceMethod yX12_tellShare ∈ am_tb := am_tb6 (i := 59) rfl rfl
set_option maxRecDepth 100000 in
theorem we_yX12_tellShare : Cond.selects yX12_tellShare.cls yX12_tellShare yX12_tellShare ∈ am_tb := am_tbP (i := 39) (q := (yX12_tellShare, 30)) rfl
set_option maxRecDepth 100000 in
theorem wc_yX12_tellShare : Cond.code yX12_tellShare cX12_tellShare 1 none ∈ am_tb := am_tb6 (i := 60) rfl rfl
theorem wy_yX12_tellClause : am_yok yX12_tellClause 1 = true := by decide +kernel
set_option maxRecDepth 100000 in
theorem wl_M_182 : Cond.methodLink "ShareHouseModel" 182 yX12_tellClause ∈ am_tb := am_tb6 (i := 16) rfl rfl
set_option maxRecDepth 100000 in
theorem wi_yX12_tellClause : Cond.instanceMethod yX12_tellClause ∈ am_tb := am_tb6 (i := 18) rfl rfl
set_option maxRecDepth 100000 in
theorem we_yX12_tellClause : Cond.selects yX12_tellClause.cls yX12_tellClause yX12_tellClause ∈ am_tb := am_tbP (i := 31) (q := (yX12_tellClause, 30)) rfl
set_option maxRecDepth 100000 in
theorem wc_yX12_tellClause : Cond.code yX12_tellClause cX12_tellClause 4 none ∈ am_tb := am_tb6 (i := 19) rfl rfl
theorem wy_yX12_clauseOf : am_yok yX12_clauseOf 3 = true := by decide +kernel
set_option maxRecDepth 100000 in
theorem wl_M_185 : Cond.methodLink "ShareHouseModel" 185 yX12_clauseOf ∈ am_tb := am_tb6 (i := 92) rfl rfl
set_option maxRecDepth 100000 in
theorem wi_yX12_clauseOf : Cond.instanceMethod yX12_clauseOf ∈ am_tb := am_tb6 (i := 94) rfl rfl
set_option maxRecDepth 100000 in
theorem we_yX12_clauseOf : Cond.selects yX12_clauseOf.cls yX12_clauseOf yX12_clauseOf ∈ am_tb := am_tbP (i := 44) (q := (yX12_clauseOf, 30)) rfl
set_option maxRecDepth 100000 in
theorem wc_yX12_clauseOf : Cond.code yX12_clauseOf cX12_clauseOf 4 (some .int) ∈ am_tb := am_tb6 (i := 95) rfl rfl
theorem wy_yX12_isHead : am_yok yX12_isHead 1 = true := by decide +kernel
set_option maxRecDepth 100000 in
theorem wl_M_203 : Cond.methodLink "ShareHouseModel" 203 yX12_isHead ∈ am_tb := am_tb6 (i := 100) rfl rfl
set_option maxRecDepth 100000 in
theorem ws_yX12_isHead : Cond.static yX12_isHead ∈ am_tb := am_tb6 (i := 101) rfl rfl
set_option maxRecDepth 100000 in
theorem wc_yX12_isHead : Cond.code yX12_isHead cX12_isHead 1 (some .boolean) ∈ am_tb := am_tb6 (i := 102) rfl rfl
theorem wy_yX12_common : am_yok yX12_common 2 = true := by decide +kernel
set_option maxRecDepth 100000 in
theorem wl_M_199 : Cond.methodLink "ShareHouseModel" 199 yX12_common ∈ am_tb := am_tb6 (i := 111) rfl rfl
set_option maxRecDepth 100000 in
theorem ws_yX12_common : Cond.static yX12_common ∈ am_tb := am_tb6 (i := 112) rfl rfl
set_option maxRecDepth 100000 in
theorem wc_yX12_common : Cond.code yX12_common cX12_common 10 (some .long) ∈ am_tb := am_tb6 (i := 113) rfl rfl
theorem wy_yX12_together : am_yok yX12_together 1 = true := by decide +kernel
set_option maxRecDepth 100000 in
theorem wl_M_195 : Cond.methodLink "ShareHouseModel" 195 yX12_together ∈ am_tb := am_tb6 (i := 107) rfl rfl
set_option maxRecDepth 100000 in
theorem wi_yX12_together : Cond.instanceMethod yX12_together ∈ am_tb := am_tb6 (i := 109) rfl rfl
set_option maxRecDepth 100000 in
theorem we_yX12_together : Cond.selects yX12_together.cls yX12_together yX12_together ∈ am_tb := am_tbP (i := 46) (q := (yX12_together, 30)) rfl
set_option maxRecDepth 100000 in
theorem wc_yX12_together : Cond.code yX12_together cX12_together 4 (some .int) ∈ am_tb := am_tb6 (i := 110) rfl rfl
theorem wy_yX12_findShare : am_yok yX12_findShare 2 = true := by decide +kernel
set_option maxRecDepth 100000 in
theorem wl_M_206 : Cond.methodLink "ShareHouseModel" 206 yX12_findShare ∈ am_tb := am_tb6 (i := 103) rfl rfl
set_option maxRecDepth 100000 in
theorem wi_yX12_findShare : Cond.instanceMethod yX12_findShare ∈ am_tb := am_tb6 (i := 105) rfl rfl
set_option maxRecDepth 100000 in
theorem we_yX12_findShare : Cond.selects yX12_findShare.cls yX12_findShare yX12_findShare ∈ am_tb := am_tbP (i := 45) (q := (yX12_findShare, 30)) rfl
set_option maxRecDepth 100000 in
theorem wc_yX12_findShare : Cond.code yX12_findShare cX12_findShare 5 none ∈ am_tb := am_tb6 (i := 106) rfl rfl
theorem wy_yX12_findShares : am_yok yX12_findShares 1 = true := by decide +kernel
set_option maxRecDepth 100000 in
theorem wl_M_219 : Cond.methodLink "ShareHouseModel" 219 yX12_findShares ∈ am_tb := am_tb6 (i := 119) rfl rfl
set_option maxRecDepth 100000 in
theorem wi_yX12_findShares : Cond.instanceMethod yX12_findShares ∈ am_tb := am_tb6 (i := 121) rfl rfl
set_option maxRecDepth 100000 in
theorem we_yX12_findShares : Cond.selects yX12_findShares.cls yX12_findShares yX12_findShares ∈ am_tb := am_tbP (i := 47) (q := (yX12_findShares, 30)) rfl
set_option maxRecDepth 100000 in
theorem wc_yX12_findShares : Cond.code yX12_findShares cX12_findShares 3 none ∈ am_tb := am_tb6 (i := 122) rfl rfl
theorem wy_yX12_mostOf : am_yok yX12_mostOf 1 = true := by decide +kernel
set_option maxRecDepth 100000 in
theorem wl_M_223 : Cond.methodLink "ShareHouseModel" 223 yX12_mostOf ∈ am_tb := am_tb6 (i := 131) rfl rfl
set_option maxRecDepth 100000 in
theorem ws_yX12_mostOf : Cond.static yX12_mostOf ∈ am_tb := am_tb6 (i := 132) rfl rfl
set_option maxRecDepth 100000 in
theorem wc_yX12_mostOf : Cond.code yX12_mostOf cX12_mostOf 1 (some .int) ∈ am_tb := am_tb6 (i := 133) rfl rfl
theorem wy_yX12_isKnownDay : am_yok yX12_isKnownDay 1 = true := by decide +kernel
set_option maxRecDepth 100000 in
theorem wl_M_226 : Cond.methodLink "ShareHouseModel" 226 yX12_isKnownDay ∈ am_tb := am_tb6 (i := 139) rfl rfl
set_option maxRecDepth 100000 in
theorem wi_yX12_isKnownDay : Cond.instanceMethod yX12_isKnownDay ∈ am_tb := am_tb6 (i := 141) rfl rfl
set_option maxRecDepth 100000 in
theorem we_yX12_isKnownDay : Cond.selects yX12_isKnownDay.cls yX12_isKnownDay yX12_isKnownDay ∈ am_tb := am_tbP (i := 48) (q := (yX12_isKnownDay, 30)) rfl
set_option maxRecDepth 100000 in
theorem wc_yX12_isKnownDay : Cond.code yX12_isKnownDay cX12_isKnownDay 2 (some .boolean) ∈ am_tb := am_tb6 (i := 142) rfl rfl
theorem wy_yX12_addCost : am_yok yX12_addCost 4 = true := by decide +kernel
set_option maxRecDepth 100000 in
theorem wl_M_229 : Cond.methodLink "ShareHouseModel" 229 yX12_addCost ∈ am_tb := am_tb6 (i := 143) rfl rfl
set_option maxRecDepth 100000 in
theorem wi_yX12_addCost : Cond.instanceMethod yX12_addCost ∈ am_tb := am_tb6 (i := 145) rfl rfl
set_option maxRecDepth 100000 in
theorem we_yX12_addCost : Cond.selects yX12_addCost.cls yX12_addCost yX12_addCost ∈ am_tb := am_tbP (i := 49) (q := (yX12_addCost, 30)) rfl
set_option maxRecDepth 100000 in
theorem wc_yX12_addCost : Cond.code yX12_addCost cX12_addCost 6 (some .int) ∈ am_tb := am_tb6 (i := 146) rfl rfl
theorem wy_yX12_isCost : am_yok yX12_isCost 1 = true := by decide +kernel
set_option maxRecDepth 100000 in
theorem wl_M_236 : Cond.methodLink "ShareHouseModel" 236 yX12_isCost ∈ am_tb := am_tb6 (i := 151) rfl rfl
set_option maxRecDepth 100000 in
theorem wi_yX12_isCost : Cond.instanceMethod yX12_isCost ∈ am_tb := am_tb6 (i := 153) rfl rfl
set_option maxRecDepth 100000 in
theorem we_yX12_isCost : Cond.selects yX12_isCost.cls yX12_isCost yX12_isCost ∈ am_tb := am_tbP (i := 50) (q := (yX12_isCost, 30)) rfl
set_option maxRecDepth 100000 in
theorem wc_yX12_isCost : Cond.code yX12_isCost cX12_isCost 2 (some .boolean) ∈ am_tb := am_tb6 (i := 154) rfl rfl
theorem wy_yX12_costAt : am_yok yX12_costAt 2 = true := by decide +kernel
set_option maxRecDepth 100000 in
theorem wl_M_233 : Cond.methodLink "ShareHouseModel" 233 yX12_costAt ∈ am_tb := am_tb6 (i := 159) rfl rfl
set_option maxRecDepth 100000 in
theorem wi_yX12_costAt : Cond.instanceMethod yX12_costAt ∈ am_tb := am_tb6 (i := 161) rfl rfl
set_option maxRecDepth 100000 in
theorem we_yX12_costAt : Cond.selects yX12_costAt.cls yX12_costAt yX12_costAt ∈ am_tb := am_tbP (i := 52) (q := (yX12_costAt, 30)) rfl
set_option maxRecDepth 100000 in
theorem wc_yX12_costAt : Cond.code yX12_costAt cX12_costAt 3 (some .int) ∈ am_tb := am_tb6 (i := 162) rfl rfl
theorem wy_yX12_mayRight : am_yok yX12_mayRight 1 = true := by decide +kernel
set_option maxRecDepth 100000 in
theorem wl_M_239 : Cond.methodLink "ShareHouseModel" 239 yX12_mayRight ∈ am_tb := am_tb6 (i := 155) rfl rfl
set_option maxRecDepth 100000 in
theorem wi_yX12_mayRight : Cond.instanceMethod yX12_mayRight ∈ am_tb := am_tb6 (i := 157) rfl rfl
set_option maxRecDepth 100000 in
theorem we_yX12_mayRight : Cond.selects yX12_mayRight.cls yX12_mayRight yX12_mayRight ∈ am_tb := am_tbP (i := 51) (q := (yX12_mayRight, 30)) rfl
set_option maxRecDepth 100000 in
theorem wc_yX12_mayRight : Cond.code yX12_mayRight cX12_mayRight 2 (some .int) ∈ am_tb := am_tb6 (i := 158) rfl rfl
theorem wy_yX12_pence : am_yok yX12_pence 2 = true := by decide +kernel
set_option maxRecDepth 100000 in
theorem wl_M_242 : Cond.methodLink "ShareHouseModel" 242 yX12_pence ∈ am_tb := am_tb6 (i := 163) rfl rfl
set_option maxRecDepth 100000 in
theorem wi_yX12_pence : Cond.instanceMethod yX12_pence ∈ am_tb := am_tb6 (i := 165) rfl rfl
set_option maxRecDepth 100000 in
theorem we_yX12_pence : Cond.selects yX12_pence.cls yX12_pence yX12_pence ∈ am_tb := am_tbP (i := 53) (q := (yX12_pence, 30)) rfl
set_option maxRecDepth 100000 in
theorem wc_yX12_pence : Cond.code yX12_pence cX12_pence 5 (some .int) ∈ am_tb := am_tb6 (i := 166) rfl rfl
theorem wy_yX12_putRight : am_yok yX12_putRight 2 = true := by decide +kernel
set_option maxRecDepth 100000 in
theorem wl_M_245 : Cond.methodLink "ShareHouseModel" 245 yX12_putRight ∈ am_tb := am_tb6 (i := 167) rfl rfl
set_option maxRecDepth 100000 in
theorem wi_yX12_putRight : Cond.instanceMethod yX12_putRight ∈ am_tb := am_tb6 (i := 169) rfl rfl
set_option maxRecDepth 100000 in
theorem we_yX12_putRight : Cond.selects yX12_putRight.cls yX12_putRight yX12_putRight ∈ am_tb := am_tbP (i := 54) (q := (yX12_putRight, 30)) rfl
set_option maxRecDepth 100000 in
theorem wc_yX12_putRight : Cond.code yX12_putRight cX12_putRight 4 none ∈ am_tb := am_tb6 (i := 170) rfl rfl
theorem wy_yX12_levelOf : am_yok yX12_levelOf 1 = true := by decide +kernel
set_option maxRecDepth 100000 in
theorem wl_M_248 : Cond.methodLink "ShareHouseModel" 248 yX12_levelOf ∈ am_tb := am_tb6 (i := 175) rfl rfl
set_option maxRecDepth 100000 in
theorem wi_yX12_levelOf : Cond.instanceMethod yX12_levelOf ∈ am_tb := am_tb6 (i := 177) rfl rfl
set_option maxRecDepth 100000 in
theorem we_yX12_levelOf : Cond.selects yX12_levelOf.cls yX12_levelOf yX12_levelOf ∈ am_tb := am_tbP (i := 55) (q := (yX12_levelOf, 30)) rfl
set_option maxRecDepth 100000 in
theorem wc_yX12_levelOf : Cond.code yX12_levelOf cX12_levelOf 2 (some .int) ∈ am_tb := am_tb6 (i := 178) rfl rfl
theorem wy_yX12_dueLine : am_yok yX12_dueLine 1 = true := by decide +kernel
set_option maxRecDepth 100000 in
theorem wl_M_251 : Cond.methodLink "ShareHouseModel" 251 yX12_dueLine ∈ am_tb := am_tb6 (i := 187) rfl rfl
set_option maxRecDepth 100000 in
theorem wi_yX12_dueLine : Cond.instanceMethod yX12_dueLine ∈ am_tb := am_tb6 (i := 189) rfl rfl
set_option maxRecDepth 100000 in
theorem we_yX12_dueLine : Cond.selects yX12_dueLine.cls yX12_dueLine yX12_dueLine ∈ am_tb := am_tbP (i := 57) (q := (yX12_dueLine, 30)) rfl
set_option maxRecDepth 100000 in
theorem wc_yX12_dueLine : Cond.code yX12_dueLine cX12_dueLine 3 (some .long) ∈ am_tb := am_tb6 (i := 190) rfl rfl
theorem wy_yX12_findParts : am_yok yX12_findParts 2 = true := by decide +kernel
set_option maxRecDepth 100000 in
theorem wl_M_260 : Cond.methodLink "ShareHouseModel" 260 yX12_findParts ∈ am_tb := am_tb6 (i := 183) rfl rfl
set_option maxRecDepth 100000 in
theorem wi_yX12_findParts : Cond.instanceMethod yX12_findParts ∈ am_tb := am_tb6 (i := 185) rfl rfl
set_option maxRecDepth 100000 in
theorem we_yX12_findParts : Cond.selects yX12_findParts.cls yX12_findParts yX12_findParts ∈ am_tb := am_tbP (i := 56) (q := (yX12_findParts, 30)) rfl
set_option maxRecDepth 100000 in
theorem wc_yX12_findParts : Cond.code yX12_findParts cX12_findParts 11 none ∈ am_tb := am_tb6 (i := 186) rfl rfl
theorem wy_yX12_isOwner : am_yok yX12_isOwner 1 = true := by decide +kernel
set_option maxRecDepth 100000 in
theorem wl_M_264 : Cond.methodLink "ShareHouseModel" 264 yX12_isOwner ∈ am_tb := am_tb6 (i := 201) rfl rfl
set_option maxRecDepth 100000 in
theorem ws_yX12_isOwner : Cond.static yX12_isOwner ∈ am_tb := am_tb6 (i := 202) rfl rfl
set_option maxRecDepth 100000 in
theorem wc_yX12_isOwner : Cond.code yX12_isOwner cX12_isOwner 1 (some .boolean) ∈ am_tb := am_tb6 (i := 203) rfl rfl
theorem wy_yX12_ownerOf : am_yok yX12_ownerOf 2 = true := by decide +kernel
set_option maxRecDepth 100000 in
theorem wl_M_267 : Cond.methodLink "ShareHouseModel" 267 yX12_ownerOf ∈ am_tb := am_tb6 (i := 208) rfl rfl
set_option maxRecDepth 100000 in
theorem wi_yX12_ownerOf : Cond.instanceMethod yX12_ownerOf ∈ am_tb := am_tb6 (i := 210) rfl rfl
set_option maxRecDepth 100000 in
theorem we_yX12_ownerOf : Cond.selects yX12_ownerOf.cls yX12_ownerOf yX12_ownerOf ∈ am_tb := am_tbP (i := 58) (q := (yX12_ownerOf, 30)) rfl
set_option maxRecDepth 100000 in
theorem wc_yX12_ownerOf : Cond.code yX12_ownerOf cX12_ownerOf 5 (some .int) ∈ am_tb := am_tb6 (i := 211) rfl rfl
theorem wy_yX12_findBill : am_yok yX12_findBill 2 = true := by decide +kernel
set_option maxRecDepth 100000 in
theorem wl_M_275 : Cond.methodLink "ShareHouseModel" 275 yX12_findBill ∈ am_tb := am_tb6 (i := 220) rfl rfl
set_option maxRecDepth 100000 in
theorem wi_yX12_findBill : Cond.instanceMethod yX12_findBill ∈ am_tb := am_tb6 (i := 222) rfl rfl
set_option maxRecDepth 100000 in
theorem we_yX12_findBill : Cond.selects yX12_findBill.cls yX12_findBill yX12_findBill ∈ am_tb := am_tbP (i := 59) (q := (yX12_findBill, 30)) rfl
set_option maxRecDepth 100000 in
theorem wc_yX12_findBill : Cond.code yX12_findBill cX12_findBill 6 (some .int) ∈ am_tb := am_tb6 (i := 223) rfl rfl
theorem wy_yX12_paid : am_yok yX12_paid 2 = true := by decide +kernel
set_option maxRecDepth 100000 in
theorem wl_M_270 : Cond.methodLink "ShareHouseModel" 270 yX12_paid ∈ am_tb := am_tb6 (i := 224) rfl rfl
set_option maxRecDepth 100000 in
theorem wi_yX12_paid : Cond.instanceMethod yX12_paid ∈ am_tb := am_tb6 (i := 226) rfl rfl
set_option maxRecDepth 100000 in
theorem we_yX12_paid : Cond.selects yX12_paid.cls yX12_paid yX12_paid ∈ am_tb := am_tbP (i := 60) (q := (yX12_paid, 30)) rfl
set_option maxRecDepth 100000 in
theorem wc_yX12_paid : Cond.code yX12_paid cX12_paid 5 (some .int) ∈ am_tb := am_tb6 (i := 227) rfl rfl
theorem wy_yX12_interest : am_yok yX12_interest 2 = true := by decide +kernel
set_option maxRecDepth 100000 in
theorem wl_M_278 : Cond.methodLink "ShareHouseModel" 278 yX12_interest ∈ am_tb := am_tb6 (i := 228) rfl rfl
set_option maxRecDepth 100000 in
theorem wi_yX12_interest : Cond.instanceMethod yX12_interest ∈ am_tb := am_tb6 (i := 230) rfl rfl
set_option maxRecDepth 100000 in
theorem we_yX12_interest : Cond.selects yX12_interest.cls yX12_interest yX12_interest ∈ am_tb := am_tbP (i := 61) (q := (yX12_interest, 30)) rfl
set_option maxRecDepth 100000 in
theorem wc_yX12_interest : Cond.code yX12_interest cX12_interest 8 (some .int) ∈ am_tb := am_tb6 (i := 231) rfl rfl
theorem wy_yX12_isWork : am_yok yX12_isWork 1 = true := by decide +kernel
set_option maxRecDepth 100000 in
theorem wl_M_281 : Cond.methodLink "ShareHouseModel" 281 yX12_isWork ∈ am_tb := am_tb7 (i := 5) rfl rfl
set_option maxRecDepth 100000 in
theorem wi_yX12_isWork : Cond.instanceMethod yX12_isWork ∈ am_tb := am_tb7 (i := 7) rfl rfl
set_option maxRecDepth 100000 in
theorem we_yX12_isWork : Cond.selects yX12_isWork.cls yX12_isWork yX12_isWork ∈ am_tb := am_tbP (i := 62) (q := (yX12_isWork, 30)) rfl
set_option maxRecDepth 100000 in
theorem wc_yX12_isWork : Cond.code yX12_isWork cX12_isWork 2 (some .boolean) ∈ am_tb := am_tb7 (i := 8) rfl rfl
theorem wy_yX12_workOf : am_yok yX12_workOf 2 = true := by decide +kernel
set_option maxRecDepth 100000 in
theorem wl_M_284 : Cond.methodLink "ShareHouseModel" 284 yX12_workOf ∈ am_tb := am_tb7 (i := 9) rfl rfl
set_option maxRecDepth 100000 in
theorem wi_yX12_workOf : Cond.instanceMethod yX12_workOf ∈ am_tb := am_tb7 (i := 11) rfl rfl
set_option maxRecDepth 100000 in
theorem we_yX12_workOf : Cond.selects yX12_workOf.cls yX12_workOf yX12_workOf ∈ am_tb := am_tbP (i := 63) (q := (yX12_workOf, 30)) rfl
set_option maxRecDepth 100000 in
theorem wc_yX12_workOf : Cond.code yX12_workOf cX12_workOf 3 (some .int) ∈ am_tb := am_tb7 (i := 12) rfl rfl
theorem wy_yX12_cappedBy : am_yok yX12_cappedBy 1 = true := by decide +kernel
set_option maxRecDepth 100000 in
theorem wl_M_287 : Cond.methodLink "ShareHouseModel" 287 yX12_cappedBy ∈ am_tb := am_tb7 (i := 21) rfl rfl
set_option maxRecDepth 100000 in
theorem wi_yX12_cappedBy : Cond.instanceMethod yX12_cappedBy ∈ am_tb := am_tb7 (i := 23) rfl rfl
set_option maxRecDepth 100000 in
theorem we_yX12_cappedBy : Cond.selects yX12_cappedBy.cls yX12_cappedBy yX12_cappedBy ∈ am_tb := am_tbP (i := 64) (q := (yX12_cappedBy, 30)) rfl
set_option maxRecDepth 100000 in
theorem wc_yX12_cappedBy : Cond.code yX12_cappedBy cX12_cappedBy 2 (some .int) ∈ am_tb := am_tb7 (i := 24) rfl rfl
theorem wy_yX12_fairOf : am_yok yX12_fairOf 1 = true := by decide +kernel
set_option maxRecDepth 100000 in
theorem wl_M_290 : Cond.methodLink "ShareHouseModel" 290 yX12_fairOf ∈ am_tb := am_tb7 (i := 37) rfl rfl
set_option maxRecDepth 100000 in
theorem wi_yX12_fairOf : Cond.instanceMethod yX12_fairOf ∈ am_tb := am_tb7 (i := 39) rfl rfl
set_option maxRecDepth 100000 in
theorem we_yX12_fairOf : Cond.selects yX12_fairOf.cls yX12_fairOf yX12_fairOf ∈ am_tb := am_tbP (i := 65) (q := (yX12_fairOf, 30)) rfl
set_option maxRecDepth 100000 in
theorem wc_yX12_fairOf : Cond.code yX12_fairOf cX12_fairOf 6 (some .int) ∈ am_tb := am_tb7 (i := 40) rfl rfl
theorem wy_yX12_isSet : am_yok yX12_isSet 1 = true := by decide +kernel
set_option maxRecDepth 100000 in
theorem wl_M_299 : Cond.methodLink "ShareHouseModel" 299 yX12_isSet ∈ am_tb := am_tb7 (i := 53) rfl rfl
set_option maxRecDepth 100000 in
theorem wi_yX12_isSet : Cond.instanceMethod yX12_isSet ∈ am_tb := am_tb7 (i := 55) rfl rfl
set_option maxRecDepth 100000 in
theorem we_yX12_isSet : Cond.selects yX12_isSet.cls yX12_isSet yX12_isSet ∈ am_tb := am_tbP (i := 66) (q := (yX12_isSet, 30)) rfl
set_option maxRecDepth 100000 in
theorem wc_yX12_isSet : Cond.code yX12_isSet cX12_isSet 2 (some .boolean) ∈ am_tb := am_tb7 (i := 56) rfl rfl
theorem wy_yX12_findSpent : am_yok yX12_findSpent 1 = true := by decide +kernel
set_option maxRecDepth 100000 in
theorem wl_M_293 : Cond.methodLink "ShareHouseModel" 293 yX12_findSpent ∈ am_tb := am_tb7 (i := 61) rfl rfl
set_option maxRecDepth 100000 in
theorem wi_yX12_findSpent : Cond.instanceMethod yX12_findSpent ∈ am_tb := am_tb7 (i := 63) rfl rfl
set_option maxRecDepth 100000 in
theorem we_yX12_findSpent : Cond.selects yX12_findSpent.cls yX12_findSpent yX12_findSpent ∈ am_tb := am_tbP (i := 68) (q := (yX12_findSpent, 30)) rfl
set_option maxRecDepth 100000 in
theorem wc_yX12_findSpent : Cond.code yX12_findSpent cX12_findSpent 6 none ∈ am_tb := am_tb7 (i := 64) rfl rfl
theorem wy_yX12_lacks : am_yok yX12_lacks 2 = true := by decide +kernel
set_option maxRecDepth 100000 in
theorem wl_M_296 : Cond.methodLink "ShareHouseModel" 296 yX12_lacks ∈ am_tb := am_tb7 (i := 65) rfl rfl
set_option maxRecDepth 100000 in
theorem wi_yX12_lacks : Cond.instanceMethod yX12_lacks ∈ am_tb := am_tb7 (i := 67) rfl rfl
set_option maxRecDepth 100000 in
theorem we_yX12_lacks : Cond.selects yX12_lacks.cls yX12_lacks yX12_lacks ∈ am_tb := am_tbP (i := 69) (q := (yX12_lacks, 30)) rfl
set_option maxRecDepth 100000 in
theorem wc_yX12_lacks : Cond.code yX12_lacks cX12_lacks 3 (some .int) ∈ am_tb := am_tb7 (i := 68) rfl rfl
theorem wy_yX12_levelPay : am_yok yX12_levelPay 1 = true := by decide +kernel
set_option maxRecDepth 100000 in
theorem wl_M_302 : Cond.methodLink "ShareHouseModel" 302 yX12_levelPay ∈ am_tb := am_tb7 (i := 57) rfl rfl
set_option maxRecDepth 100000 in
theorem wi_yX12_levelPay : Cond.instanceMethod yX12_levelPay ∈ am_tb := am_tb7 (i := 59) rfl rfl
set_option maxRecDepth 100000 in
theorem we_yX12_levelPay : Cond.selects yX12_levelPay.cls yX12_levelPay yX12_levelPay ∈ am_tb := am_tbP (i := 67) (q := (yX12_levelPay, 30)) rfl
set_option maxRecDepth 100000 in
theorem wc_yX12_levelPay : Cond.code yX12_levelPay cX12_levelPay 6 (some .int) ∈ am_tb := am_tb7 (i := 60) rfl rfl
theorem wy_yX12_binds : am_yok yX12_binds 1 = true := by decide +kernel
set_option maxRecDepth 100000 in
theorem wl_M_305 : Cond.methodLink "ShareHouseModel" 305 yX12_binds ∈ am_tb := am_tb7 (i := 69) rfl rfl
set_option maxRecDepth 100000 in
theorem wi_yX12_binds : Cond.instanceMethod yX12_binds ∈ am_tb := am_tb7 (i := 71) rfl rfl
set_option maxRecDepth 100000 in
theorem we_yX12_binds : Cond.selects yX12_binds.cls yX12_binds yX12_binds ∈ am_tb := am_tbP (i := 70) (q := (yX12_binds, 30)) rfl
set_option maxRecDepth 100000 in
theorem wc_yX12_binds : Cond.code yX12_binds cX12_binds 3 (some .int) ∈ am_tb := am_tb7 (i := 72) rfl rfl
theorem wy_yX12_ones : am_yok yX12_ones 1 = true := by decide +kernel
set_option maxRecDepth 100000 in
theorem wl_M_308 : Cond.methodLink "ShareHouseModel" 308 yX12_ones ∈ am_tb := am_tb7 (i := 81) rfl rfl
set_option maxRecDepth 100000 in
theorem ws_yX12_ones : Cond.static yX12_ones ∈ am_tb := am_tb7 (i := 82) rfl rfl
set_option maxRecDepth 100000 in
theorem wc_yX12_ones : Cond.code yX12_ones cX12_ones 3 (some .int) ∈ am_tb := am_tb7 (i := 83) rfl rfl
theorem wy_yX12_isCell : am_yok yX12_isCell 2 = true := by decide +kernel
set_option maxRecDepth 100000 in
theorem wl_M_314 : Cond.methodLink "ShareHouseModel" 314 yX12_isCell ∈ am_tb := am_tb7 (i := 88) rfl rfl
set_option maxRecDepth 100000 in
theorem wi_yX12_isCell : Cond.instanceMethod yX12_isCell ∈ am_tb := am_tb7 (i := 90) rfl rfl
set_option maxRecDepth 100000 in
theorem we_yX12_isCell : Cond.selects yX12_isCell.cls yX12_isCell yX12_isCell ∈ am_tb := am_tbP (i := 71) (q := (yX12_isCell, 30)) rfl
set_option maxRecDepth 100000 in
theorem wc_yX12_isCell : Cond.code yX12_isCell cX12_isCell 3 (some .boolean) ∈ am_tb := am_tb7 (i := 91) rfl rfl
theorem wy_yX11_flat : am_yok yX11_flat 3 = true := by decide +kernel
set_option maxRecDepth 100000 in
theorem wl_L_13 : Cond.methodLink "ShareHouseLaw" 13 yX11_flat ∈ am_tb := am_tb2 (i := 205) rfl rfl
set_option maxRecDepth 100000 in
theorem wi_yX11_flat : Cond.instanceMethod yX11_flat ∈ am_tb := am_tb2 (i := 206) rfl rfl
set_option maxRecDepth 100000 in
theorem we_yX11_flat : Cond.selects yX11_flat.cls yX11_flat yX11_flat ∈ am_tb := am_tb2 (i := 207) rfl rfl
set_option maxRecDepth 100000 in
theorem wc_yX11_flat : Cond.code yX11_flat cX11_flat 4 (some .int) ∈ am_tb := am_tb2 (i := 208) rfl rfl
theorem wy_yX12_flat : am_yok yX12_flat 3 = true := by decide +kernel
set_option maxRecDepth 100000 in
theorem wl_L_17 : Cond.methodLink "ShareHouseLaw" 17 yX12_flat ∈ am_tb := am_tb5 (i := 220) rfl rfl
set_option maxRecDepth 100000 in
theorem wi_yX12_flat : Cond.instanceMethod yX12_flat ∈ am_tb := am_tb5 (i := 221) rfl rfl
set_option maxRecDepth 100000 in
theorem we_yX12_flat : Cond.selects yX12_flat.cls yX12_flat yX12_flat ∈ am_tb := am_tb5 (i := 222) rfl rfl
set_option maxRecDepth 100000 in
theorem wc_yX12_flat : Cond.code yX12_flat cX12_flat 5 (some .int) ∈ am_tb := am_tb5 (i := 223) rfl rfl
theorem wy_yX11_days : am_yok yX11_days 1 = true := by decide +kernel
set_option maxRecDepth 100000 in
theorem wl_L_18 : Cond.methodLink "ShareHouseLaw" 18 yX11_days ∈ am_tb := am_tb2 (i := 216) rfl rfl
set_option maxRecDepth 100000 in
theorem wi_yX11_days : Cond.instanceMethod yX11_days ∈ am_tb := am_tb2 (i := 217) rfl rfl
set_option maxRecDepth 100000 in
theorem we_yX11_days : Cond.selects yX11_days.cls yX11_days yX11_days ∈ am_tb := am_tb2 (i := 218) rfl rfl
set_option maxRecDepth 100000 in
theorem wc_yX11_days : Cond.code yX11_days cX11_days 2 (some .int) ∈ am_tb := am_tb2 (i := 219) rfl rfl
theorem wy_yX12_days : am_yok yX12_days 1 = true := by decide +kernel
set_option maxRecDepth 100000 in
theorem wl_L_22 : Cond.methodLink "ShareHouseLaw" 22 yX12_days ∈ am_tb := am_tb5 (i := 227) rfl rfl
set_option maxRecDepth 100000 in
theorem wi_yX12_days : Cond.instanceMethod yX12_days ∈ am_tb := am_tb5 (i := 228) rfl rfl
set_option maxRecDepth 100000 in
theorem we_yX12_days : Cond.selects yX12_days.cls yX12_days yX12_days ∈ am_tb := am_tb5 (i := 229) rfl rfl
set_option maxRecDepth 100000 in
theorem wc_yX12_days : Cond.code yX12_days cX12_days 2 (some .int) ∈ am_tb := am_tb5 (i := 230) rfl rfl
theorem wy_yX11_feed : am_yok yX11_feed 2 = true := by decide +kernel
set_option maxRecDepth 100000 in
theorem wl_L_25 : Cond.methodLink "ShareHouseLaw" 25 yX11_feed ∈ am_tb := am_tb2 (i := 220) rfl rfl
set_option maxRecDepth 100000 in
theorem wi_yX11_feed : Cond.instanceMethod yX11_feed ∈ am_tb := am_tb2 (i := 221) rfl rfl
set_option maxRecDepth 100000 in
theorem we_yX11_feed : Cond.selects yX11_feed.cls yX11_feed yX11_feed ∈ am_tb := am_tb2 (i := 222) rfl rfl
set_option maxRecDepth 100000 in
theorem wc_yX11_feed : Cond.code yX11_feed cX11_feed 4 (some .int) ∈ am_tb := am_tb2 (i := 223) rfl rfl
theorem wy_yX12_feed : am_yok yX12_feed 2 = true := by decide +kernel
set_option maxRecDepth 100000 in
theorem wl_L_29 : Cond.methodLink "ShareHouseLaw" 29 yX12_feed ∈ am_tb := am_tb5 (i := 231) rfl rfl
set_option maxRecDepth 100000 in
theorem wi_yX12_feed : Cond.instanceMethod yX12_feed ∈ am_tb := am_tb5 (i := 232) rfl rfl
set_option maxRecDepth 100000 in
theorem we_yX12_feed : Cond.selects yX12_feed.cls yX12_feed yX12_feed ∈ am_tb := am_tb5 (i := 233) rfl rfl
set_option maxRecDepth 100000 in
theorem wc_yX12_feed : Cond.code yX12_feed cX12_feed 5 (some .int) ∈ am_tb := am_tb5 (i := 234) rfl rfl
theorem wy_yX11_lease : am_yok yX11_lease 1 = true := by decide +kernel
set_option maxRecDepth 100000 in
theorem wl_L_30 : Cond.methodLink "ShareHouseLaw" 30 yX11_lease ∈ am_tb := am_tb2 (i := 232) rfl rfl
set_option maxRecDepth 100000 in
theorem wi_yX11_lease : Cond.instanceMethod yX11_lease ∈ am_tb := am_tb2 (i := 233) rfl rfl
set_option maxRecDepth 100000 in
theorem we_yX11_lease : Cond.selects yX11_lease.cls yX11_lease yX11_lease ∈ am_tb := am_tb2 (i := 234) rfl rfl
set_option maxRecDepth 100000 in
theorem wc_yX11_lease : Cond.code yX11_lease cX11_lease 3 (some .int) ∈ am_tb := am_tb2 (i := 235) rfl rfl
theorem wy_yX12_lease : am_yok yX12_lease 1 = true := by decide +kernel
set_option maxRecDepth 100000 in
theorem wl_L_33 : Cond.methodLink "ShareHouseLaw" 33 yX12_lease ∈ am_tb := am_tb5 (i := 236) rfl rfl
set_option maxRecDepth 100000 in
theorem wi_yX12_lease : Cond.instanceMethod yX12_lease ∈ am_tb := am_tb5 (i := 237) rfl rfl
set_option maxRecDepth 100000 in
theorem we_yX12_lease : Cond.selects yX12_lease.cls yX12_lease yX12_lease ∈ am_tb := am_tb5 (i := 238) rfl rfl
set_option maxRecDepth 100000 in
theorem wc_yX12_lease : Cond.code yX12_lease cX12_lease 3 (some .int) ∈ am_tb := am_tb5 (i := 239) rfl rfl
theorem wy_yX11_clause : am_yok yX11_clause 3 = true := by decide +kernel
set_option maxRecDepth 100000 in
theorem wl_L_34 : Cond.methodLink "ShareHouseLaw" 34 yX11_clause ∈ am_tb := am_tb3 (i := 149) rfl rfl
set_option maxRecDepth 100000 in
theorem wi_yX11_clause : Cond.instanceMethod yX11_clause ∈ am_tb := am_tb3 (i := 150) rfl rfl
set_option maxRecDepth 100000 in
theorem we_yX11_clause : Cond.selects yX11_clause.cls yX11_clause yX11_clause ∈ am_tb := am_tb3 (i := 151) rfl rfl
set_option maxRecDepth 100000 in
theorem wc_yX11_clause : Cond.code yX11_clause cX11_clause 5 (some .int) ∈ am_tb := am_tb3 (i := 152) rfl rfl
theorem wy_yX12_clause : am_yok yX12_clause 3 = true := by decide +kernel
set_option maxRecDepth 100000 in
theorem wl_L_38 : Cond.methodLink "ShareHouseLaw" 38 yX12_clause ∈ am_tb := am_tb6 (i := 88) rfl rfl
set_option maxRecDepth 100000 in
theorem wi_yX12_clause : Cond.instanceMethod yX12_clause ∈ am_tb := am_tb6 (i := 89) rfl rfl
set_option maxRecDepth 100000 in
theorem we_yX12_clause : Cond.selects yX12_clause.cls yX12_clause yX12_clause ∈ am_tb := am_tb6 (i := 90) rfl rfl
set_option maxRecDepth 100000 in
theorem wc_yX12_clause : Cond.code yX12_clause cX12_clause 4 (some .int) ∈ am_tb := am_tb6 (i := 91) rfl rfl
theorem wy_yX11_share : am_yok yX11_share 3 = true := by decide +kernel
set_option maxRecDepth 100000 in
theorem wl_L_39 : Cond.methodLink "ShareHouseLaw" 39 yX11_share ∈ am_tb := am_tb3 (i := 157) rfl rfl
set_option maxRecDepth 100000 in
theorem wi_yX11_share : Cond.instanceMethod yX11_share ∈ am_tb := am_tb3 (i := 158) rfl rfl
set_option maxRecDepth 100000 in
theorem we_yX11_share : Cond.selects yX11_share.cls yX11_share yX11_share ∈ am_tb := am_tb3 (i := 159) rfl rfl
set_option maxRecDepth 100000 in
theorem wc_yX11_share : Cond.code yX11_share cX11_share 4 (some .int) ∈ am_tb := am_tb3 (i := 160) rfl rfl
theorem wy_yX12_share : am_yok yX12_share 3 = true := by decide +kernel
set_option maxRecDepth 100000 in
theorem wl_L_42 : Cond.methodLink "ShareHouseLaw" 42 yX12_share ∈ am_tb := am_tb6 (i := 96) rfl rfl
set_option maxRecDepth 100000 in
theorem wi_yX12_share : Cond.instanceMethod yX12_share ∈ am_tb := am_tb6 (i := 97) rfl rfl
set_option maxRecDepth 100000 in
theorem we_yX12_share : Cond.selects yX12_share.cls yX12_share yX12_share ∈ am_tb := am_tb6 (i := 98) rfl rfl
set_option maxRecDepth 100000 in
theorem wc_yX12_share : Cond.code yX12_share cX12_share 4 (some .int) ∈ am_tb := am_tb6 (i := 99) rfl rfl
theorem wy_yX11_sum : am_yok yX11_sum 2 = true := by decide +kernel
set_option maxRecDepth 100000 in
theorem wl_L_43 : Cond.methodLink "ShareHouseLaw" 43 yX11_sum ∈ am_tb := am_tb3 (i := 196) rfl rfl
set_option maxRecDepth 100000 in
theorem wi_yX11_sum : Cond.instanceMethod yX11_sum ∈ am_tb := am_tb3 (i := 197) rfl rfl
set_option maxRecDepth 100000 in
theorem we_yX11_sum : Cond.selects yX11_sum.cls yX11_sum yX11_sum ∈ am_tb := am_tb3 (i := 198) rfl rfl
set_option maxRecDepth 100000 in
theorem wc_yX11_sum : Cond.code yX11_sum cX11_sum 5 (some .long) ∈ am_tb := am_tb3 (i := 199) rfl rfl
theorem wy_yX12_sum : am_yok yX12_sum 2 = true := by decide +kernel
set_option maxRecDepth 100000 in
theorem wl_L_47 : Cond.methodLink "ShareHouseLaw" 47 yX12_sum ∈ am_tb := am_tb6 (i := 114) rfl rfl
set_option maxRecDepth 100000 in
theorem wi_yX12_sum : Cond.instanceMethod yX12_sum ∈ am_tb := am_tb6 (i := 115) rfl rfl
set_option maxRecDepth 100000 in
theorem we_yX12_sum : Cond.selects yX12_sum.cls yX12_sum yX12_sum ∈ am_tb := am_tb6 (i := 116) rfl rfl
set_option maxRecDepth 100000 in
theorem wc_yX12_sum : Cond.code yX12_sum cX12_sum 5 (some .long) ∈ am_tb := am_tb6 (i := 117) rfl rfl
theorem wy_yX11_law : am_yok yX11_law 2 = true := by decide +kernel
set_option maxRecDepth 100000 in
theorem wl_L_48 : Cond.methodLink "ShareHouseLaw" 48 yX11_law ∈ am_tb := am_tb3 (i := 203) rfl rfl
set_option maxRecDepth 100000 in
theorem wi_yX11_law : Cond.instanceMethod yX11_law ∈ am_tb := am_tb3 (i := 204) rfl rfl
set_option maxRecDepth 100000 in
theorem we_yX11_law : Cond.selects yX11_law.cls yX11_law yX11_law ∈ am_tb := am_tb3 (i := 205) rfl rfl
set_option maxRecDepth 100000 in
theorem wc_yX11_law : Cond.code yX11_law cX11_law 4 (some .int) ∈ am_tb := am_tb3 (i := 206) rfl rfl
theorem wy_yX12_law : am_yok yX12_law 2 = true := by decide +kernel
set_option maxRecDepth 100000 in
theorem wl_L_52 : Cond.methodLink "ShareHouseLaw" 52 yX12_law ∈ am_tb := am_tb6 (i := 123) rfl rfl
set_option maxRecDepth 100000 in
theorem wi_yX12_law : Cond.instanceMethod yX12_law ∈ am_tb := am_tb6 (i := 124) rfl rfl
set_option maxRecDepth 100000 in
theorem we_yX12_law : Cond.selects yX12_law.cls yX12_law yX12_law ∈ am_tb := am_tb6 (i := 125) rfl rfl
set_option maxRecDepth 100000 in
theorem wc_yX12_law : Cond.code yX12_law cX12_law 4 (some .int) ∈ am_tb := am_tb6 (i := 126) rfl rfl
theorem wy_yX11_rule : am_yok yX11_rule 2 = true := by decide +kernel
set_option maxRecDepth 100000 in
theorem wl_L_53 : Cond.methodLink "ShareHouseLaw" 53 yX11_rule ∈ am_tb := am_tb3 (i := 207) rfl rfl
set_option maxRecDepth 100000 in
theorem wi_yX11_rule : Cond.instanceMethod yX11_rule ∈ am_tb := am_tb3 (i := 208) rfl rfl
set_option maxRecDepth 100000 in
theorem we_yX11_rule : Cond.selects yX11_rule.cls yX11_rule yX11_rule ∈ am_tb := am_tb3 (i := 209) rfl rfl
set_option maxRecDepth 100000 in
theorem wc_yX11_rule : Cond.code yX11_rule cX11_rule 4 (some .int) ∈ am_tb := am_tb3 (i := 210) rfl rfl
theorem wy_yX12_rule : am_yok yX12_rule 2 = true := by decide +kernel
set_option maxRecDepth 100000 in
theorem wl_L_56 : Cond.methodLink "ShareHouseLaw" 56 yX12_rule ∈ am_tb := am_tb6 (i := 127) rfl rfl
set_option maxRecDepth 100000 in
theorem wi_yX12_rule : Cond.instanceMethod yX12_rule ∈ am_tb := am_tb6 (i := 128) rfl rfl
set_option maxRecDepth 100000 in
theorem we_yX12_rule : Cond.selects yX12_rule.cls yX12_rule yX12_rule ∈ am_tb := am_tb6 (i := 129) rfl rfl
set_option maxRecDepth 100000 in
theorem wc_yX12_rule : Cond.code yX12_rule cX12_rule 4 (some .int) ∈ am_tb := am_tb6 (i := 130) rfl rfl
theorem wy_yX11_cost : am_yok yX11_cost 3 = true := by decide +kernel
set_option maxRecDepth 100000 in
theorem wl_L_57 : Cond.methodLink "ShareHouseLaw" 57 yX11_cost ∈ am_tb := am_tb3 (i := 213) rfl rfl
set_option maxRecDepth 100000 in
theorem wi_yX11_cost : Cond.instanceMethod yX11_cost ∈ am_tb := am_tb3 (i := 214) rfl rfl
set_option maxRecDepth 100000 in
theorem we_yX11_cost : Cond.selects yX11_cost.cls yX11_cost yX11_cost ∈ am_tb := am_tb3 (i := 215) rfl rfl
set_option maxRecDepth 100000 in
theorem wc_yX11_cost : Cond.code yX11_cost cX11_cost 4 (some .int) ∈ am_tb := am_tb3 (i := 216) rfl rfl
theorem wy_yX12_cost : am_yok yX12_cost 3 = true := by decide +kernel
set_option maxRecDepth 100000 in
theorem wl_L_60 : Cond.methodLink "ShareHouseLaw" 60 yX12_cost ∈ am_tb := am_tb6 (i := 135) rfl rfl
set_option maxRecDepth 100000 in
theorem wi_yX12_cost : Cond.instanceMethod yX12_cost ∈ am_tb := am_tb6 (i := 136) rfl rfl
set_option maxRecDepth 100000 in
theorem we_yX12_cost : Cond.selects yX12_cost.cls yX12_cost yX12_cost ∈ am_tb := am_tb6 (i := 137) rfl rfl
set_option maxRecDepth 100000 in
theorem wc_yX12_cost : Cond.code yX12_cost cX12_cost 4 (some .int) ∈ am_tb := am_tb6 (i := 138) rfl rfl
theorem wy_yX11_right : am_yok yX11_right 2 = true := by decide +kernel
set_option maxRecDepth 100000 in
theorem wl_L_61 : Cond.methodLink "ShareHouseLaw" 61 yX11_right ∈ am_tb := am_tb3 (i := 226) rfl rfl
set_option maxRecDepth 100000 in
theorem wi_yX11_right : Cond.instanceMethod yX11_right ∈ am_tb := am_tb3 (i := 227) rfl rfl
set_option maxRecDepth 100000 in
theorem we_yX11_right : Cond.selects yX11_right.cls yX11_right yX11_right ∈ am_tb := am_tb3 (i := 228) rfl rfl
set_option maxRecDepth 100000 in
theorem wc_yX11_right : Cond.code yX11_right cX11_right 5 (some .int) ∈ am_tb := am_tb3 (i := 229) rfl rfl
theorem wy_yX12_right : am_yok yX12_right 2 = true := by decide +kernel
set_option maxRecDepth 100000 in
theorem wl_L_64 : Cond.methodLink "ShareHouseLaw" 64 yX12_right ∈ am_tb := am_tb6 (i := 147) rfl rfl
set_option maxRecDepth 100000 in
theorem wi_yX12_right : Cond.instanceMethod yX12_right ∈ am_tb := am_tb6 (i := 148) rfl rfl
set_option maxRecDepth 100000 in
theorem we_yX12_right : Cond.selects yX12_right.cls yX12_right yX12_right ∈ am_tb := am_tb6 (i := 149) rfl rfl
set_option maxRecDepth 100000 in
theorem wc_yX12_right : Cond.code yX12_right cX12_right 4 (some .int) ∈ am_tb := am_tb6 (i := 150) rfl rfl
theorem wy_yX11_costOf : am_yok yX11_costOf 2 = true := by decide +kernel
set_option maxRecDepth 100000 in
theorem wl_L_65 : Cond.methodLink "ShareHouseLaw" 65 yX11_costOf ∈ am_tb := am_tb4 (i := 7) rfl rfl
set_option maxRecDepth 100000 in
theorem wi_yX11_costOf : Cond.instanceMethod yX11_costOf ∈ am_tb := am_tb4 (i := 8) rfl rfl
set_option maxRecDepth 100000 in
theorem we_yX11_costOf : Cond.selects yX11_costOf.cls yX11_costOf yX11_costOf ∈ am_tb := am_tb4 (i := 9) rfl rfl
set_option maxRecDepth 100000 in
theorem wc_yX11_costOf : Cond.code yX11_costOf cX11_costOf 4 (some .int) ∈ am_tb := am_tb4 (i := 10) rfl rfl
theorem wy_yX12_costOf : am_yok yX12_costOf 2 = true := by decide +kernel
set_option maxRecDepth 100000 in
theorem wl_L_68 : Cond.methodLink "ShareHouseLaw" 68 yX12_costOf ∈ am_tb := am_tb6 (i := 171) rfl rfl
set_option maxRecDepth 100000 in
theorem wi_yX12_costOf : Cond.instanceMethod yX12_costOf ∈ am_tb := am_tb6 (i := 172) rfl rfl
set_option maxRecDepth 100000 in
theorem we_yX12_costOf : Cond.selects yX12_costOf.cls yX12_costOf yX12_costOf ∈ am_tb := am_tb6 (i := 173) rfl rfl
set_option maxRecDepth 100000 in
theorem wc_yX12_costOf : Cond.code yX12_costOf cX12_costOf 5 (some .int) ∈ am_tb := am_tb6 (i := 174) rfl rfl
theorem wy_yX11_part : am_yok yX11_part 3 = true := by decide +kernel
set_option maxRecDepth 100000 in
theorem wl_L_69 : Cond.methodLink "ShareHouseLaw" 69 yX11_part ∈ am_tb := am_tb4 (i := 21) rfl rfl
set_option maxRecDepth 100000 in
theorem wi_yX11_part : Cond.instanceMethod yX11_part ∈ am_tb := am_tb4 (i := 22) rfl rfl
set_option maxRecDepth 100000 in
theorem we_yX11_part : Cond.selects yX11_part.cls yX11_part yX11_part ∈ am_tb := am_tb4 (i := 23) rfl rfl
set_option maxRecDepth 100000 in
theorem wc_yX11_part : Cond.code yX11_part cX11_part 4 (some .int) ∈ am_tb := am_tb4 (i := 24) rfl rfl
theorem wy_yX12_part : am_yok yX12_part 3 = true := by decide +kernel
set_option maxRecDepth 100000 in
theorem wl_L_72 : Cond.methodLink "ShareHouseLaw" 72 yX12_part ∈ am_tb := am_tb6 (i := 179) rfl rfl
set_option maxRecDepth 100000 in
theorem wi_yX12_part : Cond.instanceMethod yX12_part ∈ am_tb := am_tb6 (i := 180) rfl rfl
set_option maxRecDepth 100000 in
theorem we_yX12_part : Cond.selects yX12_part.cls yX12_part yX12_part ∈ am_tb := am_tb6 (i := 181) rfl rfl
set_option maxRecDepth 100000 in
theorem wc_yX12_part : Cond.code yX12_part cX12_part 4 (some .int) ∈ am_tb := am_tb6 (i := 182) rfl rfl
theorem wy_yX11_landlord : am_yok yX11_landlord 2 = true := by decide +kernel
set_option maxRecDepth 100000 in
theorem wl_L_73 : Cond.methodLink "ShareHouseLaw" 73 yX11_landlord ∈ am_tb := am_tb4 (i := 49) rfl rfl
set_option maxRecDepth 100000 in
theorem wi_yX11_landlord : Cond.instanceMethod yX11_landlord ∈ am_tb := am_tb4 (i := 50) rfl rfl
set_option maxRecDepth 100000 in
theorem we_yX11_landlord : Cond.selects yX11_landlord.cls yX11_landlord yX11_landlord ∈ am_tb := am_tb4 (i := 51) rfl rfl
set_option maxRecDepth 100000 in
theorem wc_yX11_landlord : Cond.code yX11_landlord cX11_landlord 3 (some .int) ∈ am_tb := am_tb4 (i := 52) rfl rfl
theorem wy_yX12_landlord : am_yok yX12_landlord 2 = true := by decide +kernel
set_option maxRecDepth 100000 in
theorem wl_L_76 : Cond.methodLink "ShareHouseLaw" 76 yX12_landlord ∈ am_tb := am_tb6 (i := 192) rfl rfl
set_option maxRecDepth 100000 in
theorem wi_yX12_landlord : Cond.instanceMethod yX12_landlord ∈ am_tb := am_tb6 (i := 193) rfl rfl
set_option maxRecDepth 100000 in
theorem we_yX12_landlord : Cond.selects yX12_landlord.cls yX12_landlord yX12_landlord ∈ am_tb := am_tb6 (i := 194) rfl rfl
set_option maxRecDepth 100000 in
theorem wc_yX12_landlord : Cond.code yX12_landlord cX12_landlord 3 (some .int) ∈ am_tb := am_tb6 (i := 195) rfl rfl
theorem wy_yX11_sell : am_yok yX11_sell 3 = true := by decide +kernel
set_option maxRecDepth 100000 in
theorem wl_L_77 : Cond.methodLink "ShareHouseLaw" 77 yX11_sell ∈ am_tb := am_tb4 (i := 55) rfl rfl
set_option maxRecDepth 100000 in
theorem wi_yX11_sell : Cond.instanceMethod yX11_sell ∈ am_tb := am_tb4 (i := 56) rfl rfl
set_option maxRecDepth 100000 in
theorem we_yX11_sell : Cond.selects yX11_sell.cls yX11_sell yX11_sell ∈ am_tb := am_tb4 (i := 57) rfl rfl
set_option maxRecDepth 100000 in
theorem wc_yX11_sell : Cond.code yX11_sell cX11_sell 4 (some .int) ∈ am_tb := am_tb4 (i := 58) rfl rfl
theorem wy_yX12_sell : am_yok yX12_sell 3 = true := by decide +kernel
set_option maxRecDepth 100000 in
theorem wl_L_80 : Cond.methodLink "ShareHouseLaw" 80 yX12_sell ∈ am_tb := am_tb6 (i := 197) rfl rfl
set_option maxRecDepth 100000 in
theorem wi_yX12_sell : Cond.instanceMethod yX12_sell ∈ am_tb := am_tb6 (i := 198) rfl rfl
set_option maxRecDepth 100000 in
theorem we_yX12_sell : Cond.selects yX12_sell.cls yX12_sell yX12_sell ∈ am_tb := am_tb6 (i := 199) rfl rfl
set_option maxRecDepth 100000 in
theorem wc_yX12_sell : Cond.code yX12_sell cX12_sell 5 (some .int) ∈ am_tb := am_tb6 (i := 200) rfl rfl
theorem wy_yX11_owner : am_yok yX11_owner 2 = true := by decide +kernel
set_option maxRecDepth 100000 in
theorem wl_L_81 : Cond.methodLink "ShareHouseLaw" 81 yX11_owner ∈ am_tb := am_tb4 (i := 66) rfl rfl
set_option maxRecDepth 100000 in
theorem wi_yX11_owner : Cond.instanceMethod yX11_owner ∈ am_tb := am_tb4 (i := 67) rfl rfl
set_option maxRecDepth 100000 in
theorem we_yX11_owner : Cond.selects yX11_owner.cls yX11_owner yX11_owner ∈ am_tb := am_tb4 (i := 68) rfl rfl
set_option maxRecDepth 100000 in
theorem wc_yX11_owner : Cond.code yX11_owner cX11_owner 3 (some .int) ∈ am_tb := am_tb4 (i := 69) rfl rfl
theorem wy_yX12_owner : am_yok yX12_owner 2 = true := by decide +kernel
set_option maxRecDepth 100000 in
theorem wl_L_84 : Cond.methodLink "ShareHouseLaw" 84 yX12_owner ∈ am_tb := am_tb6 (i := 204) rfl rfl
set_option maxRecDepth 100000 in
theorem wi_yX12_owner : Cond.instanceMethod yX12_owner ∈ am_tb := am_tb6 (i := 205) rfl rfl
set_option maxRecDepth 100000 in
theorem we_yX12_owner : Cond.selects yX12_owner.cls yX12_owner yX12_owner ∈ am_tb := am_tb6 (i := 206) rfl rfl
set_option maxRecDepth 100000 in
theorem wc_yX12_owner : Cond.code yX12_owner cX12_owner 3 (some .int) ∈ am_tb := am_tb6 (i := 207) rfl rfl
theorem wy_yX11_pay : am_yok yX11_pay 2 = true := by decide +kernel
set_option maxRecDepth 100000 in
theorem wl_L_85 : Cond.methodLink "ShareHouseLaw" 85 yX11_pay ∈ am_tb := am_tb4 (i := 75) rfl rfl
set_option maxRecDepth 100000 in
theorem wi_yX11_pay : Cond.instanceMethod yX11_pay ∈ am_tb := am_tb4 (i := 76) rfl rfl
set_option maxRecDepth 100000 in
theorem we_yX11_pay : Cond.selects yX11_pay.cls yX11_pay yX11_pay ∈ am_tb := am_tb4 (i := 77) rfl rfl
set_option maxRecDepth 100000 in
theorem wc_yX11_pay : Cond.code yX11_pay cX11_pay 3 (some .int) ∈ am_tb := am_tb4 (i := 78) rfl rfl
theorem wy_yX12_pay : am_yok yX12_pay 2 = true := by decide +kernel
set_option maxRecDepth 100000 in
theorem wl_L_88 : Cond.methodLink "ShareHouseLaw" 88 yX12_pay ∈ am_tb := am_tb6 (i := 212) rfl rfl
set_option maxRecDepth 100000 in
theorem wi_yX12_pay : Cond.instanceMethod yX12_pay ∈ am_tb := am_tb6 (i := 213) rfl rfl
set_option maxRecDepth 100000 in
theorem we_yX12_pay : Cond.selects yX12_pay.cls yX12_pay yX12_pay ∈ am_tb := am_tb6 (i := 214) rfl rfl
set_option maxRecDepth 100000 in
theorem wc_yX12_pay : Cond.code yX12_pay cX12_pay 4 (some .int) ∈ am_tb := am_tb6 (i := 215) rfl rfl
theorem wy_yX11_account : am_yok yX11_account 3 = true := by decide +kernel
set_option maxRecDepth 100000 in
theorem wl_L_89 : Cond.methodLink "ShareHouseLaw" 89 yX11_account ∈ am_tb := am_tb4 (i := 83) rfl rfl
set_option maxRecDepth 100000 in
theorem wi_yX11_account : Cond.instanceMethod yX11_account ∈ am_tb := am_tb4 (i := 84) rfl rfl
set_option maxRecDepth 100000 in
theorem we_yX11_account : Cond.selects yX11_account.cls yX11_account yX11_account ∈ am_tb := am_tb4 (i := 85) rfl rfl
set_option maxRecDepth 100000 in
theorem wc_yX11_account : Cond.code yX11_account cX11_account 4 (some .int) ∈ am_tb := am_tb4 (i := 86) rfl rfl
theorem wy_yX12_account : am_yok yX12_account 3 = true := by decide +kernel
set_option maxRecDepth 100000 in
theorem wl_L_92 : Cond.methodLink "ShareHouseLaw" 92 yX12_account ∈ am_tb := am_tb6 (i := 216) rfl rfl
set_option maxRecDepth 100000 in
theorem wi_yX12_account : Cond.instanceMethod yX12_account ∈ am_tb := am_tb6 (i := 217) rfl rfl
set_option maxRecDepth 100000 in
theorem we_yX12_account : Cond.selects yX12_account.cls yX12_account yX12_account ∈ am_tb := am_tb6 (i := 218) rfl rfl
set_option maxRecDepth 100000 in
theorem wc_yX12_account : Cond.code yX12_account cX12_account 5 (some .int) ∈ am_tb := am_tb6 (i := 219) rfl rfl
theorem wy_yX11_asked : am_yok yX11_asked 2 = true := by decide +kernel
set_option maxRecDepth 100000 in
theorem wl_L_93 : Cond.methodLink "ShareHouseLaw" 93 yX11_asked ∈ am_tb := am_tb4 (i := 128) rfl rfl
set_option maxRecDepth 100000 in
theorem wi_yX11_asked : Cond.instanceMethod yX11_asked ∈ am_tb := am_tb4 (i := 129) rfl rfl
set_option maxRecDepth 100000 in
theorem we_yX11_asked : Cond.selects yX11_asked.cls yX11_asked yX11_asked ∈ am_tb := am_tb4 (i := 130) rfl rfl
set_option maxRecDepth 100000 in
theorem wc_yX11_asked : Cond.code yX11_asked cX11_asked 3 (some .int) ∈ am_tb := am_tb4 (i := 131) rfl rfl
theorem wy_yX12_asked : am_yok yX12_asked 2 = true := by decide +kernel
set_option maxRecDepth 100000 in
theorem wl_L_96 : Cond.methodLink "ShareHouseLaw" 96 yX12_asked ∈ am_tb := am_tb6 (i := 233) rfl rfl
set_option maxRecDepth 100000 in
theorem wi_yX12_asked : Cond.instanceMethod yX12_asked ∈ am_tb := am_tb6 (i := 234) rfl rfl
set_option maxRecDepth 100000 in
theorem we_yX12_asked : Cond.selects yX12_asked.cls yX12_asked yX12_asked ∈ am_tb := am_tb6 (i := 235) rfl rfl
set_option maxRecDepth 100000 in
theorem wc_yX12_asked : Cond.code yX12_asked cX12_asked 6 (some .int) ∈ am_tb := am_tb6 (i := 236) rfl rfl
theorem wy_yX11_work : am_yok yX11_work 2 = true := by decide +kernel
set_option maxRecDepth 100000 in
theorem wl_L_97 : Cond.methodLink "ShareHouseLaw" 97 yX11_work ∈ am_tb := am_tb4 (i := 142) rfl rfl
set_option maxRecDepth 100000 in
theorem wi_yX11_work : Cond.instanceMethod yX11_work ∈ am_tb := am_tb4 (i := 143) rfl rfl
set_option maxRecDepth 100000 in
theorem we_yX11_work : Cond.selects yX11_work.cls yX11_work yX11_work ∈ am_tb := am_tb4 (i := 144) rfl rfl
set_option maxRecDepth 100000 in
theorem wc_yX11_work : Cond.code yX11_work cX11_work 3 (some .int) ∈ am_tb := am_tb4 (i := 145) rfl rfl
theorem wy_yX12_work : am_yok yX12_work 2 = true := by decide +kernel
set_option maxRecDepth 100000 in
theorem wl_L_100 : Cond.methodLink "ShareHouseLaw" 100 yX12_work ∈ am_tb := am_tb6 (i := 237) rfl rfl
set_option maxRecDepth 100000 in
theorem wi_yX12_work : Cond.instanceMethod yX12_work ∈ am_tb := am_tb6 (i := 238) rfl rfl
set_option maxRecDepth 100000 in
theorem we_yX12_work : Cond.selects yX12_work.cls yX12_work yX12_work ∈ am_tb := am_tb6 (i := 239) rfl rfl
set_option maxRecDepth 100000 in
theorem wc_yX12_work : Cond.code yX12_work cX12_work 5 (some .int) ∈ am_tb := am_tb7 (i := 0) rfl rfl
theorem wy_yX11_letter : am_yok yX11_letter 1 = true := by decide +kernel
set_option maxRecDepth 100000 in
theorem wl_L_101 : Cond.methodLink "ShareHouseLaw" 101 yX11_letter ∈ am_tb := am_tb4 (i := 150) rfl rfl
set_option maxRecDepth 100000 in
theorem wi_yX11_letter : Cond.instanceMethod yX11_letter ∈ am_tb := am_tb4 (i := 151) rfl rfl
set_option maxRecDepth 100000 in
theorem we_yX11_letter : Cond.selects yX11_letter.cls yX11_letter yX11_letter ∈ am_tb := am_tb4 (i := 152) rfl rfl
set_option maxRecDepth 100000 in
theorem wc_yX11_letter : Cond.code yX11_letter cX11_letter 2 (some .int) ∈ am_tb := am_tb4 (i := 153) rfl rfl
theorem wy_yX12_letter : am_yok yX12_letter 1 = true := by decide +kernel
set_option maxRecDepth 100000 in
theorem wl_L_104 : Cond.methodLink "ShareHouseLaw" 104 yX12_letter ∈ am_tb := am_tb7 (i := 1) rfl rfl
set_option maxRecDepth 100000 in
theorem wi_yX12_letter : Cond.instanceMethod yX12_letter ∈ am_tb := am_tb7 (i := 2) rfl rfl
set_option maxRecDepth 100000 in
theorem we_yX12_letter : Cond.selects yX12_letter.cls yX12_letter yX12_letter ∈ am_tb := am_tb7 (i := 3) rfl rfl
set_option maxRecDepth 100000 in
theorem wc_yX12_letter : Cond.code yX12_letter cX12_letter 3 (some .int) ∈ am_tb := am_tb7 (i := 4) rfl rfl
theorem wy_yX11_price : am_yok yX11_price 2 = true := by decide +kernel
set_option maxRecDepth 100000 in
theorem wl_L_105 : Cond.methodLink "ShareHouseLaw" 105 yX11_price ∈ am_tb := am_tb4 (i := 163) rfl rfl
set_option maxRecDepth 100000 in
theorem wi_yX11_price : Cond.instanceMethod yX11_price ∈ am_tb := am_tb4 (i := 164) rfl rfl
set_option maxRecDepth 100000 in
theorem we_yX11_price : Cond.selects yX11_price.cls yX11_price yX11_price ∈ am_tb := am_tb4 (i := 165) rfl rfl
set_option maxRecDepth 100000 in
theorem wc_yX11_price : Cond.code yX11_price cX11_price 3 (some .int) ∈ am_tb := am_tb4 (i := 166) rfl rfl
theorem wy_yX12_price : am_yok yX12_price 2 = true := by decide +kernel
set_option maxRecDepth 100000 in
theorem wl_L_108 : Cond.methodLink "ShareHouseLaw" 108 yX12_price ∈ am_tb := am_tb7 (i := 13) rfl rfl
set_option maxRecDepth 100000 in
theorem wi_yX12_price : Cond.instanceMethod yX12_price ∈ am_tb := am_tb7 (i := 14) rfl rfl
set_option maxRecDepth 100000 in
theorem we_yX12_price : Cond.selects yX12_price.cls yX12_price yX12_price ∈ am_tb := am_tb7 (i := 15) rfl rfl
set_option maxRecDepth 100000 in
theorem wc_yX12_price : Cond.code yX12_price cX12_price 4 (some .int) ∈ am_tb := am_tb7 (i := 16) rfl rfl
theorem wy_yX11_done : am_yok yX11_done 1 = true := by decide +kernel
set_option maxRecDepth 100000 in
theorem wl_L_109 : Cond.methodLink "ShareHouseLaw" 109 yX11_done ∈ am_tb := am_tb4 (i := 172) rfl rfl
set_option maxRecDepth 100000 in
theorem wi_yX11_done : Cond.instanceMethod yX11_done ∈ am_tb := am_tb4 (i := 173) rfl rfl
set_option maxRecDepth 100000 in
theorem we_yX11_done : Cond.selects yX11_done.cls yX11_done yX11_done ∈ am_tb := am_tb4 (i := 174) rfl rfl
set_option maxRecDepth 100000 in
theorem wc_yX11_done : Cond.code yX11_done cX11_done 5 (some .int) ∈ am_tb := am_tb4 (i := 175) rfl rfl
theorem wy_yX12_done : am_yok yX12_done 1 = true := by decide +kernel
set_option maxRecDepth 100000 in
theorem wl_L_112 : Cond.methodLink "ShareHouseLaw" 112 yX12_done ∈ am_tb := am_tb7 (i := 17) rfl rfl
set_option maxRecDepth 100000 in
theorem wi_yX12_done : Cond.instanceMethod yX12_done ∈ am_tb := am_tb7 (i := 18) rfl rfl
set_option maxRecDepth 100000 in
theorem we_yX12_done : Cond.selects yX12_done.cls yX12_done yX12_done ∈ am_tb := am_tb7 (i := 19) rfl rfl
set_option maxRecDepth 100000 in
theorem wc_yX12_done : Cond.code yX12_done cX12_done 2 (some .int) ∈ am_tb := am_tb7 (i := 20) rfl rfl
theorem wy_yX11_capped : am_yok yX11_capped 1 = true := by decide +kernel
set_option maxRecDepth 100000 in
theorem wl_L_113 : Cond.methodLink "ShareHouseLaw" 113 yX11_capped ∈ am_tb := am_tb4 (i := 180) rfl rfl
set_option maxRecDepth 100000 in
theorem wi_yX11_capped : Cond.instanceMethod yX11_capped ∈ am_tb := am_tb4 (i := 181) rfl rfl
set_option maxRecDepth 100000 in
theorem we_yX11_capped : Cond.selects yX11_capped.cls yX11_capped yX11_capped ∈ am_tb := am_tb4 (i := 182) rfl rfl
set_option maxRecDepth 100000 in
theorem wc_yX11_capped : Cond.code yX11_capped cX11_capped 2 (some .int) ∈ am_tb := am_tb4 (i := 183) rfl rfl
theorem wy_yX12_capped : am_yok yX12_capped 1 = true := by decide +kernel
set_option maxRecDepth 100000 in
theorem wl_L_116 : Cond.methodLink "ShareHouseLaw" 116 yX12_capped ∈ am_tb := am_tb7 (i := 25) rfl rfl
set_option maxRecDepth 100000 in
theorem wi_yX12_capped : Cond.instanceMethod yX12_capped ∈ am_tb := am_tb7 (i := 26) rfl rfl
set_option maxRecDepth 100000 in
theorem we_yX12_capped : Cond.selects yX12_capped.cls yX12_capped yX12_capped ∈ am_tb := am_tb7 (i := 27) rfl rfl
set_option maxRecDepth 100000 in
theorem wc_yX12_capped : Cond.code yX12_capped cX12_capped 2 (some .int) ∈ am_tb := am_tb7 (i := 28) rfl rfl
theorem wy_yX11_like : am_yok yX11_like 2 = true := by decide +kernel
set_option maxRecDepth 100000 in
theorem wl_L_117 : Cond.methodLink "ShareHouseLaw" 117 yX11_like ∈ am_tb := am_tb4 (i := 184) rfl rfl
set_option maxRecDepth 100000 in
theorem wi_yX11_like : Cond.instanceMethod yX11_like ∈ am_tb := am_tb4 (i := 185) rfl rfl
set_option maxRecDepth 100000 in
theorem we_yX11_like : Cond.selects yX11_like.cls yX11_like yX11_like ∈ am_tb := am_tb4 (i := 186) rfl rfl
set_option maxRecDepth 100000 in
theorem wc_yX11_like : Cond.code yX11_like cX11_like 3 (some .int) ∈ am_tb := am_tb4 (i := 187) rfl rfl
theorem wy_yX12_like : am_yok yX12_like 2 = true := by decide +kernel
set_option maxRecDepth 100000 in
theorem wl_L_120 : Cond.methodLink "ShareHouseLaw" 120 yX12_like ∈ am_tb := am_tb7 (i := 29) rfl rfl
set_option maxRecDepth 100000 in
theorem wi_yX12_like : Cond.instanceMethod yX12_like ∈ am_tb := am_tb7 (i := 30) rfl rfl
set_option maxRecDepth 100000 in
theorem we_yX12_like : Cond.selects yX12_like.cls yX12_like yX12_like ∈ am_tb := am_tb7 (i := 31) rfl rfl
set_option maxRecDepth 100000 in
theorem wc_yX12_like : Cond.code yX12_like cX12_like 3 (some .int) ∈ am_tb := am_tb7 (i := 32) rfl rfl
theorem wy_yX11_fair : am_yok yX11_fair 1 = true := by decide +kernel
set_option maxRecDepth 100000 in
theorem wl_L_121 : Cond.methodLink "ShareHouseLaw" 121 yX11_fair ∈ am_tb := am_tb4 (i := 192) rfl rfl
set_option maxRecDepth 100000 in
theorem wi_yX11_fair : Cond.instanceMethod yX11_fair ∈ am_tb := am_tb4 (i := 193) rfl rfl
set_option maxRecDepth 100000 in
theorem we_yX11_fair : Cond.selects yX11_fair.cls yX11_fair yX11_fair ∈ am_tb := am_tb4 (i := 194) rfl rfl
set_option maxRecDepth 100000 in
theorem wc_yX11_fair : Cond.code yX11_fair cX11_fair 2 (some .int) ∈ am_tb := am_tb4 (i := 195) rfl rfl
theorem wy_yX12_fair : am_yok yX12_fair 1 = true := by decide +kernel
set_option maxRecDepth 100000 in
theorem wl_L_124 : Cond.methodLink "ShareHouseLaw" 124 yX12_fair ∈ am_tb := am_tb7 (i := 33) rfl rfl
set_option maxRecDepth 100000 in
theorem wi_yX12_fair : Cond.instanceMethod yX12_fair ∈ am_tb := am_tb7 (i := 34) rfl rfl
set_option maxRecDepth 100000 in
theorem we_yX12_fair : Cond.selects yX12_fair.cls yX12_fair yX12_fair ∈ am_tb := am_tb7 (i := 35) rfl rfl
set_option maxRecDepth 100000 in
theorem wc_yX12_fair : Cond.code yX12_fair cX12_fair 2 (some .int) ∈ am_tb := am_tb7 (i := 36) rfl rfl
theorem wy_yX11_cut : am_yok yX11_cut 1 = true := by decide +kernel
set_option maxRecDepth 100000 in
theorem wl_L_125 : Cond.methodLink "ShareHouseLaw" 125 yX11_cut ∈ am_tb := am_tb4 (i := 204) rfl rfl
set_option maxRecDepth 100000 in
theorem wi_yX11_cut : Cond.instanceMethod yX11_cut ∈ am_tb := am_tb4 (i := 205) rfl rfl
set_option maxRecDepth 100000 in
theorem we_yX11_cut : Cond.selects yX11_cut.cls yX11_cut yX11_cut ∈ am_tb := am_tb4 (i := 206) rfl rfl
set_option maxRecDepth 100000 in
theorem wc_yX11_cut : Cond.code yX11_cut cX11_cut 6 (some .int) ∈ am_tb := am_tb4 (i := 207) rfl rfl
theorem wy_yX12_cut : am_yok yX12_cut 1 = true := by decide +kernel
set_option maxRecDepth 100000 in
theorem wl_L_128 : Cond.methodLink "ShareHouseLaw" 128 yX12_cut ∈ am_tb := am_tb7 (i := 41) rfl rfl
set_option maxRecDepth 100000 in
theorem wi_yX12_cut : Cond.instanceMethod yX12_cut ∈ am_tb := am_tb7 (i := 42) rfl rfl
set_option maxRecDepth 100000 in
theorem we_yX12_cut : Cond.selects yX12_cut.cls yX12_cut yX12_cut ∈ am_tb := am_tb7 (i := 43) rfl rfl
set_option maxRecDepth 100000 in
theorem wc_yX12_cut : Cond.code yX12_cut cX12_cut 4 (some .int) ∈ am_tb := am_tb7 (i := 44) rfl rfl
theorem wy_yX11_piece : am_yok yX11_piece 3 = true := by decide +kernel
set_option maxRecDepth 100000 in
theorem wl_L_129 : Cond.methodLink "ShareHouseLaw" 129 yX11_piece ∈ am_tb := am_tb4 (i := 209) rfl rfl
set_option maxRecDepth 100000 in
theorem wi_yX11_piece : Cond.instanceMethod yX11_piece ∈ am_tb := am_tb4 (i := 210) rfl rfl
set_option maxRecDepth 100000 in
theorem we_yX11_piece : Cond.selects yX11_piece.cls yX11_piece yX11_piece ∈ am_tb := am_tb4 (i := 211) rfl rfl
set_option maxRecDepth 100000 in
theorem wc_yX11_piece : Cond.code yX11_piece cX11_piece 4 (some .int) ∈ am_tb := am_tb4 (i := 212) rfl rfl
theorem wy_yX12_piece : am_yok yX12_piece 3 = true := by decide +kernel
set_option maxRecDepth 100000 in
theorem wl_L_132 : Cond.methodLink "ShareHouseLaw" 132 yX12_piece ∈ am_tb := am_tb7 (i := 45) rfl rfl
set_option maxRecDepth 100000 in
theorem wi_yX12_piece : Cond.instanceMethod yX12_piece ∈ am_tb := am_tb7 (i := 46) rfl rfl
set_option maxRecDepth 100000 in
theorem we_yX12_piece : Cond.selects yX12_piece.cls yX12_piece yX12_piece ∈ am_tb := am_tb7 (i := 47) rfl rfl
set_option maxRecDepth 100000 in
theorem wc_yX12_piece : Cond.code yX12_piece cX12_piece 5 (some .int) ∈ am_tb := am_tb7 (i := 48) rfl rfl
theorem wy_yX11_level : am_yok yX11_level 2 = true := by decide +kernel
set_option maxRecDepth 100000 in
theorem wl_L_133 : Cond.methodLink "ShareHouseLaw" 133 yX11_level ∈ am_tb := am_tb4 (i := 217) rfl rfl
set_option maxRecDepth 100000 in
theorem wi_yX11_level : Cond.instanceMethod yX11_level ∈ am_tb := am_tb4 (i := 218) rfl rfl
set_option maxRecDepth 100000 in
theorem we_yX11_level : Cond.selects yX11_level.cls yX11_level yX11_level ∈ am_tb := am_tb4 (i := 219) rfl rfl
set_option maxRecDepth 100000 in
theorem wc_yX11_level : Cond.code yX11_level cX11_level 3 (some .int) ∈ am_tb := am_tb4 (i := 220) rfl rfl
theorem wy_yX12_level : am_yok yX12_level 2 = true := by decide +kernel
set_option maxRecDepth 100000 in
theorem wl_L_136 : Cond.methodLink "ShareHouseLaw" 136 yX12_level ∈ am_tb := am_tb7 (i := 49) rfl rfl
set_option maxRecDepth 100000 in
theorem wi_yX12_level : Cond.instanceMethod yX12_level ∈ am_tb := am_tb7 (i := 50) rfl rfl
set_option maxRecDepth 100000 in
theorem we_yX12_level : Cond.selects yX12_level.cls yX12_level yX12_level ∈ am_tb := am_tb7 (i := 51) rfl rfl
set_option maxRecDepth 100000 in
theorem wc_yX12_level : Cond.code yX12_level cX12_level 5 (some .int) ∈ am_tb := am_tb7 (i := 52) rfl rfl
theorem wy_yX11_left : am_yok yX11_left 3 = true := by decide +kernel
set_option maxRecDepth 100000 in
theorem wl_L_137 : Cond.methodLink "ShareHouseLaw" 137 yX11_left ∈ am_tb := am_tb5 (i := 4) rfl rfl
set_option maxRecDepth 100000 in
theorem wi_yX11_left : Cond.instanceMethod yX11_left ∈ am_tb := am_tb5 (i := 5) rfl rfl
set_option maxRecDepth 100000 in
theorem we_yX11_left : Cond.selects yX11_left.cls yX11_left yX11_left ∈ am_tb := am_tb5 (i := 6) rfl rfl
set_option maxRecDepth 100000 in
theorem wc_yX11_left : Cond.code yX11_left cX11_left 4 (some .int) ∈ am_tb := am_tb5 (i := 7) rfl rfl
theorem wy_yX12_left : am_yok yX12_left 3 = true := by decide +kernel
set_option maxRecDepth 100000 in
theorem wl_L_140 : Cond.methodLink "ShareHouseLaw" 140 yX12_left ∈ am_tb := am_tb7 (i := 73) rfl rfl
set_option maxRecDepth 100000 in
theorem wi_yX12_left : Cond.instanceMethod yX12_left ∈ am_tb := am_tb7 (i := 74) rfl rfl
set_option maxRecDepth 100000 in
theorem we_yX12_left : Cond.selects yX12_left.cls yX12_left yX12_left ∈ am_tb := am_tb7 (i := 75) rfl rfl
set_option maxRecDepth 100000 in
theorem wc_yX12_left : Cond.code yX12_left cX12_left 4 (some .int) ∈ am_tb := am_tb7 (i := 76) rfl rfl
theorem wy_yX11_worst : am_yok yX11_worst 1 = true := by decide +kernel
set_option maxRecDepth 100000 in
theorem wl_L_141 : Cond.methodLink "ShareHouseLaw" 141 yX11_worst ∈ am_tb := am_tb5 (i := 8) rfl rfl
set_option maxRecDepth 100000 in
theorem wi_yX11_worst : Cond.instanceMethod yX11_worst ∈ am_tb := am_tb5 (i := 9) rfl rfl
set_option maxRecDepth 100000 in
theorem we_yX11_worst : Cond.selects yX11_worst.cls yX11_worst yX11_worst ∈ am_tb := am_tb5 (i := 10) rfl rfl
set_option maxRecDepth 100000 in
theorem wc_yX11_worst : Cond.code yX11_worst cX11_worst 2 (some .int) ∈ am_tb := am_tb5 (i := 11) rfl rfl
theorem wy_yX12_worst : am_yok yX12_worst 1 = true := by decide +kernel
set_option maxRecDepth 100000 in
theorem wl_L_144 : Cond.methodLink "ShareHouseLaw" 144 yX12_worst ∈ am_tb := am_tb7 (i := 77) rfl rfl
set_option maxRecDepth 100000 in
theorem wi_yX12_worst : Cond.instanceMethod yX12_worst ∈ am_tb := am_tb7 (i := 78) rfl rfl
set_option maxRecDepth 100000 in
theorem we_yX12_worst : Cond.selects yX12_worst.cls yX12_worst yX12_worst ∈ am_tb := am_tb7 (i := 79) rfl rfl
set_option maxRecDepth 100000 in
theorem wc_yX12_worst : Cond.code yX12_worst cX12_worst 9 (some .int) ∈ am_tb := am_tb7 (i := 80) rfl rfl
theorem wy_yX11_row : am_yok yX11_row 2 = true := by decide +kernel
set_option maxRecDepth 100000 in
theorem wl_L_145 : Cond.methodLink "ShareHouseLaw" 145 yX11_row ∈ am_tb := am_tb5 (i := 32) rfl rfl
set_option maxRecDepth 100000 in
theorem wi_yX11_row : Cond.instanceMethod yX11_row ∈ am_tb := am_tb5 (i := 33) rfl rfl
set_option maxRecDepth 100000 in
theorem we_yX11_row : Cond.selects yX11_row.cls yX11_row yX11_row ∈ am_tb := am_tb5 (i := 34) rfl rfl
set_option maxRecDepth 100000 in
theorem wc_yX11_row : Cond.code yX11_row cX11_row 3 (some .int) ∈ am_tb := am_tb5 (i := 35) rfl rfl
theorem wy_yX12_row : am_yok yX12_row 2 = true := by decide +kernel
set_option maxRecDepth 100000 in
theorem wl_L_148 : Cond.methodLink "ShareHouseLaw" 148 yX12_row ∈ am_tb := am_tb7 (i := 84) rfl rfl
set_option maxRecDepth 100000 in
theorem wi_yX12_row : Cond.instanceMethod yX12_row ∈ am_tb := am_tb7 (i := 85) rfl rfl
set_option maxRecDepth 100000 in
theorem we_yX12_row : Cond.selects yX12_row.cls yX12_row yX12_row ∈ am_tb := am_tb7 (i := 86) rfl rfl
set_option maxRecDepth 100000 in
theorem wc_yX12_row : Cond.code yX12_row cX12_row 3 (some .int) ∈ am_tb := am_tb7 (i := 87) rfl rfl
theorem wy_yX11_alter : am_yok yX11_alter 3 = true := by decide +kernel
set_option maxRecDepth 100000 in
theorem wl_L_149 : Cond.methodLink "ShareHouseLaw" 149 yX11_alter ∈ am_tb := am_tb5 (i := 41) rfl rfl
set_option maxRecDepth 100000 in
theorem wi_yX11_alter : Cond.instanceMethod yX11_alter ∈ am_tb := am_tb5 (i := 42) rfl rfl
set_option maxRecDepth 100000 in
theorem we_yX11_alter : Cond.selects yX11_alter.cls yX11_alter yX11_alter ∈ am_tb := am_tb5 (i := 43) rfl rfl
set_option maxRecDepth 100000 in
theorem wc_yX11_alter : Cond.code yX11_alter cX11_alter 5 (some .int) ∈ am_tb := am_tb5 (i := 44) rfl rfl
theorem wy_yX12_alter : am_yok yX12_alter 3 = true := by decide +kernel
set_option maxRecDepth 100000 in
theorem wl_L_152 : Cond.methodLink "ShareHouseLaw" 152 yX12_alter ∈ am_tb := am_tb7 (i := 92) rfl rfl
set_option maxRecDepth 100000 in
theorem wi_yX12_alter : Cond.instanceMethod yX12_alter ∈ am_tb := am_tb7 (i := 93) rfl rfl
set_option maxRecDepth 100000 in
theorem we_yX12_alter : Cond.selects yX12_alter.cls yX12_alter yX12_alter ∈ am_tb := am_tb7 (i := 94) rfl rfl
set_option maxRecDepth 100000 in
theorem wc_yX12_alter : Cond.code yX12_alter cX12_alter 5 (some .int) ∈ am_tb := am_tb7 (i := 95) rfl rfl
theorem wy_yX11_drop : am_yok yX11_drop 0 = true := by decide +kernel
set_option maxRecDepth 100000 in
theorem wl_L_153 : Cond.methodLink "ShareHouseLaw" 153 yX11_drop ∈ am_tb := am_tb5 (i := 45) rfl rfl
set_option maxRecDepth 100000 in
theorem wi_yX11_drop : Cond.instanceMethod yX11_drop ∈ am_tb := am_tb5 (i := 46) rfl rfl
set_option maxRecDepth 100000 in
theorem we_yX11_drop : Cond.selects yX11_drop.cls yX11_drop yX11_drop ∈ am_tb := am_tb5 (i := 47) rfl rfl
set_option maxRecDepth 100000 in
theorem wc_yX11_drop : Cond.code yX11_drop cX11_drop 1 (some .int) ∈ am_tb := am_tb5 (i := 48) rfl rfl
theorem wy_yX12_drop : am_yok yX12_drop 0 = true := by decide +kernel
set_option maxRecDepth 100000 in
theorem wl_L_157 : Cond.methodLink "ShareHouseLaw" 157 yX12_drop ∈ am_tb := am_tb7 (i := 96) rfl rfl
set_option maxRecDepth 100000 in
theorem wi_yX12_drop : Cond.instanceMethod yX12_drop ∈ am_tb := am_tb7 (i := 97) rfl rfl
set_option maxRecDepth 100000 in
theorem we_yX12_drop : Cond.selects yX12_drop.cls yX12_drop yX12_drop ∈ am_tb := am_tb7 (i := 98) rfl rfl
set_option maxRecDepth 100000 in
theorem wc_yX12_drop : Cond.code yX12_drop cX12_drop 1 (some .int) ∈ am_tb := am_tb7 (i := 99) rfl rfl
theorem wy_yX11_check : am_yok yX11_check 0 = true := by decide +kernel
set_option maxRecDepth 100000 in
theorem wl_L_158 : Cond.methodLink "ShareHouseLaw" 158 yX11_check ∈ am_tb := am_tb5 (i := 49) rfl rfl
set_option maxRecDepth 100000 in
theorem wi_yX11_check : Cond.instanceMethod yX11_check ∈ am_tb := am_tb5 (i := 50) rfl rfl
set_option maxRecDepth 100000 in
theorem we_yX11_check : Cond.selects yX11_check.cls yX11_check yX11_check ∈ am_tb := am_tb5 (i := 51) rfl rfl
set_option maxRecDepth 100000 in
theorem wc_yX11_check : Cond.code yX11_check cX11_check 1 (some .int) ∈ am_tb := am_tb5 (i := 52) rfl rfl
theorem wy_yX12_check : am_yok yX12_check 0 = true := by decide +kernel
set_option maxRecDepth 100000 in
theorem wl_L_161 : Cond.methodLink "ShareHouseLaw" 161 yX12_check ∈ am_tb := am_tb7 (i := 100) rfl rfl
set_option maxRecDepth 100000 in
theorem wi_yX12_check : Cond.instanceMethod yX12_check ∈ am_tb := am_tb7 (i := 101) rfl rfl
set_option maxRecDepth 100000 in
theorem we_yX12_check : Cond.selects yX12_check.cls yX12_check yX12_check ∈ am_tb := am_tb7 (i := 102) rfl rfl
set_option maxRecDepth 100000 in
theorem wc_yX12_check : Cond.code yX12_check cX12_check 3 (some .int) ∈ am_tb := am_tb7 (i := 103) rfl rfl
theorem wy_yX11_buyers : am_yok yX11_buyers 0 = true := by decide +kernel
set_option maxRecDepth 100000 in
theorem wl_L_162 : Cond.methodLink "ShareHouseLaw" 162 yX11_buyers ∈ am_tb := am_tb5 (i := 57) rfl rfl
set_option maxRecDepth 100000 in
theorem wi_yX11_buyers : Cond.instanceMethod yX11_buyers ∈ am_tb := am_tb5 (i := 58) rfl rfl
set_option maxRecDepth 100000 in
theorem we_yX11_buyers : Cond.selects yX11_buyers.cls yX11_buyers yX11_buyers ∈ am_tb := am_tb5 (i := 59) rfl rfl
set_option maxRecDepth 100000 in
theorem wc_yX11_buyers : Cond.code yX11_buyers cX11_buyers 1 (some .int) ∈ am_tb := am_tb5 (i := 60) rfl rfl
theorem wy_yX12_buyers : am_yok yX12_buyers 0 = true := by decide +kernel
set_option maxRecDepth 100000 in
theorem wl_L_165 : Cond.methodLink "ShareHouseLaw" 165 yX12_buyers ∈ am_tb := am_tb7 (i := 104) rfl rfl
set_option maxRecDepth 100000 in
theorem wi_yX12_buyers : Cond.instanceMethod yX12_buyers ∈ am_tb := am_tb7 (i := 105) rfl rfl
set_option maxRecDepth 100000 in
theorem we_yX12_buyers : Cond.selects yX12_buyers.cls yX12_buyers yX12_buyers ∈ am_tb := am_tb7 (i := 106) rfl rfl
set_option maxRecDepth 100000 in
theorem wc_yX12_buyers : Cond.code yX12_buyers cX12_buyers 7 (some .int) ∈ am_tb := am_tb7 (i := 107) rfl rfl
theorem wy_yX11_many : am_yok yX11_many 1 = true := by decide +kernel
set_option maxRecDepth 100000 in
theorem wl_L_166 : Cond.methodLink "ShareHouseLaw" 166 yX11_many ∈ am_tb := am_tb5 (i := 75) rfl rfl
set_option maxRecDepth 100000 in
theorem wi_yX11_many : Cond.instanceMethod yX11_many ∈ am_tb := am_tb5 (i := 76) rfl rfl
set_option maxRecDepth 100000 in
theorem we_yX11_many : Cond.selects yX11_many.cls yX11_many yX11_many ∈ am_tb := am_tb5 (i := 77) rfl rfl
set_option maxRecDepth 100000 in
theorem wc_yX11_many : Cond.code yX11_many cX11_many 2 (some .int) ∈ am_tb := am_tb5 (i := 78) rfl rfl
theorem wy_yX12_many : am_yok yX12_many 1 = true := by decide +kernel
set_option maxRecDepth 100000 in
theorem wl_L_169 : Cond.methodLink "ShareHouseLaw" 169 yX12_many ∈ am_tb := am_tb7 (i := 108) rfl rfl
set_option maxRecDepth 100000 in
theorem wi_yX12_many : Cond.instanceMethod yX12_many ∈ am_tb := am_tb7 (i := 109) rfl rfl
set_option maxRecDepth 100000 in
theorem we_yX12_many : Cond.selects yX12_many.cls yX12_many yX12_many ∈ am_tb := am_tb7 (i := 110) rfl rfl
set_option maxRecDepth 100000 in
theorem wc_yX12_many : Cond.code yX12_many cX12_many 2 (some .int) ∈ am_tb := am_tb7 (i := 111) rfl rfl
theorem wy_yX11_keep : am_yok yX11_keep 0 = true := by decide +kernel
set_option maxRecDepth 100000 in
theorem wl_L_170 : Cond.methodLink "ShareHouseLaw" 170 yX11_keep ∈ am_tb := am_tb5 (i := 79) rfl rfl
set_option maxRecDepth 100000 in
theorem wi_yX11_keep : Cond.instanceMethod yX11_keep ∈ am_tb := am_tb5 (i := 80) rfl rfl
set_option maxRecDepth 100000 in
theorem we_yX11_keep : Cond.selects yX11_keep.cls yX11_keep yX11_keep ∈ am_tb := am_tb5 (i := 81) rfl rfl
set_option maxRecDepth 100000 in
theorem wc_yX11_keep : Cond.code yX11_keep cX11_keep 1 (some .int) ∈ am_tb := am_tb5 (i := 82) rfl rfl
theorem wy_yX12_keep : am_yok yX12_keep 0 = true := by decide +kernel
set_option maxRecDepth 100000 in
theorem wl_L_173 : Cond.methodLink "ShareHouseLaw" 173 yX12_keep ∈ am_tb := am_tb7 (i := 112) rfl rfl
set_option maxRecDepth 100000 in
theorem wi_yX12_keep : Cond.instanceMethod yX12_keep ∈ am_tb := am_tb7 (i := 113) rfl rfl
set_option maxRecDepth 100000 in
theorem we_yX12_keep : Cond.selects yX12_keep.cls yX12_keep yX12_keep ∈ am_tb := am_tb7 (i := 114) rfl rfl
set_option maxRecDepth 100000 in
theorem wc_yX12_keep : Cond.code yX12_keep cX12_keep 2 (some .int) ∈ am_tb := am_tb7 (i := 115) rfl rfl
theorem wy_yX11_back : am_yok yX11_back 0 = true := by decide +kernel
set_option maxRecDepth 100000 in
theorem wl_L_174 : Cond.methodLink "ShareHouseLaw" 174 yX11_back ∈ am_tb := am_tb5 (i := 119) rfl rfl
set_option maxRecDepth 100000 in
theorem wi_yX11_back : Cond.instanceMethod yX11_back ∈ am_tb := am_tb5 (i := 120) rfl rfl
set_option maxRecDepth 100000 in
theorem we_yX11_back : Cond.selects yX11_back.cls yX11_back yX11_back ∈ am_tb := am_tb5 (i := 121) rfl rfl
set_option maxRecDepth 100000 in
theorem wc_yX11_back : Cond.code yX11_back cX11_back 1 (some .int) ∈ am_tb := am_tb5 (i := 122) rfl rfl
theorem wy_yX12_back : am_yok yX12_back 0 = true := by decide +kernel
set_option maxRecDepth 100000 in
theorem wl_L_177 : Cond.methodLink "ShareHouseLaw" 177 yX12_back ∈ am_tb := am_tb7 (i := 116) rfl rfl
set_option maxRecDepth 100000 in
theorem wi_yX12_back : Cond.instanceMethod yX12_back ∈ am_tb := am_tb7 (i := 117) rfl rfl
set_option maxRecDepth 100000 in
theorem we_yX12_back : Cond.selects yX12_back.cls yX12_back yX12_back ∈ am_tb := am_tb7 (i := 118) rfl rfl
set_option maxRecDepth 100000 in
theorem wc_yX12_back : Cond.code yX12_back cX12_back 2 (some .int) ∈ am_tb := am_tb7 (i := 119) rfl rfl
