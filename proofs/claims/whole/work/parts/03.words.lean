def wd : List Cond := lw_tbl.filter goodWord
theorem wdof {i : Nat} {w : Cond} (h : lw_tbl[i]? = some w) (hg : goodWord w = true) : w ∈ wd := List.mem_filter.mpr ⟨List.mem_of_getElem? h, hg⟩
theorem wd_in : ∀ w ∈ wd, w ∈ lw_tbl := fun _ h => (List.mem_filter.mp h).1
theorem wd_good : ∀ w ∈ wd, (w.onTables && w.keeps) = true ∨ ∃ ty, w = .arrayClass ty := fun _ h => good_of_word (List.mem_filter.mp h).2
theorem wl0 : Cond.selects RX4 yX4_shorten yX4_shorten ∈ wd := wdof (i := 0) (by decide +kernel) rfl
theorem wl1 : Cond.selects RX5 yX5_travel yX5_travel ∈ wd := wdof (i := 1) (by decide +kernel) rfl
theorem wl2 : Cond.selects RX5 yX5_divideByMiles yX5_divideByMiles ∈ wd := wdof (i := 2) (by decide +kernel) rfl
theorem wl3 : Cond.selects RX5 yX5_giveOneMore yX5_giveOneMore ∈ wd := wdof (i := 3) (by decide +kernel) rfl
theorem wl4 : Cond.selects RX2 yX2_measureErrors yX2_measureErrors ∈ wd := wdof (i := 4) (by decide +kernel) rfl
theorem wl5 : Cond.selects RX2 yX2_keep yX2_keep ∈ wd := wdof (i := 5) (by decide +kernel) rfl
theorem wl6 : Cond.selects RX2 yX2_isInTime yX2_isInTime ∈ wd := wdof (i := 6) (by decide +kernel) rfl
theorem wl7 : Cond.selects RX0 yX0_owedAsJoined yX0_owedAsJoined ∈ wd := wdof (i := 7) (by decide +kernel) rfl
theorem wl8 : Cond.selects RX0 yX0_priceOf yX0_priceOf ∈ wd := wdof (i := 8) (by decide +kernel) rfl
theorem wl9 : Cond.selects RX7 yX7_strikeBalances yX7_strikeBalances ∈ wd := wdof (i := 9) (by decide +kernel) rfl
theorem wl10 : Cond.selects RX1 yX1_weighSet yX1_weighSet ∈ wd := wdof (i := 10) (by decide +kernel) rfl
theorem wl11 : Cond.selects RX1 yX1_firstGroup yX1_firstGroup ∈ wd := wdof (i := 11) (by decide +kernel) rfl
theorem wl12 : Cond.selects RX3 yX3_stayAtHome yX3_stayAtHome ∈ wd := wdof (i := 12) (by decide +kernel) rfl
theorem wl13 : Cond.selects RX3 yX3_leadMore yX3_leadMore ∈ wd := wdof (i := 13) (by decide +kernel) rfl
theorem wl14 : Cond.selects RX3 yX3_measureReach yX3_measureReach ∈ wd := wdof (i := 14) (by decide +kernel) rfl
theorem wl15 : Cond.selects RX3 yX3_stepFrom yX3_stepFrom ∈ wd := wdof (i := 15) (by decide +kernel) rfl
theorem wl16 : Cond.selects RX3 yX3_stepMiles yX3_stepMiles ∈ wd := wdof (i := 16) (by decide +kernel) rfl
theorem wl17 : Cond.selects RX3 yX3_isGiver yX3_isGiver ∈ wd := wdof (i := 17) (by decide +kernel) rfl
theorem wl18 : Cond.selects RX3 yX3_isTaker yX3_isTaker ∈ wd := wdof (i := 18) (by decide +kernel) rfl
theorem wl19 : Cond.selects RX3 yX3_nearestGoal yX3_nearestGoal ∈ wd := wdof (i := 19) (by decide +kernel) rfl
theorem wl20 : Cond.selects RX3 yX3_amountTo yX3_amountTo ∈ wd := wdof (i := 20) (by decide +kernel) rfl
theorem wl21 : Cond.selects RX3 yX3_moveTo yX3_moveTo ∈ wd := wdof (i := 21) (by decide +kernel) rfl
theorem wl22 : Cond.selects RX8 yX8_reckons yX8_reckons ∈ wd := wdof (i := 22) (by decide +kernel) rfl
theorem wl23 : Cond.selects RX8 yX8_otherEnd yX8_otherEnd ∈ wd := wdof (i := 23) (by decide +kernel) rfl
theorem wl24 : Cond.selects RX8 yX8_parts yX8_parts ∈ wd := wdof (i := 24) (by decide +kernel) rfl
theorem wl25 : Cond.selects RX8 yX8_joins yX8_joins ∈ wd := wdof (i := 25) (by decide +kernel) rfl
theorem wl26 : Cond.selects RX8 yX8_canBe yX8_canBe ∈ wd := wdof (i := 26) (by decide +kernel) rfl
theorem wl27 : Cond.selects RX8 yX8_owes yX8_owes ∈ wd := wdof (i := 27) (by decide +kernel) rfl
theorem wl28 : Cond.selects RX8 yX8_groups yX8_groups ∈ wd := wdof (i := 28) (by decide +kernel) rfl
theorem wl29 : Cond.selects RX8 yX8_sumOf yX8_sumOf ∈ wd := wdof (i := 29) (by decide +kernel) rfl
theorem wl30 : Cond.selects RX8 yX8_leads yX8_leads ∈ wd := wdof (i := 30) (by decide +kernel) rfl
theorem wl31 : Cond.selects RX8 yX8_seeks yX8_seeks ∈ wd := wdof (i := 31) (by decide +kernel) rfl
theorem wl32 : Cond.selects RX8 yX8_left yX8_left ∈ wd := wdof (i := 32) (by decide +kernel) rfl
theorem wl33 : Cond.selects RX8 yX8_lacks yX8_lacks ∈ wd := wdof (i := 33) (by decide +kernel) rfl
theorem wl34 : Cond.initialized RL ∈ wd := wdof (i := 34) (by decide +kernel) rfl
theorem wl35 : Cond.initialized RX7 ∈ wd := wdof (i := 35) (by decide +kernel) rfl
theorem wl36 : Cond.initialized RX4 ∈ wd := wdof (i := 36) (by decide +kernel) rfl
theorem wl37 : Cond.initialized RJ7 ∈ wd := wdof (i := 37) (by decide +kernel) rfl
theorem wl38 : Cond.initialized RX5 ∈ wd := wdof (i := 38) (by decide +kernel) rfl
theorem wl39 : Cond.initialized RX6 ∈ wd := wdof (i := 39) (by decide +kernel) rfl
theorem wl40 : Cond.initialized RX2 ∈ wd := wdof (i := 40) (by decide +kernel) rfl
theorem wl41 : Cond.initialized RX0 ∈ wd := wdof (i := 41) (by decide +kernel) rfl
theorem wl42 : Cond.initialized RX1 ∈ wd := wdof (i := 42) (by decide +kernel) rfl
theorem wl43 : Cond.initialized RX3 ∈ wd := wdof (i := 43) (by decide +kernel) rfl
theorem wl44 : Cond.initialized RX8 ∈ wd := wdof (i := 44) (by decide +kernel) rfl
theorem wl45 : Cond.initialized RJ9 ∈ wd := wdof (i := 45) (by decide +kernel) rfl
theorem wl46 : Cond.initialized RJ10 ∈ wd := wdof (i := 46) (by decide +kernel) rfl
theorem wl47 : Cond.initialized RJ6 ∈ wd := wdof (i := 47) (by decide +kernel) rfl
theorem wl48 : Cond.classLink RL 7 RX7 ∈ wd := wdof (i := 48) (by decide +kernel) rfl
theorem wl49 : Cond.instantiable RX7 10 ∈ wd := wdof (i := 49) (by decide +kernel) rfl
theorem wl50 : Cond.methodLink RL 9 yX7_init ∈ wd := wdof (i := 50) (by decide +kernel) rfl
theorem wl51 : Cond.instanceMethod yX7_init ∈ wd := wdof (i := 51) (by decide +kernel) rfl
theorem wl52 : Cond.code yX7_init cX7_init 1 none ∈ wd := wdof (i := 52) (by decide +kernel) rfl
theorem wl53 : Cond.methodLink RX7 1 objectInit ∈ wd := wdof (i := 53) (by decide +kernel) rfl
theorem wl54 : Cond.instanceMethod objectInit ∈ wd := wdof (i := 54) (by decide +kernel) rfl
theorem wl55 : Cond.code objectInit object_method_1_code 1 none ∈ wd := wdof (i := 55) (by decide +kernel) rfl
theorem wl56 : Cond.classLink RX7 7 RX4 ∈ wd := wdof (i := 56) (by decide +kernel) rfl
theorem wl57 : Cond.instantiable RX4 6 ∈ wd := wdof (i := 57) (by decide +kernel) rfl
theorem wl58 : Cond.methodLink RX7 9 yX4_init ∈ wd := wdof (i := 58) (by decide +kernel) rfl
theorem wl59 : Cond.instanceMethod yX4_init ∈ wd := wdof (i := 59) (by decide +kernel) rfl
theorem wl60 : Cond.code yX4_init cX4_init 2 none ∈ wd := wdof (i := 60) (by decide +kernel) rfl
theorem wl61 : Cond.methodLink RX4 3 objectInit ∈ wd := wdof (i := 61) (by decide +kernel) rfl
theorem wl62 : Cond.constant RX4 31 (1000000) ∈ wd := wdof (i := 62) (by decide +kernel) rfl
theorem wl63 : Cond.methodLink RX4 32 yJ7_fill_53178 ∈ wd := wdof (i := 63) (by decide +kernel) rfl
theorem wl64 : Cond.static yJ7_fill_53178 ∈ wd := wdof (i := 64) (by decide +kernel) rfl
theorem wl65 : Cond.code yJ7_fill_53178 cJ7_fill_53178 4 none ∈ wd := wdof (i := 65) (by decide +kernel) rfl
theorem wl66 : Cond.fieldLink RX4 9 "WagonClearing$Network" "oneEnd" "[I" ∈ wd := wdof (i := 66) (by decide +kernel) rfl
theorem wl67 : Cond.fieldLink RX4 15 "WagonClearing$Network" "otherEnd" "[I" ∈ wd := wdof (i := 67) (by decide +kernel) rfl
theorem wl68 : Cond.fieldLink RX4 18 "WagonClearing$Network" "companies" "[I" ∈ wd := wdof (i := 68) (by decide +kernel) rfl
theorem wl69 : Cond.fieldLink RX5 57 "WagonClearing$Network" "companies" "[I" ∈ wd := wdof (i := 69) (by decide +kernel) rfl
theorem wl70 : Cond.fieldLink RX4 21 "WagonClearing$Network" "miles" "[I" ∈ wd := wdof (i := 70) (by decide +kernel) rfl
theorem wl71 : Cond.fieldLink RX5 60 "WagonClearing$Network" "miles" "[I" ∈ wd := wdof (i := 71) (by decide +kernel) rfl
theorem wl72 : Cond.fieldLink RX4 24 "WagonClearing$Network" "leasts" "[I" ∈ wd := wdof (i := 72) (by decide +kernel) rfl
theorem wl73 : Cond.fieldLink RX2 97 "WagonClearing$Network" "leasts" "[I" ∈ wd := wdof (i := 73) (by decide +kernel) rfl
theorem wl74 : Cond.fieldLink RX3 97 "WagonClearing$Network" "leasts" "[I" ∈ wd := wdof (i := 74) (by decide +kernel) rfl
theorem wl75 : Cond.fieldLink RX4 27 "WagonClearing$Network" "lines" "I" ∈ wd := wdof (i := 75) (by decide +kernel) rfl
theorem wl76 : Cond.fieldLink RX7 156 "WagonClearing$Network" "lines" "I" ∈ wd := wdof (i := 76) (by decide +kernel) rfl
theorem wl90 : Cond.arrayClass .int ∈ wd := wdof (i := 90) (by decide +kernel) rfl
theorem wl91 : Cond.classLink RX7 16 RX5 ∈ wd := wdof (i := 91) (by decide +kernel) rfl
theorem wl92 : Cond.instantiable RX5 6 ∈ wd := wdof (i := 92) (by decide +kernel) rfl
theorem wl93 : Cond.methodLink RX7 18 yX5_init ∈ wd := wdof (i := 93) (by decide +kernel) rfl
theorem wl94 : Cond.instanceMethod yX5_init ∈ wd := wdof (i := 94) (by decide +kernel) rfl
theorem wl95 : Cond.code yX5_init cX5_init 2 none ∈ wd := wdof (i := 95) (by decide +kernel) rfl
theorem wl96 : Cond.methodLink RX5 3 objectInit ∈ wd := wdof (i := 96) (by decide +kernel) rfl
theorem wl97 : Cond.fieldLink RX5 9 "WagonClearing$Parting" "parts" "[I" ∈ wd := wdof (i := 97) (by decide +kernel) rfl
theorem wl98 : Cond.fieldLink RX7 98 "WagonClearing$Parting" "parts" "[I" ∈ wd := wdof (i := 98) (by decide +kernel) rfl
theorem wl99 : Cond.fieldLink RX5 15 "WagonClearing$Parting" "milesOf" "[I" ∈ wd := wdof (i := 99) (by decide +kernel) rfl
theorem wl100 : Cond.fieldLink RX5 18 "WagonClearing$Parting" "cutOff" "[I" ∈ wd := wdof (i := 100) (by decide +kernel) rfl
theorem wl101 : Cond.fieldLink RX5 28 "WagonClearing$Parting" "network" "LWagonClearing$Network;" ∈ wd := wdof (i := 101) (by decide +kernel) rfl
theorem wl102 : Cond.fieldLink RX5 21 "WagonClearing$Parting" "firstCompany" "I" ∈ wd := wdof (i := 102) (by decide +kernel) rfl
theorem wl103 : Cond.fieldLink RX5 25 "WagonClearing$Parting" "lastCompany" "I" ∈ wd := wdof (i := 103) (by decide +kernel) rfl
theorem wl117 : Cond.classLink RX7 25 RX6 ∈ wd := wdof (i := 117) (by decide +kernel) rfl
theorem wl118 : Cond.instantiable RX6 8 ∈ wd := wdof (i := 118) (by decide +kernel) rfl
theorem wl120 : Cond.instanceMethod yX6_init ∈ wd := wdof (i := 120) (by decide +kernel) rfl
theorem wl121 : Cond.code yX6_init cX6_init 1 none ∈ wd := wdof (i := 121) (by decide +kernel) rfl
theorem wl122 : Cond.methodLink RX6 3 objectInit ∈ wd := wdof (i := 122) (by decide +kernel) rfl
theorem wl123 : Cond.fieldLink RX6 9 "WagonClearing$Register" "marks" "[I" ∈ wd := wdof (i := 123) (by decide +kernel) rfl
theorem wl124 : Cond.fieldLink RX2 74 "WagonClearing$Register" "marks" "[I" ∈ wd := wdof (i := 124) (by decide +kernel) rfl
theorem wl125 : Cond.fieldLink RX6 15 "WagonClearing$Register" "owners" "[I" ∈ wd := wdof (i := 125) (by decide +kernel) rfl
theorem wl126 : Cond.fieldLink RX0 48 "WagonClearing$Register" "owners" "[I" ∈ wd := wdof (i := 126) (by decide +kernel) rfl
theorem wl127 : Cond.fieldLink RX6 18 "WagonClearing$Register" "wagons" "I" ∈ wd := wdof (i := 127) (by decide +kernel) rfl
theorem wl128 : Cond.fieldLink RX0 73 "WagonClearing$Register" "wagons" "I" ∈ wd := wdof (i := 128) (by decide +kernel) rfl
theorem wl129 : Cond.fieldLink RX2 68 "WagonClearing$Register" "wagons" "I" ∈ wd := wdof (i := 129) (by decide +kernel) rfl
theorem wl130 : Cond.fieldLink RX7 159 "WagonClearing$Register" "wagons" "I" ∈ wd := wdof (i := 130) (by decide +kernel) rfl
theorem wl131 : Cond.fieldLink RX6 22 "WagonClearing$Register" "written" "[I" ∈ wd := wdof (i := 131) (by decide +kernel) rfl
theorem wl132 : Cond.fieldLink RX2 71 "WagonClearing$Register" "written" "[I" ∈ wd := wdof (i := 132) (by decide +kernel) rfl
theorem wl133 : Cond.fieldLink RX6 25 "WagonClearing$Register" "junctions" "[I" ∈ wd := wdof (i := 133) (by decide +kernel) rfl
theorem wl134 : Cond.fieldLink RX2 94 "WagonClearing$Register" "junctions" "[I" ∈ wd := wdof (i := 134) (by decide +kernel) rfl
theorem wl135 : Cond.fieldLink RX6 28 "WagonClearing$Register" "days" "[I" ∈ wd := wdof (i := 135) (by decide +kernel) rfl
theorem wl136 : Cond.fieldLink RX0 61 "WagonClearing$Register" "days" "[I" ∈ wd := wdof (i := 136) (by decide +kernel) rfl
theorem wl137 : Cond.fieldLink RX2 103 "WagonClearing$Register" "days" "[I" ∈ wd := wdof (i := 137) (by decide +kernel) rfl
theorem wl138 : Cond.fieldLink RX6 31 "WagonClearing$Register" "companies" "[I" ∈ wd := wdof (i := 138) (by decide +kernel) rfl
theorem wl139 : Cond.fieldLink RX0 58 "WagonClearing$Register" "companies" "[I" ∈ wd := wdof (i := 139) (by decide +kernel) rfl
theorem wl140 : Cond.fieldLink RX6 34 "WagonClearing$Register" "sights" "I" ∈ wd := wdof (i := 140) (by decide +kernel) rfl
theorem wl141 : Cond.fieldLink RX0 52 "WagonClearing$Register" "sights" "I" ∈ wd := wdof (i := 141) (by decide +kernel) rfl
theorem wl142 : Cond.fieldLink RX2 61 "WagonClearing$Register" "sights" "I" ∈ wd := wdof (i := 142) (by decide +kernel) rfl
theorem wl143 : Cond.fieldLink RX7 111 "WagonClearing$Register" "sights" "I" ∈ wd := wdof (i := 143) (by decide +kernel) rfl
theorem wl161 : Cond.classLink RX7 32 RX2 ∈ wd := wdof (i := 161) (by decide +kernel) rfl
theorem wl162 : Cond.instantiable RX2 9 ∈ wd := wdof (i := 162) (by decide +kernel) rfl
theorem wl163 : Cond.methodLink RX7 34 yX2_init ∈ wd := wdof (i := 163) (by decide +kernel) rfl
theorem wl164 : Cond.instanceMethod yX2_init ∈ wd := wdof (i := 164) (by decide +kernel) rfl
theorem wl165 : Cond.code yX2_init cX2_init 3 none ∈ wd := wdof (i := 165) (by decide +kernel) rfl
theorem wl166 : Cond.methodLink RX2 3 objectInit ∈ wd := wdof (i := 166) (by decide +kernel) rfl
theorem wl167 : Cond.fieldLink RX2 35 "WagonClearing$Joining" "network" "LWagonClearing$Network;" ∈ wd := wdof (i := 167) (by decide +kernel) rfl
theorem wl168 : Cond.fieldLink RX2 39 "WagonClearing$Joining" "register" "LWagonClearing$Register;" ∈ wd := wdof (i := 168) (by decide +kernel) rfl
theorem wl169 : Cond.fieldLink RX2 9 "WagonClearing$Joining" "errors" "[I" ∈ wd := wdof (i := 169) (by decide +kernel) rfl
theorem wl170 : Cond.fieldLink RX2 15 "WagonClearing$Joining" "floors" "[I" ∈ wd := wdof (i := 170) (by decide +kernel) rfl
theorem wl171 : Cond.fieldLink RX2 18 "WagonClearing$Joining" "tried" "[I" ∈ wd := wdof (i := 171) (by decide +kernel) rfl
theorem wl172 : Cond.fieldLink RX2 21 "WagonClearing$Joining" "latest" "[I" ∈ wd := wdof (i := 172) (by decide +kernel) rfl
theorem wl173 : Cond.fieldLink RX2 24 "WagonClearing$Joining" "best" "[I" ∈ wd := wdof (i := 173) (by decide +kernel) rfl
theorem wl174 : Cond.fieldLink RX0 55 "WagonClearing$Joining" "best" "[I" ∈ wd := wdof (i := 174) (by decide +kernel) rfl
theorem wl175 : Cond.fieldLink RX2 27 "WagonClearing$Joining" "bestCost" "I" ∈ wd := wdof (i := 175) (by decide +kernel) rfl
theorem wl176 : Cond.fieldLink RX2 31 "WagonClearing$Joining" "known" "Z" ∈ wd := wdof (i := 176) (by decide +kernel) rfl
theorem wl196 : Cond.classLink RX7 41 RX0 ∈ wd := wdof (i := 196) (by decide +kernel) rfl
theorem wl197 : Cond.instantiable RX0 4 ∈ wd := wdof (i := 197) (by decide +kernel) rfl
theorem wl198 : Cond.methodLink RX7 43 yX0_init ∈ wd := wdof (i := 198) (by decide +kernel) rfl
theorem wl199 : Cond.instanceMethod yX0_init ∈ wd := wdof (i := 199) (by decide +kernel) rfl
theorem wl200 : Cond.code yX0_init cX0_init 3 none ∈ wd := wdof (i := 200) (by decide +kernel) rfl
theorem wl201 : Cond.methodLink RX0 3 objectInit ∈ wd := wdof (i := 201) (by decide +kernel) rfl
theorem wl202 : Cond.fieldLink RX0 18 "WagonClearing$Charging" "register" "LWagonClearing$Register;" ∈ wd := wdof (i := 202) (by decide +kernel) rfl
theorem wl203 : Cond.fieldLink RX0 22 "WagonClearing$Charging" "joining" "LWagonClearing$Joining;" ∈ wd := wdof (i := 203) (by decide +kernel) rfl
theorem wl204 : Cond.fieldLink RX0 9 "WagonClearing$Charging" "freeDays" "I" ∈ wd := wdof (i := 204) (by decide +kernel) rfl
theorem wl205 : Cond.fieldLink RX0 15 "WagonClearing$Charging" "dayPrice" "I" ∈ wd := wdof (i := 205) (by decide +kernel) rfl
theorem wl215 : Cond.classLink RX7 50 RX1 ∈ wd := wdof (i := 215) (by decide +kernel) rfl
theorem wl216 : Cond.instantiable RX1 3 ∈ wd := wdof (i := 216) (by decide +kernel) rfl
theorem wl218 : Cond.instanceMethod yX1_init ∈ wd := wdof (i := 218) (by decide +kernel) rfl
theorem wl219 : Cond.code yX1_init cX1_init 1 none ∈ wd := wdof (i := 219) (by decide +kernel) rfl
theorem wl220 : Cond.methodLink RX1 3 objectInit ∈ wd := wdof (i := 220) (by decide +kernel) rfl
theorem wl221 : Cond.fieldLink RX1 11 "WagonClearing$Grouping" "totals" "[I" ∈ wd := wdof (i := 221) (by decide +kernel) rfl
theorem wl222 : Cond.fieldLink RX1 15 "WagonClearing$Grouping" "most" "[I" ∈ wd := wdof (i := 222) (by decide +kernel) rfl
theorem wl223 : Cond.fieldLink RX1 18 "WagonClearing$Grouping" "members" "I" ∈ wd := wdof (i := 223) (by decide +kernel) rfl
theorem wl231 : Cond.classLink RX7 57 RX3 ∈ wd := wdof (i := 231) (by decide +kernel) rfl
theorem wl232 : Cond.instantiable RX3 10 ∈ wd := wdof (i := 232) (by decide +kernel) rfl
theorem wl233 : Cond.methodLink RX7 59 yX3_init ∈ wd := wdof (i := 233) (by decide +kernel) rfl
theorem wl234 : Cond.instanceMethod yX3_init ∈ wd := wdof (i := 234) (by decide +kernel) rfl
theorem wl235 : Cond.code yX3_init cX3_init 2 none ∈ wd := wdof (i := 235) (by decide +kernel) rfl
theorem wl236 : Cond.methodLink RX3 3 objectInit ∈ wd := wdof (i := 236) (by decide +kernel) rfl
theorem wl237 : Cond.fieldLink RX3 9 "WagonClearing$Leading" "there" "[I" ∈ wd := wdof (i := 237) (by decide +kernel) rfl
theorem wl238 : Cond.fieldLink RX7 162 "WagonClearing$Leading" "there" "[I" ∈ wd := wdof (i := 238) (by decide +kernel) rfl
theorem wl239 : Cond.fieldLink RX3 15 "WagonClearing$Leading" "wanted" "[I" ∈ wd := wdof (i := 239) (by decide +kernel) rfl
theorem wl240 : Cond.fieldLink RX7 169 "WagonClearing$Leading" "wanted" "[I" ∈ wd := wdof (i := 240) (by decide +kernel) rfl
theorem wl241 : Cond.fieldLink RX3 18 "WagonClearing$Leading" "wantsMet" "I" ∈ wd := wdof (i := 241) (by decide +kernel) rfl
theorem wl242 : Cond.fieldLink RX7 150 "WagonClearing$Leading" "wantsMet" "I" ∈ wd := wdof (i := 242) (by decide +kernel) rfl
theorem wl243 : Cond.fieldLink RX3 22 "WagonClearing$Leading" "milesLed" "I" ∈ wd := wdof (i := 243) (by decide +kernel) rfl
theorem wl244 : Cond.fieldLink RX7 153 "WagonClearing$Leading" "milesLed" "I" ∈ wd := wdof (i := 244) (by decide +kernel) rfl
theorem wl245 : Cond.fieldLink RX3 41 "WagonClearing$Leading" "network" "LWagonClearing$Network;" ∈ wd := wdof (i := 245) (by decide +kernel) rfl
theorem wl246 : Cond.fieldLink RX3 25 "WagonClearing$Leading" "spare" "[I" ∈ wd := wdof (i := 246) (by decide +kernel) rfl
theorem wl247 : Cond.fieldLink RX3 28 "WagonClearing$Leading" "moved" "[I" ∈ wd := wdof (i := 247) (by decide +kernel) rfl
theorem wl248 : Cond.fieldLink RX3 31 "WagonClearing$Leading" "reach" "[I" ∈ wd := wdof (i := 248) (by decide +kernel) rfl
theorem wl249 : Cond.fieldLink RX3 34 "WagonClearing$Leading" "before" "[I" ∈ wd := wdof (i := 249) (by decide +kernel) rfl
theorem wl250 : Cond.fieldLink RX3 37 "WagonClearing$Leading" "known" "Z" ∈ wd := wdof (i := 250) (by decide +kernel) rfl
theorem wl272 : Cond.fieldLink RX7 10 "WagonClearing" "network" "LWagonClearing$Network;" ∈ wd := wdof (i := 272) (by decide +kernel) rfl
theorem wl273 : Cond.fieldLink RX7 21 "WagonClearing" "parting" "LWagonClearing$Parting;" ∈ wd := wdof (i := 273) (by decide +kernel) rfl
theorem wl274 : Cond.fieldLink RX7 28 "WagonClearing" "register" "LWagonClearing$Register;" ∈ wd := wdof (i := 274) (by decide +kernel) rfl
theorem wl275 : Cond.fieldLink RX7 37 "WagonClearing" "joining" "LWagonClearing$Joining;" ∈ wd := wdof (i := 275) (by decide +kernel) rfl
theorem wl276 : Cond.fieldLink RX7 46 "WagonClearing" "charging" "LWagonClearing$Charging;" ∈ wd := wdof (i := 276) (by decide +kernel) rfl
theorem wl277 : Cond.fieldLink RX7 53 "WagonClearing" "grouping" "LWagonClearing$Grouping;" ∈ wd := wdof (i := 277) (by decide +kernel) rfl
theorem wl278 : Cond.fieldLink RX7 60 "WagonClearing" "leading" "LWagonClearing$Leading;" ∈ wd := wdof (i := 278) (by decide +kernel) rfl
theorem wl279 : Cond.fieldLink RX7 64 "WagonClearing" "booked" "[I" ∈ wd := wdof (i := 279) (by decide +kernel) rfl
theorem wl280 : Cond.fieldLink RX7 68 "WagonClearing" "balances" "[I" ∈ wd := wdof (i := 280) (by decide +kernel) rfl
theorem wl281 : Cond.fieldLink RX7 71 "WagonClearing" "sums" "I" ∈ wd := wdof (i := 281) (by decide +kernel) rfl
theorem wl303 : Cond.methodLink RL 13 yX7_line ∈ wd := wdof (i := 303) (by decide +kernel) rfl
theorem wl304 : Cond.instanceMethod yX7_line ∈ wd := wdof (i := 304) (by decide +kernel) rfl
theorem wl305 : Cond.selects RX7 yX7_line yX7_line ∈ wd := wdof (i := 305) (by decide +kernel) rfl
theorem wl306 : Cond.code yX7_line cX7_line 6 (some .int) ∈ wd := wdof (i := 306) (by decide +kernel) rfl
theorem wl307 : Cond.methodLink RX7 75 yX4_addLine ∈ wd := wdof (i := 307) (by decide +kernel) rfl
theorem wl308 : Cond.instanceMethod yX4_addLine ∈ wd := wdof (i := 308) (by decide +kernel) rfl
theorem wl309 : Cond.selects RX4 yX4_addLine yX4_addLine ∈ wd := wdof (i := 309) (by decide +kernel) rfl
theorem wl310 : Cond.code yX4_addLine cX4_addLine 5 (some .int) ∈ wd := wdof (i := 310) (by decide +kernel) rfl
theorem wl312 : Cond.static yX7_isJunction ∈ wd := wdof (i := 312) (by decide +kernel) rfl
theorem wl313 : Cond.code yX7_isJunction cX7_isJunction 1 (some .boolean) ∈ wd := wdof (i := 313) (by decide +kernel) rfl
theorem wl315 : Cond.static yX7_isCompany ∈ wd := wdof (i := 315) (by decide +kernel) rfl
theorem wl316 : Cond.code yX7_isCompany cX7_isCompany 1 (some .boolean) ∈ wd := wdof (i := 316) (by decide +kernel) rfl
theorem wl318 : Cond.static yX7_isWithin ∈ wd := wdof (i := 318) (by decide +kernel) rfl
theorem wl319 : Cond.code yX7_isWithin cX7_isWithin 3 (some .boolean) ∈ wd := wdof (i := 319) (by decide +kernel) rfl
theorem wl320 : Cond.methodLink RX4 49 yX4_shorten ∈ wd := wdof (i := 320) (by decide +kernel) rfl
theorem wl322 : Cond.instanceMethod yX4_shorten ∈ wd := wdof (i := 322) (by decide +kernel) rfl
theorem wl323 : Cond.code yX4_shorten cX4_shorten 8 none ∈ wd := wdof (i := 323) (by decide +kernel) rfl
theorem wl324 : Cond.methodLink RX4 53 yJ9_min_7cf53 ∈ wd := wdof (i := 324) (by decide +kernel) rfl
theorem wl325 : Cond.static yJ9_min_7cf53 ∈ wd := wdof (i := 325) (by decide +kernel) rfl
theorem wl326 : Cond.code yJ9_min_7cf53 cJ9_min_7cf53 2 (some .int) ∈ wd := wdof (i := 326) (by decide +kernel) rfl
theorem wl327 : Cond.methodLink RX7 79 yX2_forget ∈ wd := wdof (i := 327) (by decide +kernel) rfl
theorem wl328 : Cond.instanceMethod yX2_forget ∈ wd := wdof (i := 328) (by decide +kernel) rfl
theorem wl329 : Cond.selects RX2 yX2_forget yX2_forget ∈ wd := wdof (i := 329) (by decide +kernel) rfl
theorem wl330 : Cond.code yX2_forget cX2_forget 1 none ∈ wd := wdof (i := 330) (by decide +kernel) rfl
theorem wl331 : Cond.methodLink RX7 82 yX3_forget ∈ wd := wdof (i := 331) (by decide +kernel) rfl
theorem wl332 : Cond.instanceMethod yX3_forget ∈ wd := wdof (i := 332) (by decide +kernel) rfl
theorem wl333 : Cond.selects RX3 yX3_forget yX3_forget ∈ wd := wdof (i := 333) (by decide +kernel) rfl
theorem wl334 : Cond.code yX3_forget cX3_forget 1 none ∈ wd := wdof (i := 334) (by decide +kernel) rfl
theorem wl335 : Cond.methodLink RL 18 yX7_least ∈ wd := wdof (i := 335) (by decide +kernel) rfl
theorem wl336 : Cond.instanceMethod yX7_least ∈ wd := wdof (i := 336) (by decide +kernel) rfl
theorem wl337 : Cond.selects RX7 yX7_least yX7_least ∈ wd := wdof (i := 337) (by decide +kernel) rfl
theorem wl338 : Cond.code yX7_least cX7_least 3 (some .int) ∈ wd := wdof (i := 338) (by decide +kernel) rfl
theorem wl339 : Cond.methodLink RX7 83 yX4_milesBetween ∈ wd := wdof (i := 339) (by decide +kernel) rfl
theorem wl340 : Cond.instanceMethod yX4_milesBetween ∈ wd := wdof (i := 340) (by decide +kernel) rfl
theorem wl341 : Cond.selects RX4 yX4_milesBetween yX4_milesBetween ∈ wd := wdof (i := 341) (by decide +kernel) rfl
theorem wl342 : Cond.code yX4_milesBetween cX4_milesBetween 4 (some .int) ∈ wd := wdof (i := 342) (by decide +kernel) rfl
theorem wl343 : Cond.methodLink RL 23 yX7_route ∈ wd := wdof (i := 343) (by decide +kernel) rfl
theorem wl344 : Cond.instanceMethod yX7_route ∈ wd := wdof (i := 344) (by decide +kernel) rfl
theorem wl345 : Cond.selects RX7 yX7_route yX7_route ∈ wd := wdof (i := 345) (by decide +kernel) rfl
theorem wl346 : Cond.code yX7_route cX7_route 3 (some .int) ∈ wd := wdof (i := 346) (by decide +kernel) rfl
theorem wl347 : Cond.methodLink RX7 87 yX4_lineTowards ∈ wd := wdof (i := 347) (by decide +kernel) rfl
theorem wl348 : Cond.instanceMethod yX4_lineTowards ∈ wd := wdof (i := 348) (by decide +kernel) rfl
theorem wl349 : Cond.selects RX4 yX4_lineTowards yX4_lineTowards ∈ wd := wdof (i := 349) (by decide +kernel) rfl
theorem wl350 : Cond.code yX4_lineTowards cX4_lineTowards 8 (some .int) ∈ wd := wdof (i := 350) (by decide +kernel) rfl
theorem wl351 : Cond.methodLink RX4 59 yX4_milesBetween ∈ wd := wdof (i := 351) (by decide +kernel) rfl
theorem wl352 : Cond.methodLink RX4 62 yX4_farEnd ∈ wd := wdof (i := 352) (by decide +kernel) rfl
theorem wl353 : Cond.instanceMethod yX4_farEnd ∈ wd := wdof (i := 353) (by decide +kernel) rfl
theorem wl354 : Cond.selects RX4 yX4_farEnd yX4_farEnd ∈ wd := wdof (i := 354) (by decide +kernel) rfl
theorem wl355 : Cond.code yX4_farEnd cX4_farEnd 3 (some .int) ∈ wd := wdof (i := 355) (by decide +kernel) rfl
theorem wl356 : Cond.methodLink RL 27 yX7_part ∈ wd := wdof (i := 356) (by decide +kernel) rfl
theorem wl357 : Cond.instanceMethod yX7_part ∈ wd := wdof (i := 357) (by decide +kernel) rfl
theorem wl358 : Cond.selects RX7 yX7_part yX7_part ∈ wd := wdof (i := 358) (by decide +kernel) rfl
theorem wl359 : Cond.code yX7_part cX7_part 5 (some .int) ∈ wd := wdof (i := 359) (by decide +kernel) rfl
theorem wl360 : Cond.methodLink RX7 90 yX7_isCompany ∈ wd := wdof (i := 360) (by decide +kernel) rfl
theorem wl361 : Cond.methodLink RX7 94 yX5_divide ∈ wd := wdof (i := 361) (by decide +kernel) rfl
theorem wl362 : Cond.instanceMethod yX5_divide ∈ wd := wdof (i := 362) (by decide +kernel) rfl
theorem wl363 : Cond.selects RX5 yX5_divide yX5_divide ∈ wd := wdof (i := 363) (by decide +kernel) rfl
theorem wl364 : Cond.code yX5_divide cX5_divide 5 (some .boolean) ∈ wd := wdof (i := 364) (by decide +kernel) rfl
theorem wl365 : Cond.constant RX5 32 (1000000) ∈ wd := wdof (i := 365) (by decide +kernel) rfl
theorem wl367 : Cond.methodLink RX5 37 yX5_travel ∈ wd := wdof (i := 367) (by decide +kernel) rfl
theorem wl369 : Cond.instanceMethod yX5_travel ∈ wd := wdof (i := 369) (by decide +kernel) rfl
theorem wl370 : Cond.code yX5_travel cX5_travel 6 (some .boolean) ∈ wd := wdof (i := 370) (by decide +kernel) rfl
theorem wl371 : Cond.methodLink RX5 45 yJ7_fill_53178 ∈ wd := wdof (i := 371) (by decide +kernel) rfl
theorem wl372 : Cond.methodLink RX5 51 yX4_lineTowards ∈ wd := wdof (i := 372) (by decide +kernel) rfl
theorem wl373 : Cond.methodLink RX5 63 yX4_farEnd ∈ wd := wdof (i := 373) (by decide +kernel) rfl
theorem wl375 : Cond.methodLink RX5 41 yX5_divideByMiles ∈ wd := wdof (i := 375) (by decide +kernel) rfl
theorem wl377 : Cond.instanceMethod yX5_divideByMiles ∈ wd := wdof (i := 377) (by decide +kernel) rfl
theorem wl378 : Cond.code yX5_divideByMiles cX5_divideByMiles 7 (some .boolean) ∈ wd := wdof (i := 378) (by decide +kernel) rfl
theorem wl380 : Cond.static yX7_sumOf ∈ wd := wdof (i := 380) (by decide +kernel) rfl
theorem wl381 : Cond.code yX7_sumOf cX7_sumOf 3 (some .int) ∈ wd := wdof (i := 381) (by decide +kernel) rfl
theorem wl382 : Cond.methodLink RX5 73 yX5_giveOneMore ∈ wd := wdof (i := 382) (by decide +kernel) rfl
theorem wl384 : Cond.instanceMethod yX5_giveOneMore ∈ wd := wdof (i := 384) (by decide +kernel) rfl
theorem wl385 : Cond.code yX5_giveOneMore cX5_giveOneMore 3 none ∈ wd := wdof (i := 385) (by decide +kernel) rfl
theorem wl386 : Cond.methodLink RL 31 yX7_book ∈ wd := wdof (i := 386) (by decide +kernel) rfl
theorem wl387 : Cond.instanceMethod yX7_book ∈ wd := wdof (i := 387) (by decide +kernel) rfl
theorem wl388 : Cond.selects RX7 yX7_book yX7_book ∈ wd := wdof (i := 388) (by decide +kernel) rfl
theorem wl389 : Cond.code yX7_book cX7_book 6 (some .boolean) ∈ wd := wdof (i := 389) (by decide +kernel) rfl
theorem wl390 : Cond.methodLink RL 36 yX7_wagon ∈ wd := wdof (i := 390) (by decide +kernel) rfl
theorem wl391 : Cond.instanceMethod yX7_wagon ∈ wd := wdof (i := 391) (by decide +kernel) rfl
theorem wl392 : Cond.selects RX7 yX7_wagon yX7_wagon ∈ wd := wdof (i := 392) (by decide +kernel) rfl
theorem wl393 : Cond.code yX7_wagon cX7_wagon 4 (some .int) ∈ wd := wdof (i := 393) (by decide +kernel) rfl
theorem wl394 : Cond.methodLink RX7 101 yX6_addWagon ∈ wd := wdof (i := 394) (by decide +kernel) rfl
theorem wl395 : Cond.instanceMethod yX6_addWagon ∈ wd := wdof (i := 395) (by decide +kernel) rfl
theorem wl396 : Cond.selects RX6 yX6_addWagon yX6_addWagon ∈ wd := wdof (i := 396) (by decide +kernel) rfl
theorem wl397 : Cond.code yX6_addWagon cX6_addWagon 4 (some .int) ∈ wd := wdof (i := 397) (by decide +kernel) rfl
theorem wl399 : Cond.static yX7_isMark ∈ wd := wdof (i := 399) (by decide +kernel) rfl
theorem wl400 : Cond.code yX7_isMark cX7_isMark 1 (some .boolean) ∈ wd := wdof (i := 400) (by decide +kernel) rfl
theorem wl401 : Cond.constant RX7 178 (99999) ∈ wd := wdof (i := 401) (by decide +kernel) rfl
theorem wl402 : Cond.methodLink RX7 179 yX7_isWithin ∈ wd := wdof (i := 402) (by decide +kernel) rfl
theorem wl404 : Cond.methodLink RL 40 yX7_see ∈ wd := wdof (i := 404) (by decide +kernel) rfl
theorem wl405 : Cond.instanceMethod yX7_see ∈ wd := wdof (i := 405) (by decide +kernel) rfl
theorem wl406 : Cond.selects RX7 yX7_see yX7_see ∈ wd := wdof (i := 406) (by decide +kernel) rfl
theorem wl407 : Cond.code yX7_see cX7_see 6 (some .int) ∈ wd := wdof (i := 407) (by decide +kernel) rfl
theorem wl408 : Cond.methodLink RX7 104 yX6_addSight ∈ wd := wdof (i := 408) (by decide +kernel) rfl
theorem wl409 : Cond.instanceMethod yX6_addSight ∈ wd := wdof (i := 409) (by decide +kernel) rfl
theorem wl410 : Cond.selects RX6 yX6_addSight yX6_addSight ∈ wd := wdof (i := 410) (by decide +kernel) rfl
theorem wl411 : Cond.code yX6_addSight cX6_addSight 5 (some .int) ∈ wd := wdof (i := 411) (by decide +kernel) rfl
theorem wl414 : Cond.methodLink RL 44 yX7_close ∈ wd := wdof (i := 414) (by decide +kernel) rfl
theorem wl415 : Cond.instanceMethod yX7_close ∈ wd := wdof (i := 415) (by decide +kernel) rfl
theorem wl416 : Cond.selects RX7 yX7_close yX7_close ∈ wd := wdof (i := 416) (by decide +kernel) rfl
theorem wl417 : Cond.code yX7_close cX7_close 2 (some .int) ∈ wd := wdof (i := 417) (by decide +kernel) rfl
theorem wl418 : Cond.methodLink RX7 107 yX0_addCharges ∈ wd := wdof (i := 418) (by decide +kernel) rfl
theorem wl419 : Cond.instanceMethod yX0_addCharges ∈ wd := wdof (i := 419) (by decide +kernel) rfl
theorem wl420 : Cond.selects RX0 yX0_addCharges yX0_addCharges ∈ wd := wdof (i := 420) (by decide +kernel) rfl
theorem wl421 : Cond.code yX0_addCharges cX0_addCharges 5 none ∈ wd := wdof (i := 421) (by decide +kernel) rfl
theorem wl422 : Cond.methodLink RX0 39 yX2_solve ∈ wd := wdof (i := 422) (by decide +kernel) rfl
theorem wl423 : Cond.instanceMethod yX2_solve ∈ wd := wdof (i := 423) (by decide +kernel) rfl
theorem wl424 : Cond.selects RX2 yX2_solve yX2_solve ∈ wd := wdof (i := 424) (by decide +kernel) rfl
theorem wl425 : Cond.code yX2_solve cX2_solve 1 none ∈ wd := wdof (i := 425) (by decide +kernel) rfl
theorem wl426 : Cond.methodLink RX2 52 yX2_measureErrors ∈ wd := wdof (i := 426) (by decide +kernel) rfl
theorem wl428 : Cond.instanceMethod yX2_measureErrors ∈ wd := wdof (i := 428) (by decide +kernel) rfl
theorem wl429 : Cond.code yX2_measureErrors cX2_measureErrors 5 none ∈ wd := wdof (i := 429) (by decide +kernel) rfl
theorem wl430 : Cond.methodLink RX2 77 yX6_difference ∈ wd := wdof (i := 430) (by decide +kernel) rfl
theorem wl431 : Cond.static yX6_difference ∈ wd := wdof (i := 431) (by decide +kernel) rfl
theorem wl432 : Cond.code yX6_difference cX6_difference 11 (some .int) ∈ wd := wdof (i := 432) (by decide +kernel) rfl
theorem wl433 : Cond.methodLink RX2 81 yJ9_min_7cf53 ∈ wd := wdof (i := 433) (by decide +kernel) rfl
theorem wl434 : Cond.methodLink RX2 55 yJ7_fill_53178 ∈ wd := wdof (i := 434) (by decide +kernel) rfl
theorem wl435 : Cond.methodLink RX2 64 yX2_searchFrom ∈ wd := wdof (i := 435) (by decide +kernel) rfl
theorem wl436 : Cond.static yX2_searchFrom ∈ wd := wdof (i := 436) (by decide +kernel) rfl
theorem wl437 : Cond.code yX2_searchFrom cX2_searchFrom 6 none ∈ wd := wdof (i := 437) (by decide +kernel) rfl
theorem wl438 : Cond.methodLink RX2 86 yX2_keep ∈ wd := wdof (i := 438) (by decide +kernel) rfl
theorem wl440 : Cond.instanceMethod yX2_keep ∈ wd := wdof (i := 440) (by decide +kernel) rfl
theorem wl441 : Cond.code yX2_keep cX2_keep 2 none ∈ wd := wdof (i := 441) (by decide +kernel) rfl
theorem wl442 : Cond.methodLink RX2 106 arraycopyName ∈ wd := wdof (i := 442) (by decide +kernel) rfl
theorem wl443 : Cond.static arraycopyName ∈ wd := wdof (i := 443) (by decide +kernel) rfl
theorem wl444 : Cond.native arraycopyName ∈ wd := wdof (i := 444) (by decide +kernel) rfl
theorem wl445 : Cond.methodLink RX2 90 yX2_isInTime ∈ wd := wdof (i := 445) (by decide +kernel) rfl
theorem wl447 : Cond.instanceMethod yX2_isInTime ∈ wd := wdof (i := 447) (by decide +kernel) rfl
theorem wl448 : Cond.code yX2_isInTime cX2_isInTime 6 (some .boolean) ∈ wd := wdof (i := 448) (by decide +kernel) rfl
theorem wl449 : Cond.constant RX2 102 (1000000) ∈ wd := wdof (i := 449) (by decide +kernel) rfl
theorem wl450 : Cond.methodLink RX0 44 yX0_owedAsJoined ∈ wd := wdof (i := 450) (by decide +kernel) rfl
theorem wl452 : Cond.instanceMethod yX0_owedAsJoined ∈ wd := wdof (i := 452) (by decide +kernel) rfl
theorem wl453 : Cond.code yX0_owedAsJoined cX0_owedAsJoined 6 (some .int) ∈ wd := wdof (i := 453) (by decide +kernel) rfl
theorem wl454 : Cond.methodLink RX0 64 yX0_priceOf ∈ wd := wdof (i := 454) (by decide +kernel) rfl
theorem wl456 : Cond.instanceMethod yX0_priceOf ∈ wd := wdof (i := 456) (by decide +kernel) rfl
theorem wl457 : Cond.code yX0_priceOf cX0_priceOf 2 (some .int) ∈ wd := wdof (i := 457) (by decide +kernel) rfl
theorem wl458 : Cond.methodLink RX0 68 yJ9_max_7cf53 ∈ wd := wdof (i := 458) (by decide +kernel) rfl
theorem wl459 : Cond.static yJ9_max_7cf53 ∈ wd := wdof (i := 459) (by decide +kernel) rfl
theorem wl460 : Cond.code yJ9_max_7cf53 cJ9_max_7cf53 2 (some .int) ∈ wd := wdof (i := 460) (by decide +kernel) rfl
theorem wl461 : Cond.methodLink RL 49 yX7_error ∈ wd := wdof (i := 461) (by decide +kernel) rfl
theorem wl462 : Cond.instanceMethod yX7_error ∈ wd := wdof (i := 462) (by decide +kernel) rfl
theorem wl463 : Cond.selects RX7 yX7_error yX7_error ∈ wd := wdof (i := 463) (by decide +kernel) rfl
theorem wl464 : Cond.code yX7_error cX7_error 3 (some .int) ∈ wd := wdof (i := 464) (by decide +kernel) rfl
theorem wl465 : Cond.methodLink RX7 114 yX6_errorOf ∈ wd := wdof (i := 465) (by decide +kernel) rfl
theorem wl466 : Cond.instanceMethod yX6_errorOf ∈ wd := wdof (i := 466) (by decide +kernel) rfl
theorem wl467 : Cond.selects RX6 yX6_errorOf yX6_errorOf ∈ wd := wdof (i := 467) (by decide +kernel) rfl
theorem wl468 : Cond.code yX6_errorOf cX6_errorOf 3 (some .int) ∈ wd := wdof (i := 468) (by decide +kernel) rfl
theorem wl469 : Cond.methodLink RX6 51 yX6_hasSight ∈ wd := wdof (i := 469) (by decide +kernel) rfl
theorem wl470 : Cond.instanceMethod yX6_hasSight ∈ wd := wdof (i := 470) (by decide +kernel) rfl
theorem wl471 : Cond.selects RX6 yX6_hasSight yX6_hasSight ∈ wd := wdof (i := 471) (by decide +kernel) rfl
theorem wl472 : Cond.code yX6_hasSight cX6_hasSight 2 (some .boolean) ∈ wd := wdof (i := 472) (by decide +kernel) rfl
theorem wl473 : Cond.methodLink RX6 54 yX6_hasWagon ∈ wd := wdof (i := 473) (by decide +kernel) rfl
theorem wl474 : Cond.instanceMethod yX6_hasWagon ∈ wd := wdof (i := 474) (by decide +kernel) rfl
theorem wl475 : Cond.selects RX6 yX6_hasWagon yX6_hasWagon ∈ wd := wdof (i := 475) (by decide +kernel) rfl
theorem wl476 : Cond.code yX6_hasWagon cX6_hasWagon 2 (some .boolean) ∈ wd := wdof (i := 476) (by decide +kernel) rfl
theorem wl477 : Cond.methodLink RX6 57 yX6_difference ∈ wd := wdof (i := 477) (by decide +kernel) rfl
theorem wl478 : Cond.methodLink RL 53 yX7_whose ∈ wd := wdof (i := 478) (by decide +kernel) rfl
theorem wl479 : Cond.instanceMethod yX7_whose ∈ wd := wdof (i := 479) (by decide +kernel) rfl
theorem wl480 : Cond.selects RX7 yX7_whose yX7_whose ∈ wd := wdof (i := 480) (by decide +kernel) rfl
theorem wl481 : Cond.code yX7_whose cX7_whose 2 (some .int) ∈ wd := wdof (i := 481) (by decide +kernel) rfl
theorem wl482 : Cond.methodLink RX7 117 yX2_wagonOf ∈ wd := wdof (i := 482) (by decide +kernel) rfl
theorem wl483 : Cond.instanceMethod yX2_wagonOf ∈ wd := wdof (i := 483) (by decide +kernel) rfl
theorem wl484 : Cond.selects RX2 yX2_wagonOf yX2_wagonOf ∈ wd := wdof (i := 484) (by decide +kernel) rfl
theorem wl485 : Cond.code yX2_wagonOf cX2_wagonOf 2 (some .int) ∈ wd := wdof (i := 485) (by decide +kernel) rfl
theorem wl486 : Cond.methodLink RX2 43 yX6_hasSight ∈ wd := wdof (i := 486) (by decide +kernel) rfl
theorem wl487 : Cond.methodLink RX2 49 yX2_solve ∈ wd := wdof (i := 487) (by decide +kernel) rfl
theorem wl488 : Cond.methodLink RL 58 yX7_cost ∈ wd := wdof (i := 488) (by decide +kernel) rfl
theorem wl489 : Cond.instanceMethod yX7_cost ∈ wd := wdof (i := 489) (by decide +kernel) rfl
theorem wl490 : Cond.selects RX7 yX7_cost yX7_cost ∈ wd := wdof (i := 490) (by decide +kernel) rfl
theorem wl491 : Cond.code yX7_cost cX7_cost 1 (some .int) ∈ wd := wdof (i := 491) (by decide +kernel) rfl
theorem wl492 : Cond.methodLink RX7 121 yX2_lowestCost ∈ wd := wdof (i := 492) (by decide +kernel) rfl
theorem wl493 : Cond.instanceMethod yX2_lowestCost ∈ wd := wdof (i := 493) (by decide +kernel) rfl
theorem wl494 : Cond.selects RX2 yX2_lowestCost yX2_lowestCost ∈ wd := wdof (i := 494) (by decide +kernel) rfl
theorem wl495 : Cond.code yX2_lowestCost cX2_lowestCost 1 (some .int) ∈ wd := wdof (i := 495) (by decide +kernel) rfl
theorem wl496 : Cond.methodLink RL 62 yX7_terms ∈ wd := wdof (i := 496) (by decide +kernel) rfl
theorem wl497 : Cond.instanceMethod yX7_terms ∈ wd := wdof (i := 497) (by decide +kernel) rfl
theorem wl498 : Cond.selects RX7 yX7_terms yX7_terms ∈ wd := wdof (i := 498) (by decide +kernel) rfl
theorem wl499 : Cond.code yX7_terms cX7_terms 3 (some .boolean) ∈ wd := wdof (i := 499) (by decide +kernel) rfl
theorem wl500 : Cond.methodLink RX7 125 yX0_agree ∈ wd := wdof (i := 500) (by decide +kernel) rfl
theorem wl501 : Cond.instanceMethod yX0_agree ∈ wd := wdof (i := 501) (by decide +kernel) rfl
theorem wl502 : Cond.selects RX0 yX0_agree yX0_agree ∈ wd := wdof (i := 502) (by decide +kernel) rfl
theorem wl503 : Cond.code yX0_agree cX0_agree 3 (some .boolean) ∈ wd := wdof (i := 503) (by decide +kernel) rfl
theorem wl505 : Cond.methodLink RL 67 yX7_charge ∈ wd := wdof (i := 505) (by decide +kernel) rfl
theorem wl506 : Cond.instanceMethod yX7_charge ∈ wd := wdof (i := 506) (by decide +kernel) rfl
theorem wl507 : Cond.selects RX7 yX7_charge yX7_charge ∈ wd := wdof (i := 507) (by decide +kernel) rfl
theorem wl508 : Cond.code yX7_charge cX7_charge 3 (some .int) ∈ wd := wdof (i := 508) (by decide +kernel) rfl
theorem wl509 : Cond.methodLink RX7 129 yX0_owed ∈ wd := wdof (i := 509) (by decide +kernel) rfl
theorem wl510 : Cond.instanceMethod yX0_owed ∈ wd := wdof (i := 510) (by decide +kernel) rfl
theorem wl511 : Cond.selects RX0 yX0_owed yX0_owed ∈ wd := wdof (i := 511) (by decide +kernel) rfl
theorem wl512 : Cond.code yX0_owed cX0_owed 3 (some .int) ∈ wd := wdof (i := 512) (by decide +kernel) rfl
theorem wl513 : Cond.methodLink RX0 30 yX6_hasWagon ∈ wd := wdof (i := 513) (by decide +kernel) rfl
theorem wl515 : Cond.methodLink RL 71 yX7_balance ∈ wd := wdof (i := 515) (by decide +kernel) rfl
theorem wl516 : Cond.instanceMethod yX7_balance ∈ wd := wdof (i := 516) (by decide +kernel) rfl
theorem wl517 : Cond.selects RX7 yX7_balance yX7_balance ∈ wd := wdof (i := 517) (by decide +kernel) rfl
theorem wl518 : Cond.code yX7_balance cX7_balance 2 (some .int) ∈ wd := wdof (i := 518) (by decide +kernel) rfl
theorem wl519 : Cond.methodLink RX7 132 yX7_strikeBalances ∈ wd := wdof (i := 519) (by decide +kernel) rfl
theorem wl521 : Cond.instanceMethod yX7_strikeBalances ∈ wd := wdof (i := 521) (by decide +kernel) rfl
theorem wl522 : Cond.code yX7_strikeBalances cX7_strikeBalances 1 none ∈ wd := wdof (i := 522) (by decide +kernel) rfl
theorem wl523 : Cond.methodLink RX7 172 arraycopyName ∈ wd := wdof (i := 523) (by decide +kernel) rfl
theorem wl524 : Cond.methodLink RL 75 yX7_fewest ∈ wd := wdof (i := 524) (by decide +kernel) rfl
theorem wl525 : Cond.instanceMethod yX7_fewest ∈ wd := wdof (i := 525) (by decide +kernel) rfl
theorem wl526 : Cond.selects RX7 yX7_fewest yX7_fewest ∈ wd := wdof (i := 526) (by decide +kernel) rfl
theorem wl527 : Cond.code yX7_fewest cX7_fewest 1 (some .int) ∈ wd := wdof (i := 527) (by decide +kernel) rfl
theorem wl528 : Cond.methodLink RX7 135 yX1_weigh ∈ wd := wdof (i := 528) (by decide +kernel) rfl
theorem wl529 : Cond.instanceMethod yX1_weigh ∈ wd := wdof (i := 529) (by decide +kernel) rfl
theorem wl530 : Cond.selects RX1 yX1_weigh yX1_weigh ∈ wd := wdof (i := 530) (by decide +kernel) rfl
theorem wl531 : Cond.code yX1_weigh cX1_weigh 3 none ∈ wd := wdof (i := 531) (by decide +kernel) rfl
theorem wl532 : Cond.methodLink RX1 22 yX1_weighSet ∈ wd := wdof (i := 532) (by decide +kernel) rfl
theorem wl534 : Cond.instanceMethod yX1_weighSet ∈ wd := wdof (i := 534) (by decide +kernel) rfl
theorem wl535 : Cond.code yX1_weighSet cX1_weighSet 7 none ∈ wd := wdof (i := 535) (by decide +kernel) rfl
theorem wl536 : Cond.methodLink RX1 26 yJ9_max_7cf53 ∈ wd := wdof (i := 536) (by decide +kernel) rfl
theorem wl537 : Cond.methodLink RX7 138 yX1_payments ∈ wd := wdof (i := 537) (by decide +kernel) rfl
theorem wl538 : Cond.instanceMethod yX1_payments ∈ wd := wdof (i := 538) (by decide +kernel) rfl
theorem wl539 : Cond.selects RX1 yX1_payments yX1_payments ∈ wd := wdof (i := 539) (by decide +kernel) rfl
theorem wl540 : Cond.code yX1_payments cX1_payments 1 (some .int) ∈ wd := wdof (i := 540) (by decide +kernel) rfl
theorem wl541 : Cond.methodLink RX1 32 yJ6_bitCount_0f7a4 ∈ wd := wdof (i := 541) (by decide +kernel) rfl
theorem wl542 : Cond.static yJ6_bitCount_0f7a4 ∈ wd := wdof (i := 542) (by decide +kernel) rfl
theorem wl543 : Cond.code yJ6_bitCount_0f7a4 cJ6_bitCount_0f7a4 1 (some .int) ∈ wd := wdof (i := 543) (by decide +kernel) rfl
theorem wl544 : Cond.constant RJ6 265 (1431655765) ∈ wd := wdof (i := 544) (by decide +kernel) rfl
theorem wl545 : Cond.constant RJ6 266 (858993459) ∈ wd := wdof (i := 545) (by decide +kernel) rfl
theorem wl546 : Cond.constant RJ6 267 (252645135) ∈ wd := wdof (i := 546) (by decide +kernel) rfl
theorem wl547 : Cond.methodLink RL 79 yX7_group ∈ wd := wdof (i := 547) (by decide +kernel) rfl
theorem wl548 : Cond.instanceMethod yX7_group ∈ wd := wdof (i := 548) (by decide +kernel) rfl
theorem wl549 : Cond.selects RX7 yX7_group yX7_group ∈ wd := wdof (i := 549) (by decide +kernel) rfl
theorem wl550 : Cond.code yX7_group cX7_group 2 (some .int) ∈ wd := wdof (i := 550) (by decide +kernel) rfl
theorem wl551 : Cond.methodLink RX7 141 yX1_groupWith ∈ wd := wdof (i := 551) (by decide +kernel) rfl
theorem wl552 : Cond.instanceMethod yX1_groupWith ∈ wd := wdof (i := 552) (by decide +kernel) rfl
theorem wl553 : Cond.selects RX1 yX1_groupWith yX1_groupWith ∈ wd := wdof (i := 553) (by decide +kernel) rfl
theorem wl554 : Cond.code yX1_groupWith cX1_groupWith 6 (some .int) ∈ wd := wdof (i := 554) (by decide +kernel) rfl
theorem wl555 : Cond.methodLink RX1 38 yX1_firstGroup ∈ wd := wdof (i := 555) (by decide +kernel) rfl
theorem wl557 : Cond.instanceMethod yX1_firstGroup ∈ wd := wdof (i := 557) (by decide +kernel) rfl
theorem wl558 : Cond.code yX1_firstGroup cX1_firstGroup 5 (some .int) ∈ wd := wdof (i := 558) (by decide +kernel) rfl
theorem wl559 : Cond.methodLink RL 83 yX7_empties ∈ wd := wdof (i := 559) (by decide +kernel) rfl
theorem wl560 : Cond.instanceMethod yX7_empties ∈ wd := wdof (i := 560) (by decide +kernel) rfl
theorem wl561 : Cond.selects RX7 yX7_empties yX7_empties ∈ wd := wdof (i := 561) (by decide +kernel) rfl
theorem wl562 : Cond.code yX7_empties cX7_empties 4 (some .boolean) ∈ wd := wdof (i := 562) (by decide +kernel) rfl
theorem wl563 : Cond.methodLink RX7 144 yX3_place ∈ wd := wdof (i := 563) (by decide +kernel) rfl
theorem wl564 : Cond.instanceMethod yX3_place ∈ wd := wdof (i := 564) (by decide +kernel) rfl
theorem wl565 : Cond.selects RX3 yX3_place yX3_place ∈ wd := wdof (i := 565) (by decide +kernel) rfl
theorem wl566 : Cond.code yX3_place cX3_place 4 (some .boolean) ∈ wd := wdof (i := 566) (by decide +kernel) rfl
theorem wl569 : Cond.methodLink RX3 53 yX3_forget ∈ wd := wdof (i := 569) (by decide +kernel) rfl
theorem wl570 : Cond.methodLink RL 88 yX7_met ∈ wd := wdof (i := 570) (by decide +kernel) rfl
theorem wl571 : Cond.instanceMethod yX7_met ∈ wd := wdof (i := 571) (by decide +kernel) rfl
theorem wl572 : Cond.selects RX7 yX7_met yX7_met ∈ wd := wdof (i := 572) (by decide +kernel) rfl
theorem wl573 : Cond.code yX7_met cX7_met 1 (some .int) ∈ wd := wdof (i := 573) (by decide +kernel) rfl
theorem wl574 : Cond.methodLink RX7 147 yX3_solve ∈ wd := wdof (i := 574) (by decide +kernel) rfl
theorem wl575 : Cond.instanceMethod yX3_solve ∈ wd := wdof (i := 575) (by decide +kernel) rfl
theorem wl576 : Cond.selects RX3 yX3_solve yX3_solve ∈ wd := wdof (i := 576) (by decide +kernel) rfl
theorem wl577 : Cond.code yX3_solve cX3_solve 2 none ∈ wd := wdof (i := 577) (by decide +kernel) rfl
theorem wl578 : Cond.methodLink RX3 56 yX3_stayAtHome ∈ wd := wdof (i := 578) (by decide +kernel) rfl
theorem wl580 : Cond.instanceMethod yX3_stayAtHome ∈ wd := wdof (i := 580) (by decide +kernel) rfl
theorem wl581 : Cond.code yX3_stayAtHome cX3_stayAtHome 2 none ∈ wd := wdof (i := 581) (by decide +kernel) rfl
theorem wl582 : Cond.methodLink RX3 63 yJ7_fill_53178 ∈ wd := wdof (i := 582) (by decide +kernel) rfl
theorem wl583 : Cond.methodLink RX3 69 yJ9_min_7cf53 ∈ wd := wdof (i := 583) (by decide +kernel) rfl
theorem wl584 : Cond.methodLink RX3 59 yX3_leadMore ∈ wd := wdof (i := 584) (by decide +kernel) rfl
theorem wl586 : Cond.instanceMethod yX3_leadMore ∈ wd := wdof (i := 586) (by decide +kernel) rfl
theorem wl587 : Cond.code yX3_leadMore cX3_leadMore 3 (some .boolean) ∈ wd := wdof (i := 587) (by decide +kernel) rfl
theorem wl588 : Cond.methodLink RX3 75 yX3_measureReach ∈ wd := wdof (i := 588) (by decide +kernel) rfl
theorem wl590 : Cond.instanceMethod yX3_measureReach ∈ wd := wdof (i := 590) (by decide +kernel) rfl
theorem wl591 : Cond.code yX3_measureReach cX3_measureReach 4 none ∈ wd := wdof (i := 591) (by decide +kernel) rfl
theorem wl592 : Cond.constant RX3 90 (1000000) ∈ wd := wdof (i := 592) (by decide +kernel) rfl
theorem wl593 : Cond.methodLink RX3 91 yX3_stepFrom ∈ wd := wdof (i := 593) (by decide +kernel) rfl
theorem wl595 : Cond.instanceMethod yX3_stepFrom ∈ wd := wdof (i := 595) (by decide +kernel) rfl
theorem wl596 : Cond.code yX3_stepFrom cX3_stepFrom 5 (some .boolean) ∈ wd := wdof (i := 596) (by decide +kernel) rfl
theorem wl597 : Cond.methodLink RX3 94 yX3_stepMiles ∈ wd := wdof (i := 597) (by decide +kernel) rfl
theorem wl599 : Cond.instanceMethod yX3_stepMiles ∈ wd := wdof (i := 599) (by decide +kernel) rfl
theorem wl600 : Cond.code yX3_stepMiles cX3_stepMiles 4 (some .int) ∈ wd := wdof (i := 600) (by decide +kernel) rfl
theorem wl601 : Cond.methodLink RX3 102 yX3_isGiver ∈ wd := wdof (i := 601) (by decide +kernel) rfl
theorem wl603 : Cond.instanceMethod yX3_isGiver ∈ wd := wdof (i := 603) (by decide +kernel) rfl
theorem wl604 : Cond.code yX3_isGiver cX3_isGiver 2 (some .boolean) ∈ wd := wdof (i := 604) (by decide +kernel) rfl
theorem wl605 : Cond.methodLink RX3 105 yX3_isTaker ∈ wd := wdof (i := 605) (by decide +kernel) rfl
theorem wl607 : Cond.instanceMethod yX3_isTaker ∈ wd := wdof (i := 607) (by decide +kernel) rfl
theorem wl608 : Cond.code yX3_isTaker cX3_isTaker 2 (some .boolean) ∈ wd := wdof (i := 608) (by decide +kernel) rfl
theorem wl609 : Cond.methodLink RX3 78 yX3_nearestGoal ∈ wd := wdof (i := 609) (by decide +kernel) rfl
theorem wl611 : Cond.instanceMethod yX3_nearestGoal ∈ wd := wdof (i := 611) (by decide +kernel) rfl
theorem wl612 : Cond.code yX3_nearestGoal cX3_nearestGoal 4 (some .int) ∈ wd := wdof (i := 612) (by decide +kernel) rfl
theorem wl613 : Cond.methodLink RX3 82 yX3_amountTo ∈ wd := wdof (i := 613) (by decide +kernel) rfl
theorem wl615 : Cond.instanceMethod yX3_amountTo ∈ wd := wdof (i := 615) (by decide +kernel) rfl
theorem wl616 : Cond.code yX3_amountTo cX3_amountTo 5 (some .int) ∈ wd := wdof (i := 616) (by decide +kernel) rfl
theorem wl617 : Cond.methodLink RX3 86 yX3_moveTo ∈ wd := wdof (i := 617) (by decide +kernel) rfl
theorem wl619 : Cond.instanceMethod yX3_moveTo ∈ wd := wdof (i := 619) (by decide +kernel) rfl
theorem wl620 : Cond.code yX3_moveTo cX3_moveTo 6 none ∈ wd := wdof (i := 620) (by decide +kernel) rfl
theorem wl621 : Cond.methodLink RL 92 yX7_led ∈ wd := wdof (i := 621) (by decide +kernel) rfl
theorem wl622 : Cond.instanceMethod yX7_led ∈ wd := wdof (i := 622) (by decide +kernel) rfl
theorem wl623 : Cond.selects RX7 yX7_led yX7_led ∈ wd := wdof (i := 623) (by decide +kernel) rfl
theorem wl624 : Cond.code yX7_led cX7_led 1 (some .int) ∈ wd := wdof (i := 624) (by decide +kernel) rfl
theorem wl625 : Cond.methodLink RL 96 yX7_count ∈ wd := wdof (i := 625) (by decide +kernel) rfl
theorem wl626 : Cond.instanceMethod yX7_count ∈ wd := wdof (i := 626) (by decide +kernel) rfl
theorem wl627 : Cond.selects RX7 yX7_count yX7_count ∈ wd := wdof (i := 627) (by decide +kernel) rfl
theorem wl628 : Cond.code yX7_count cX7_count 2 (some .int) ∈ wd := wdof (i := 628) (by decide +kernel) rfl
theorem wl629 : Cond.methodLink RX7 165 yX7_sumOf ∈ wd := wdof (i := 629) (by decide +kernel) rfl
theorem wl630 : Cond.classLink RL 10 RX8 ∈ wd := wdof (i := 630) (by decide +kernel) rfl
theorem wl631 : Cond.instantiable RX8 31 ∈ wd := wdof (i := 631) (by decide +kernel) rfl
theorem wl632 : Cond.methodLink RL 12 yX8_init ∈ wd := wdof (i := 632) (by decide +kernel) rfl
theorem wl633 : Cond.instanceMethod yX8_init ∈ wd := wdof (i := 633) (by decide +kernel) rfl
theorem wl634 : Cond.code yX8_init cX8_init 1 none ∈ wd := wdof (i := 634) (by decide +kernel) rfl
theorem wl635 : Cond.methodLink RX8 1 objectInit ∈ wd := wdof (i := 635) (by decide +kernel) rfl
theorem wl636 : Cond.methodLink RX8 90 yX8_reckons ∈ wd := wdof (i := 636) (by decide +kernel) rfl
theorem wl638 : Cond.instanceMethod yX8_reckons ∈ wd := wdof (i := 638) (by decide +kernel) rfl
theorem wl639 : Cond.code yX8_reckons cX8_reckons 6 none ∈ wd := wdof (i := 639) (by decide +kernel) rfl
theorem wl640 : Cond.constant RX8 97 (1000000) ∈ wd := wdof (i := 640) (by decide +kernel) rfl
theorem wl641 : Cond.fieldLink RX8 98 "WagonClearingModel" "lines" "I" ∈ wd := wdof (i := 641) (by decide +kernel) rfl
theorem wl642 : Cond.fieldLink RX8 9 "WagonClearingModel" "lineA" "[I" ∈ wd := wdof (i := 642) (by decide +kernel) rfl
theorem wl643 : Cond.fieldLink RX8 13 "WagonClearingModel" "lineB" "[I" ∈ wd := wdof (i := 643) (by decide +kernel) rfl
theorem wl644 : Cond.fieldLink RX8 16 "WagonClearingModel" "lineOf" "[I" ∈ wd := wdof (i := 644) (by decide +kernel) rfl
theorem wl645 : Cond.fieldLink RX8 19 "WagonClearingModel" "miles" "[I" ∈ wd := wdof (i := 645) (by decide +kernel) rfl
theorem wl646 : Cond.fieldLink RX8 22 "WagonClearingModel" "least" "[I" ∈ wd := wdof (i := 646) (by decide +kernel) rfl
theorem wl647 : Cond.fieldLink RX8 125 "WagonClearingModel" "wagons" "I" ∈ wd := wdof (i := 647) (by decide +kernel) rfl
theorem wl648 : Cond.fieldLink RX8 25 "WagonClearingModel" "mark" "[I" ∈ wd := wdof (i := 648) (by decide +kernel) rfl
theorem wl649 : Cond.fieldLink RX8 28 "WagonClearingModel" "owner" "[I" ∈ wd := wdof (i := 649) (by decide +kernel) rfl
theorem wl650 : Cond.fieldLink RX8 128 "WagonClearingModel" "sights" "I" ∈ wd := wdof (i := 650) (by decide +kernel) rfl
theorem wl651 : Cond.fieldLink RX8 31 "WagonClearingModel" "seenMark" "[I" ∈ wd := wdof (i := 651) (by decide +kernel) rfl
theorem wl652 : Cond.fieldLink RX8 34 "WagonClearingModel" "seenAt" "[I" ∈ wd := wdof (i := 652) (by decide +kernel) rfl
theorem wl653 : Cond.fieldLink RX8 37 "WagonClearingModel" "seenOn" "[I" ∈ wd := wdof (i := 653) (by decide +kernel) rfl
theorem wl654 : Cond.fieldLink RX8 40 "WagonClearingModel" "seenOf" "[I" ∈ wd := wdof (i := 654) (by decide +kernel) rfl
theorem wl655 : Cond.fieldLink RX8 43 "WagonClearingModel" "free" "I" ∈ wd := wdof (i := 655) (by decide +kernel) rfl
theorem wl656 : Cond.fieldLink RX8 47 "WagonClearingModel" "price" "I" ∈ wd := wdof (i := 656) (by decide +kernel) rfl
theorem wl657 : Cond.fieldLink RX8 121 "WagonClearingModel" "booked" "I" ∈ wd := wdof (i := 657) (by decide +kernel) rfl
theorem wl658 : Cond.fieldLink RX8 50 "WagonClearingModel" "balances" "[I" ∈ wd := wdof (i := 658) (by decide +kernel) rfl
theorem wl659 : Cond.fieldLink RX8 53 "WagonClearingModel" "there" "[I" ∈ wd := wdof (i := 659) (by decide +kernel) rfl
theorem wl660 : Cond.fieldLink RX8 56 "WagonClearingModel" "wanted" "[I" ∈ wd := wdof (i := 660) (by decide +kernel) rfl
theorem wl661 : Cond.fieldLink RX8 59 "WagonClearingModel" "parts" "[I" ∈ wd := wdof (i := 661) (by decide +kernel) rfl
theorem wl662 : Cond.fieldLink RX8 62 "WagonClearingModel" "run" "[I" ∈ wd := wdof (i := 662) (by decide +kernel) rfl
theorem wl663 : Cond.fieldLink RX8 65 "WagonClearingModel" "cut" "[J" ∈ wd := wdof (i := 663) (by decide +kernel) rfl
theorem wl664 : Cond.fieldLink RX8 69 "WagonClearingModel" "of" "[I" ∈ wd := wdof (i := 664) (by decide +kernel) rfl
theorem wl665 : Cond.fieldLink RX8 72 "WagonClearingModel" "best" "[I" ∈ wd := wdof (i := 665) (by decide +kernel) rfl
theorem wl666 : Cond.fieldLink RX8 75 "WagonClearingModel" "nowOf" "[I" ∈ wd := wdof (i := 666) (by decide +kernel) rfl
theorem wl667 : Cond.fieldLink RX8 78 "WagonClearingModel" "most" "[I" ∈ wd := wdof (i := 667) (by decide +kernel) rfl
theorem wl668 : Cond.fieldLink RX8 81 "WagonClearingModel" "led" "[I" ∈ wd := wdof (i := 668) (by decide +kernel) rfl
theorem wl669 : Cond.fieldLink RX8 84 "WagonClearingModel" "far" "[I" ∈ wd := wdof (i := 669) (by decide +kernel) rfl
theorem wl670 : Cond.fieldLink RX8 87 "WagonClearingModel" "by" "[I" ∈ wd := wdof (i := 670) (by decide +kernel) rfl
theorem wl671 : Cond.fieldLink RX8 158 "WagonClearingModel" "sum" "I" ∈ wd := wdof (i := 671) (by decide +kernel) rfl
theorem wl735 : Cond.arrayClass .long ∈ wd := wdof (i := 735) (by decide +kernel) rfl
theorem wl736 : Cond.methodLink RL 17 yX8_line ∈ wd := wdof (i := 736) (by decide +kernel) rfl
theorem wl737 : Cond.instanceMethod yX8_line ∈ wd := wdof (i := 737) (by decide +kernel) rfl
theorem wl738 : Cond.selects RX8 yX8_line yX8_line ∈ wd := wdof (i := 738) (by decide +kernel) rfl
theorem wl739 : Cond.code yX8_line cX8_line 5 (some .int) ∈ wd := wdof (i := 739) (by decide +kernel) rfl
theorem wl740 : Cond.methodLink RX8 101 yX8_isJunction ∈ wd := wdof (i := 740) (by decide +kernel) rfl
theorem wl741 : Cond.static yX8_isJunction ∈ wd := wdof (i := 741) (by decide +kernel) rfl
theorem wl742 : Cond.code yX8_isJunction cX8_isJunction 1 (some .boolean) ∈ wd := wdof (i := 742) (by decide +kernel) rfl
theorem wl743 : Cond.methodLink RX8 93 yX8_in ∈ wd := wdof (i := 743) (by decide +kernel) rfl
theorem wl744 : Cond.static yX8_in ∈ wd := wdof (i := 744) (by decide +kernel) rfl
theorem wl745 : Cond.code yX8_in cX8_in 3 (some .boolean) ∈ wd := wdof (i := 745) (by decide +kernel) rfl
theorem wl746 : Cond.methodLink RX8 105 yX8_isCompany ∈ wd := wdof (i := 746) (by decide +kernel) rfl
theorem wl747 : Cond.static yX8_isCompany ∈ wd := wdof (i := 747) (by decide +kernel) rfl
theorem wl748 : Cond.code yX8_isCompany cX8_isCompany 1 (some .boolean) ∈ wd := wdof (i := 748) (by decide +kernel) rfl
theorem wl749 : Cond.methodLink RL 22 yX8_least ∈ wd := wdof (i := 749) (by decide +kernel) rfl
theorem wl750 : Cond.instanceMethod yX8_least ∈ wd := wdof (i := 750) (by decide +kernel) rfl
theorem wl751 : Cond.selects RX8 yX8_least yX8_least ∈ wd := wdof (i := 751) (by decide +kernel) rfl
theorem wl752 : Cond.code yX8_least cX8_least 4 (some .int) ∈ wd := wdof (i := 752) (by decide +kernel) rfl
theorem wl753 : Cond.methodLink RL 26 yX8_route ∈ wd := wdof (i := 753) (by decide +kernel) rfl
theorem wl754 : Cond.instanceMethod yX8_route ∈ wd := wdof (i := 754) (by decide +kernel) rfl
theorem wl755 : Cond.selects RX8 yX8_route yX8_route ∈ wd := wdof (i := 755) (by decide +kernel) rfl
theorem wl756 : Cond.code yX8_route cX8_route 6 (some .int) ∈ wd := wdof (i := 756) (by decide +kernel) rfl
theorem wl757 : Cond.methodLink RX8 108 yX8_least ∈ wd := wdof (i := 757) (by decide +kernel) rfl
theorem wl758 : Cond.methodLink RX8 111 yX8_otherEnd ∈ wd := wdof (i := 758) (by decide +kernel) rfl
theorem wl760 : Cond.instanceMethod yX8_otherEnd ∈ wd := wdof (i := 760) (by decide +kernel) rfl
theorem wl761 : Cond.code yX8_otherEnd cX8_otherEnd 3 (some .int) ∈ wd := wdof (i := 761) (by decide +kernel) rfl
theorem wl762 : Cond.methodLink RL 30 yX8_part ∈ wd := wdof (i := 762) (by decide +kernel) rfl
theorem wl763 : Cond.instanceMethod yX8_part ∈ wd := wdof (i := 763) (by decide +kernel) rfl
theorem wl764 : Cond.selects RX8 yX8_part yX8_part ∈ wd := wdof (i := 764) (by decide +kernel) rfl
theorem wl765 : Cond.code yX8_part cX8_part 5 (some .int) ∈ wd := wdof (i := 765) (by decide +kernel) rfl
theorem wl766 : Cond.methodLink RX8 119 yX8_parts ∈ wd := wdof (i := 766) (by decide +kernel) rfl
theorem wl768 : Cond.instanceMethod yX8_parts ∈ wd := wdof (i := 768) (by decide +kernel) rfl
theorem wl769 : Cond.code yX8_parts cX8_parts 13 (some .boolean) ∈ wd := wdof (i := 769) (by decide +kernel) rfl
theorem wl770 : Cond.methodLink RX8 114 yX8_route ∈ wd := wdof (i := 770) (by decide +kernel) rfl
theorem wl771 : Cond.constantLong RX8 117 (-1) ∈ wd := wdof (i := 771) (by decide +kernel) rfl
theorem wl772 : Cond.methodLink RL 35 yX8_book ∈ wd := wdof (i := 772) (by decide +kernel) rfl
theorem wl773 : Cond.instanceMethod yX8_book ∈ wd := wdof (i := 773) (by decide +kernel) rfl
theorem wl774 : Cond.selects RX8 yX8_book yX8_book ∈ wd := wdof (i := 774) (by decide +kernel) rfl
theorem wl775 : Cond.code yX8_book cX8_book 6 (some .boolean) ∈ wd := wdof (i := 775) (by decide +kernel) rfl
theorem wl776 : Cond.methodLink RL 39 yX8_wagon ∈ wd := wdof (i := 776) (by decide +kernel) rfl
theorem wl777 : Cond.instanceMethod yX8_wagon ∈ wd := wdof (i := 777) (by decide +kernel) rfl
theorem wl778 : Cond.selects RX8 yX8_wagon yX8_wagon ∈ wd := wdof (i := 778) (by decide +kernel) rfl
theorem wl779 : Cond.code yX8_wagon cX8_wagon 4 (some .int) ∈ wd := wdof (i := 779) (by decide +kernel) rfl
theorem wl780 : Cond.constant RX8 124 (99999) ∈ wd := wdof (i := 780) (by decide +kernel) rfl
theorem wl781 : Cond.methodLink RL 43 yX8_see ∈ wd := wdof (i := 781) (by decide +kernel) rfl
theorem wl782 : Cond.instanceMethod yX8_see ∈ wd := wdof (i := 782) (by decide +kernel) rfl
theorem wl783 : Cond.selects RX8 yX8_see yX8_see ∈ wd := wdof (i := 783) (by decide +kernel) rfl
theorem wl784 : Cond.code yX8_see cX8_see 5 (some .int) ∈ wd := wdof (i := 784) (by decide +kernel) rfl
theorem wl785 : Cond.methodLink RL 52 yX8_error ∈ wd := wdof (i := 785) (by decide +kernel) rfl
theorem wl786 : Cond.instanceMethod yX8_error ∈ wd := wdof (i := 786) (by decide +kernel) rfl
theorem wl787 : Cond.selects RX8 yX8_error yX8_error ∈ wd := wdof (i := 787) (by decide +kernel) rfl
theorem wl788 : Cond.code yX8_error cX8_error 3 (some .int) ∈ wd := wdof (i := 788) (by decide +kernel) rfl
theorem wl789 : Cond.methodLink RX8 134 yX8_errorOf ∈ wd := wdof (i := 789) (by decide +kernel) rfl
theorem wl790 : Cond.static yX8_errorOf ∈ wd := wdof (i := 790) (by decide +kernel) rfl
theorem wl791 : Cond.code yX8_errorOf cX8_errorOf 5 (some .int) ∈ wd := wdof (i := 791) (by decide +kernel) rfl
theorem wl792 : Cond.methodLink RX8 131 yX8_digit ∈ wd := wdof (i := 792) (by decide +kernel) rfl
theorem wl793 : Cond.static yX8_digit ∈ wd := wdof (i := 793) (by decide +kernel) rfl
theorem wl794 : Cond.code yX8_digit cX8_digit 4 (some .int) ∈ wd := wdof (i := 794) (by decide +kernel) rfl
theorem wl795 : Cond.methodLink RL 57 yX8_whose ∈ wd := wdof (i := 795) (by decide +kernel) rfl
theorem wl796 : Cond.instanceMethod yX8_whose ∈ wd := wdof (i := 796) (by decide +kernel) rfl
theorem wl797 : Cond.selects RX8 yX8_whose yX8_whose ∈ wd := wdof (i := 797) (by decide +kernel) rfl
theorem wl798 : Cond.code yX8_whose cX8_whose 2 (some .int) ∈ wd := wdof (i := 798) (by decide +kernel) rfl
theorem wl799 : Cond.methodLink RX8 140 yX8_joins ∈ wd := wdof (i := 799) (by decide +kernel) rfl
theorem wl801 : Cond.instanceMethod yX8_joins ∈ wd := wdof (i := 801) (by decide +kernel) rfl
theorem wl802 : Cond.code yX8_joins cX8_joins 5 (some .int) ∈ wd := wdof (i := 802) (by decide +kernel) rfl
theorem wl803 : Cond.methodLink RX8 137 yX8_canBe ∈ wd := wdof (i := 803) (by decide +kernel) rfl
theorem wl805 : Cond.instanceMethod yX8_canBe ∈ wd := wdof (i := 805) (by decide +kernel) rfl
theorem wl806 : Cond.code yX8_canBe cX8_canBe 5 (some .boolean) ∈ wd := wdof (i := 806) (by decide +kernel) rfl
theorem wl807 : Cond.methodLink RL 61 yX8_cost ∈ wd := wdof (i := 807) (by decide +kernel) rfl
theorem wl808 : Cond.instanceMethod yX8_cost ∈ wd := wdof (i := 808) (by decide +kernel) rfl
theorem wl809 : Cond.selects RX8 yX8_cost yX8_cost ∈ wd := wdof (i := 809) (by decide +kernel) rfl
theorem wl810 : Cond.code yX8_cost cX8_cost 1 (some .int) ∈ wd := wdof (i := 810) (by decide +kernel) rfl
theorem wl811 : Cond.methodLink RL 66 yX8_terms ∈ wd := wdof (i := 811) (by decide +kernel) rfl
theorem wl812 : Cond.instanceMethod yX8_terms ∈ wd := wdof (i := 812) (by decide +kernel) rfl
theorem wl813 : Cond.selects RX8 yX8_terms yX8_terms ∈ wd := wdof (i := 813) (by decide +kernel) rfl
theorem wl814 : Cond.code yX8_terms cX8_terms 3 (some .boolean) ∈ wd := wdof (i := 814) (by decide +kernel) rfl
theorem wl815 : Cond.methodLink RL 70 yX8_charge ∈ wd := wdof (i := 815) (by decide +kernel) rfl
theorem wl816 : Cond.instanceMethod yX8_charge ∈ wd := wdof (i := 816) (by decide +kernel) rfl
theorem wl817 : Cond.selects RX8 yX8_charge yX8_charge ∈ wd := wdof (i := 817) (by decide +kernel) rfl
theorem wl818 : Cond.code yX8_charge cX8_charge 3 (some .int) ∈ wd := wdof (i := 818) (by decide +kernel) rfl
theorem wl819 : Cond.methodLink RX8 144 yX8_owes ∈ wd := wdof (i := 819) (by decide +kernel) rfl
theorem wl821 : Cond.instanceMethod yX8_owes ∈ wd := wdof (i := 821) (by decide +kernel) rfl
theorem wl822 : Cond.code yX8_owes cX8_owes 7 (some .int) ∈ wd := wdof (i := 822) (by decide +kernel) rfl
theorem wl823 : Cond.methodLink RL 48 yX8_close ∈ wd := wdof (i := 823) (by decide +kernel) rfl
theorem wl824 : Cond.instanceMethod yX8_close ∈ wd := wdof (i := 824) (by decide +kernel) rfl
theorem wl825 : Cond.selects RX8 yX8_close yX8_close ∈ wd := wdof (i := 825) (by decide +kernel) rfl
theorem wl826 : Cond.code yX8_close cX8_close 3 (some .int) ∈ wd := wdof (i := 826) (by decide +kernel) rfl
theorem wl827 : Cond.methodLink RX8 147 yX8_balance ∈ wd := wdof (i := 827) (by decide +kernel) rfl
theorem wl828 : Cond.instanceMethod yX8_balance ∈ wd := wdof (i := 828) (by decide +kernel) rfl
theorem wl829 : Cond.selects RX8 yX8_balance yX8_balance ∈ wd := wdof (i := 829) (by decide +kernel) rfl
theorem wl830 : Cond.code yX8_balance cX8_balance 5 (some .int) ∈ wd := wdof (i := 830) (by decide +kernel) rfl
theorem wl831 : Cond.methodLink RL 74 yX8_balance ∈ wd := wdof (i := 831) (by decide +kernel) rfl
theorem wl832 : Cond.methodLink RL 78 yX8_fewest ∈ wd := wdof (i := 832) (by decide +kernel) rfl
theorem wl833 : Cond.instanceMethod yX8_fewest ∈ wd := wdof (i := 833) (by decide +kernel) rfl
theorem wl834 : Cond.selects RX8 yX8_fewest yX8_fewest ∈ wd := wdof (i := 834) (by decide +kernel) rfl
theorem wl835 : Cond.code yX8_fewest cX8_fewest 4 (some .int) ∈ wd := wdof (i := 835) (by decide +kernel) rfl
theorem wl836 : Cond.methodLink RX8 155 yX8_groups ∈ wd := wdof (i := 836) (by decide +kernel) rfl
theorem wl838 : Cond.instanceMethod yX8_groups ∈ wd := wdof (i := 838) (by decide +kernel) rfl
theorem wl839 : Cond.code yX8_groups cX8_groups 4 (some .int) ∈ wd := wdof (i := 839) (by decide +kernel) rfl
theorem wl840 : Cond.methodLink RX8 151 yX8_sumOf ∈ wd := wdof (i := 840) (by decide +kernel) rfl
theorem wl842 : Cond.instanceMethod yX8_sumOf ∈ wd := wdof (i := 842) (by decide +kernel) rfl
theorem wl843 : Cond.code yX8_sumOf cX8_sumOf 5 (some .long) ∈ wd := wdof (i := 843) (by decide +kernel) rfl
theorem wl844 : Cond.methodLink RL 82 yX8_group ∈ wd := wdof (i := 844) (by decide +kernel) rfl
theorem wl845 : Cond.instanceMethod yX8_group ∈ wd := wdof (i := 845) (by decide +kernel) rfl
theorem wl846 : Cond.selects RX8 yX8_group yX8_group ∈ wd := wdof (i := 846) (by decide +kernel) rfl
theorem wl847 : Cond.code yX8_group cX8_group 5 (some .int) ∈ wd := wdof (i := 847) (by decide +kernel) rfl
theorem wl848 : Cond.methodLink RL 87 yX8_empties ∈ wd := wdof (i := 848) (by decide +kernel) rfl
theorem wl849 : Cond.instanceMethod yX8_empties ∈ wd := wdof (i := 849) (by decide +kernel) rfl
theorem wl850 : Cond.selects RX8 yX8_empties yX8_empties ∈ wd := wdof (i := 850) (by decide +kernel) rfl
theorem wl851 : Cond.code yX8_empties cX8_empties 4 (some .boolean) ∈ wd := wdof (i := 851) (by decide +kernel) rfl
theorem wl852 : Cond.methodLink RL 91 yX8_met ∈ wd := wdof (i := 852) (by decide +kernel) rfl
theorem wl853 : Cond.instanceMethod yX8_met ∈ wd := wdof (i := 853) (by decide +kernel) rfl
theorem wl854 : Cond.selects RX8 yX8_met yX8_met ∈ wd := wdof (i := 854) (by decide +kernel) rfl
theorem wl855 : Cond.code yX8_met cX8_met 1 (some .int) ∈ wd := wdof (i := 855) (by decide +kernel) rfl
theorem wl856 : Cond.methodLink RX8 171 yX8_leads ∈ wd := wdof (i := 856) (by decide +kernel) rfl
theorem wl858 : Cond.instanceMethod yX8_leads ∈ wd := wdof (i := 858) (by decide +kernel) rfl
theorem wl859 : Cond.code yX8_leads cX8_leads 5 (some .int) ∈ wd := wdof (i := 859) (by decide +kernel) rfl
theorem wl860 : Cond.methodLink RX8 161 yX8_seeks ∈ wd := wdof (i := 860) (by decide +kernel) rfl
theorem wl862 : Cond.instanceMethod yX8_seeks ∈ wd := wdof (i := 862) (by decide +kernel) rfl
theorem wl863 : Cond.code yX8_seeks cX8_seeks 6 (some .int) ∈ wd := wdof (i := 863) (by decide +kernel) rfl
theorem wl864 : Cond.methodLink RX8 164 yX8_left ∈ wd := wdof (i := 864) (by decide +kernel) rfl
theorem wl866 : Cond.instanceMethod yX8_left ∈ wd := wdof (i := 866) (by decide +kernel) rfl
theorem wl867 : Cond.code yX8_left cX8_left 4 (some .int) ∈ wd := wdof (i := 867) (by decide +kernel) rfl
theorem wl868 : Cond.constant RX8 167 (500000) ∈ wd := wdof (i := 868) (by decide +kernel) rfl
theorem wl869 : Cond.methodLink RX8 168 yX8_lacks ∈ wd := wdof (i := 869) (by decide +kernel) rfl
theorem wl871 : Cond.instanceMethod yX8_lacks ∈ wd := wdof (i := 871) (by decide +kernel) rfl
theorem wl872 : Cond.code yX8_lacks cX8_lacks 4 (some .int) ∈ wd := wdof (i := 872) (by decide +kernel) rfl
theorem wl873 : Cond.methodLink RL 95 yX8_led ∈ wd := wdof (i := 873) (by decide +kernel) rfl
theorem wl874 : Cond.instanceMethod yX8_led ∈ wd := wdof (i := 874) (by decide +kernel) rfl
theorem wl875 : Cond.selects RX8 yX8_led yX8_led ∈ wd := wdof (i := 875) (by decide +kernel) rfl
theorem wl876 : Cond.code yX8_led cX8_led 1 (some .int) ∈ wd := wdof (i := 876) (by decide +kernel) rfl
theorem wl877 : Cond.methodLink RL 99 yX8_count ∈ wd := wdof (i := 877) (by decide +kernel) rfl
theorem wl878 : Cond.instanceMethod yX8_count ∈ wd := wdof (i := 878) (by decide +kernel) rfl
theorem wl879 : Cond.selects RX8 yX8_count yX8_count ∈ wd := wdof (i := 879) (by decide +kernel) rfl
theorem wl880 : Cond.code yX8_count cX8_count 4 (some .int) ∈ wd := wdof (i := 880) (by decide +kernel) rfl
theorem wy0_0 : u_lay RX0 TX0 0 ∈ wd := wdof (i := 206) (by decide +kernel) rfl
theorem wy0_1 : u_lay RX0 TX0 1 ∈ wd := wdof (i := 208) (by decide +kernel) rfl
theorem wy0_2 : u_lay RX0 TX0 2 ∈ wd := wdof (i := 210) (by decide +kernel) rfl
theorem wy0_3 : u_lay RX0 TX0 3 ∈ wd := wdof (i := 212) (by decide +kernel) rfl
theorem inW0 : ∀ w ∈ u_ws RX0 TX0 4, w ∈ wd := by
  intro w hw
  obtain ⟨k, hk, rfl⟩ := List.mem_map.mp hw
  have hk := List.mem_range.mp hk
  match k, hk with
  | 0, _ => exact wy0_0
  | 1, _ => exact wy0_1
  | 2, _ => exact wy0_2
  | 3, _ => exact wy0_3
  | k + 4, hk => exact absurd hk (by omega)
theorem wy1_0 : u_lay RX1 TX1 0 ∈ wd := wdof (i := 224) (by decide +kernel) rfl
theorem wy1_1 : u_lay RX1 TX1 1 ∈ wd := wdof (i := 226) (by decide +kernel) rfl
theorem wy1_2 : u_lay RX1 TX1 2 ∈ wd := wdof (i := 228) (by decide +kernel) rfl
theorem inW1 : ∀ w ∈ u_ws RX1 TX1 3, w ∈ wd := by
  intro w hw
  obtain ⟨k, hk, rfl⟩ := List.mem_map.mp hw
  have hk := List.mem_range.mp hk
  match k, hk with
  | 0, _ => exact wy1_0
  | 1, _ => exact wy1_1
  | 2, _ => exact wy1_2
  | k + 3, hk => exact absurd hk (by omega)
theorem wy2_0 : u_lay RX2 TX2 0 ∈ wd := wdof (i := 177) (by decide +kernel) rfl
theorem wy2_1 : u_lay RX2 TX2 1 ∈ wd := wdof (i := 179) (by decide +kernel) rfl
theorem wy2_2 : u_lay RX2 TX2 2 ∈ wd := wdof (i := 181) (by decide +kernel) rfl
theorem wy2_3 : u_lay RX2 TX2 3 ∈ wd := wdof (i := 183) (by decide +kernel) rfl
theorem wy2_4 : u_lay RX2 TX2 4 ∈ wd := wdof (i := 185) (by decide +kernel) rfl
theorem wy2_5 : u_lay RX2 TX2 5 ∈ wd := wdof (i := 187) (by decide +kernel) rfl
theorem wy2_6 : u_lay RX2 TX2 6 ∈ wd := wdof (i := 189) (by decide +kernel) rfl
theorem wy2_7 : u_lay RX2 TX2 7 ∈ wd := wdof (i := 191) (by decide +kernel) rfl
theorem wy2_8 : u_lay RX2 TX2 8 ∈ wd := wdof (i := 193) (by decide +kernel) rfl
theorem inW2 : ∀ w ∈ u_ws RX2 TX2 9, w ∈ wd := by
  intro w hw
  obtain ⟨k, hk, rfl⟩ := List.mem_map.mp hw
  have hk := List.mem_range.mp hk
  match k, hk with
  | 0, _ => exact wy2_0
  | 1, _ => exact wy2_1
  | 2, _ => exact wy2_2
  | 3, _ => exact wy2_3
  | 4, _ => exact wy2_4
  | 5, _ => exact wy2_5
  | 6, _ => exact wy2_6
  | 7, _ => exact wy2_7
  | 8, _ => exact wy2_8
  | k + 9, hk => exact absurd hk (by omega)
theorem wy3_0 : u_lay RX3 TX3 0 ∈ wd := wdof (i := 251) (by decide +kernel) rfl
theorem wy3_1 : u_lay RX3 TX3 1 ∈ wd := wdof (i := 253) (by decide +kernel) rfl
theorem wy3_2 : u_lay RX3 TX3 2 ∈ wd := wdof (i := 255) (by decide +kernel) rfl
theorem wy3_3 : u_lay RX3 TX3 3 ∈ wd := wdof (i := 257) (by decide +kernel) rfl
theorem wy3_4 : u_lay RX3 TX3 4 ∈ wd := wdof (i := 259) (by decide +kernel) rfl
theorem wy3_5 : u_lay RX3 TX3 5 ∈ wd := wdof (i := 261) (by decide +kernel) rfl
theorem wy3_6 : u_lay RX3 TX3 6 ∈ wd := wdof (i := 263) (by decide +kernel) rfl
theorem wy3_7 : u_lay RX3 TX3 7 ∈ wd := wdof (i := 265) (by decide +kernel) rfl
theorem wy3_8 : u_lay RX3 TX3 8 ∈ wd := wdof (i := 267) (by decide +kernel) rfl
theorem wy3_9 : u_lay RX3 TX3 9 ∈ wd := wdof (i := 269) (by decide +kernel) rfl
theorem inW3 : ∀ w ∈ u_ws RX3 TX3 10, w ∈ wd := by
  intro w hw
  obtain ⟨k, hk, rfl⟩ := List.mem_map.mp hw
  have hk := List.mem_range.mp hk
  match k, hk with
  | 0, _ => exact wy3_0
  | 1, _ => exact wy3_1
  | 2, _ => exact wy3_2
  | 3, _ => exact wy3_3
  | 4, _ => exact wy3_4
  | 5, _ => exact wy3_5
  | 6, _ => exact wy3_6
  | 7, _ => exact wy3_7
  | 8, _ => exact wy3_8
  | 9, _ => exact wy3_9
  | k + 10, hk => exact absurd hk (by omega)
theorem wy4_0 : u_lay RX4 TX4 0 ∈ wd := wdof (i := 77) (by decide +kernel) rfl
theorem wy4_1 : u_lay RX4 TX4 1 ∈ wd := wdof (i := 79) (by decide +kernel) rfl
theorem wy4_2 : u_lay RX4 TX4 2 ∈ wd := wdof (i := 81) (by decide +kernel) rfl
theorem wy4_3 : u_lay RX4 TX4 3 ∈ wd := wdof (i := 83) (by decide +kernel) rfl
theorem wy4_4 : u_lay RX4 TX4 4 ∈ wd := wdof (i := 85) (by decide +kernel) rfl
theorem wy4_5 : u_lay RX4 TX4 5 ∈ wd := wdof (i := 87) (by decide +kernel) rfl
theorem inW4 : ∀ w ∈ u_ws RX4 TX4 6, w ∈ wd := by
  intro w hw
  obtain ⟨k, hk, rfl⟩ := List.mem_map.mp hw
  have hk := List.mem_range.mp hk
  match k, hk with
  | 0, _ => exact wy4_0
  | 1, _ => exact wy4_1
  | 2, _ => exact wy4_2
  | 3, _ => exact wy4_3
  | 4, _ => exact wy4_4
  | 5, _ => exact wy4_5
  | k + 6, hk => exact absurd hk (by omega)
theorem wy5_0 : u_lay RX5 TX5 0 ∈ wd := wdof (i := 104) (by decide +kernel) rfl
theorem wy5_1 : u_lay RX5 TX5 1 ∈ wd := wdof (i := 106) (by decide +kernel) rfl
theorem wy5_2 : u_lay RX5 TX5 2 ∈ wd := wdof (i := 108) (by decide +kernel) rfl
theorem wy5_3 : u_lay RX5 TX5 3 ∈ wd := wdof (i := 110) (by decide +kernel) rfl
theorem wy5_4 : u_lay RX5 TX5 4 ∈ wd := wdof (i := 112) (by decide +kernel) rfl
theorem wy5_5 : u_lay RX5 TX5 5 ∈ wd := wdof (i := 114) (by decide +kernel) rfl
theorem inW5 : ∀ w ∈ u_ws RX5 TX5 6, w ∈ wd := by
  intro w hw
  obtain ⟨k, hk, rfl⟩ := List.mem_map.mp hw
  have hk := List.mem_range.mp hk
  match k, hk with
  | 0, _ => exact wy5_0
  | 1, _ => exact wy5_1
  | 2, _ => exact wy5_2
  | 3, _ => exact wy5_3
  | 4, _ => exact wy5_4
  | 5, _ => exact wy5_5
  | k + 6, hk => exact absurd hk (by omega)
theorem wy6_0 : u_lay RX6 TX6 0 ∈ wd := wdof (i := 144) (by decide +kernel) rfl
theorem wy6_1 : u_lay RX6 TX6 1 ∈ wd := wdof (i := 146) (by decide +kernel) rfl
theorem wy6_2 : u_lay RX6 TX6 2 ∈ wd := wdof (i := 148) (by decide +kernel) rfl
theorem wy6_3 : u_lay RX6 TX6 3 ∈ wd := wdof (i := 150) (by decide +kernel) rfl
theorem wy6_4 : u_lay RX6 TX6 4 ∈ wd := wdof (i := 152) (by decide +kernel) rfl
theorem wy6_5 : u_lay RX6 TX6 5 ∈ wd := wdof (i := 154) (by decide +kernel) rfl
theorem wy6_6 : u_lay RX6 TX6 6 ∈ wd := wdof (i := 156) (by decide +kernel) rfl
theorem wy6_7 : u_lay RX6 TX6 7 ∈ wd := wdof (i := 158) (by decide +kernel) rfl
theorem inW6 : ∀ w ∈ u_ws RX6 TX6 8, w ∈ wd := by
  intro w hw
  obtain ⟨k, hk, rfl⟩ := List.mem_map.mp hw
  have hk := List.mem_range.mp hk
  match k, hk with
  | 0, _ => exact wy6_0
  | 1, _ => exact wy6_1
  | 2, _ => exact wy6_2
  | 3, _ => exact wy6_3
  | 4, _ => exact wy6_4
  | 5, _ => exact wy6_5
  | 6, _ => exact wy6_6
  | 7, _ => exact wy6_7
  | k + 8, hk => exact absurd hk (by omega)
theorem wy7_0 : u_lay RX7 TX7 0 ∈ wd := wdof (i := 282) (by decide +kernel) rfl
theorem wy7_1 : u_lay RX7 TX7 1 ∈ wd := wdof (i := 284) (by decide +kernel) rfl
theorem wy7_2 : u_lay RX7 TX7 2 ∈ wd := wdof (i := 286) (by decide +kernel) rfl
theorem wy7_3 : u_lay RX7 TX7 3 ∈ wd := wdof (i := 288) (by decide +kernel) rfl
theorem wy7_4 : u_lay RX7 TX7 4 ∈ wd := wdof (i := 290) (by decide +kernel) rfl
theorem wy7_5 : u_lay RX7 TX7 5 ∈ wd := wdof (i := 292) (by decide +kernel) rfl
theorem wy7_6 : u_lay RX7 TX7 6 ∈ wd := wdof (i := 294) (by decide +kernel) rfl
theorem wy7_7 : u_lay RX7 TX7 7 ∈ wd := wdof (i := 296) (by decide +kernel) rfl
theorem wy7_8 : u_lay RX7 TX7 8 ∈ wd := wdof (i := 298) (by decide +kernel) rfl
theorem wy7_9 : u_lay RX7 TX7 9 ∈ wd := wdof (i := 300) (by decide +kernel) rfl
theorem inW7 : ∀ w ∈ u_ws RX7 TX7 10, w ∈ wd := by
  intro w hw
  obtain ⟨k, hk, rfl⟩ := List.mem_map.mp hw
  have hk := List.mem_range.mp hk
  match k, hk with
  | 0, _ => exact wy7_0
  | 1, _ => exact wy7_1
  | 2, _ => exact wy7_2
  | 3, _ => exact wy7_3
  | 4, _ => exact wy7_4
  | 5, _ => exact wy7_5
  | 6, _ => exact wy7_6
  | 7, _ => exact wy7_7
  | 8, _ => exact wy7_8
  | 9, _ => exact wy7_9
  | k + 10, hk => exact absurd hk (by omega)
theorem wy8_0 : u_lay RX8 TX8 0 ∈ wd := wdof (i := 672) (by decide +kernel) rfl
theorem wy8_1 : u_lay RX8 TX8 1 ∈ wd := wdof (i := 674) (by decide +kernel) rfl
theorem wy8_2 : u_lay RX8 TX8 2 ∈ wd := wdof (i := 676) (by decide +kernel) rfl
theorem wy8_3 : u_lay RX8 TX8 3 ∈ wd := wdof (i := 678) (by decide +kernel) rfl
theorem wy8_4 : u_lay RX8 TX8 4 ∈ wd := wdof (i := 680) (by decide +kernel) rfl
theorem wy8_5 : u_lay RX8 TX8 5 ∈ wd := wdof (i := 682) (by decide +kernel) rfl
theorem wy8_6 : u_lay RX8 TX8 6 ∈ wd := wdof (i := 684) (by decide +kernel) rfl
theorem wy8_7 : u_lay RX8 TX8 7 ∈ wd := wdof (i := 686) (by decide +kernel) rfl
theorem wy8_8 : u_lay RX8 TX8 8 ∈ wd := wdof (i := 688) (by decide +kernel) rfl
theorem wy8_9 : u_lay RX8 TX8 9 ∈ wd := wdof (i := 690) (by decide +kernel) rfl
theorem wy8_10 : u_lay RX8 TX8 10 ∈ wd := wdof (i := 692) (by decide +kernel) rfl
theorem wy8_11 : u_lay RX8 TX8 11 ∈ wd := wdof (i := 694) (by decide +kernel) rfl
theorem wy8_12 : u_lay RX8 TX8 12 ∈ wd := wdof (i := 696) (by decide +kernel) rfl
theorem wy8_13 : u_lay RX8 TX8 13 ∈ wd := wdof (i := 698) (by decide +kernel) rfl
theorem wy8_14 : u_lay RX8 TX8 14 ∈ wd := wdof (i := 700) (by decide +kernel) rfl
theorem wy8_15 : u_lay RX8 TX8 15 ∈ wd := wdof (i := 702) (by decide +kernel) rfl
theorem wy8_16 : u_lay RX8 TX8 16 ∈ wd := wdof (i := 704) (by decide +kernel) rfl
theorem wy8_17 : u_lay RX8 TX8 17 ∈ wd := wdof (i := 706) (by decide +kernel) rfl
theorem wy8_18 : u_lay RX8 TX8 18 ∈ wd := wdof (i := 708) (by decide +kernel) rfl
theorem wy8_19 : u_lay RX8 TX8 19 ∈ wd := wdof (i := 710) (by decide +kernel) rfl
theorem wy8_20 : u_lay RX8 TX8 20 ∈ wd := wdof (i := 712) (by decide +kernel) rfl
theorem wy8_21 : u_lay RX8 TX8 21 ∈ wd := wdof (i := 714) (by decide +kernel) rfl
theorem wy8_22 : u_lay RX8 TX8 22 ∈ wd := wdof (i := 716) (by decide +kernel) rfl
theorem wy8_23 : u_lay RX8 TX8 23 ∈ wd := wdof (i := 718) (by decide +kernel) rfl
theorem wy8_24 : u_lay RX8 TX8 24 ∈ wd := wdof (i := 720) (by decide +kernel) rfl
theorem wy8_25 : u_lay RX8 TX8 25 ∈ wd := wdof (i := 722) (by decide +kernel) rfl
theorem wy8_26 : u_lay RX8 TX8 26 ∈ wd := wdof (i := 724) (by decide +kernel) rfl
theorem wy8_27 : u_lay RX8 TX8 27 ∈ wd := wdof (i := 726) (by decide +kernel) rfl
theorem wy8_28 : u_lay RX8 TX8 28 ∈ wd := wdof (i := 728) (by decide +kernel) rfl
theorem wy8_29 : u_lay RX8 TX8 29 ∈ wd := wdof (i := 730) (by decide +kernel) rfl
theorem wy8_30 : u_lay RX8 TX8 30 ∈ wd := wdof (i := 732) (by decide +kernel) rfl
theorem inW8 : ∀ w ∈ u_ws RX8 TX8 31, w ∈ wd := by
  intro w hw
  obtain ⟨k, hk, rfl⟩ := List.mem_map.mp hw
  have hk := List.mem_range.mp hk
  match k, hk with
  | 0, _ => exact wy8_0
  | 1, _ => exact wy8_1
  | 2, _ => exact wy8_2
  | 3, _ => exact wy8_3
  | 4, _ => exact wy8_4
  | 5, _ => exact wy8_5
  | 6, _ => exact wy8_6
  | 7, _ => exact wy8_7
  | 8, _ => exact wy8_8
  | 9, _ => exact wy8_9
  | 10, _ => exact wy8_10
  | 11, _ => exact wy8_11
  | 12, _ => exact wy8_12
  | 13, _ => exact wy8_13
  | 14, _ => exact wy8_14
  | 15, _ => exact wy8_15
  | 16, _ => exact wy8_16
  | 17, _ => exact wy8_17
  | 18, _ => exact wy8_18
  | 19, _ => exact wy8_19
  | 20, _ => exact wy8_20
  | 21, _ => exact wy8_21
  | 22, _ => exact wy8_22
  | 23, _ => exact wy8_23
  | 24, _ => exact wy8_24
  | 25, _ => exact wy8_25
  | 26, _ => exact wy8_26
  | 27, _ => exact wy8_27
  | 28, _ => exact wy8_28
  | 29, _ => exact wy8_29
  | 30, _ => exact wy8_30
  | k + 31, hk => exact absurd hk (by omega)
