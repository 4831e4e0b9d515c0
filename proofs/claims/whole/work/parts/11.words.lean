theorem w_field_P_10_P_0 : Cond.fieldLink R_P 10 (F_P 0).1 (F_P 0).2.1 (F_P 0).2.2.1 ∈ zTT := zmem (List.mem_of_getElem? (i := 174) (by decide +kernel)) rfl
theorem w_const_P_51_65535 : Cond.constant R_P 51 65535 ∈ zTT := zmem (List.mem_of_getElem? (i := 203) (by decide +kernel)) rfl
theorem w_field_S_26_S_0 : Cond.fieldLink R_S 26 (F_S 0).1 (F_S 0).2.1 (F_S 0).2.2.1 ∈ zTT := zmem (List.mem_of_getElem? (i := 49) (by decide +kernel)) rfl
theorem w_field_S_9_S_1 : Cond.fieldLink R_S 9 (F_S 1).1 (F_S 1).2.1 (F_S 1).2.2.1 ∈ zTT := zmem (List.mem_of_getElem? (i := 50) (by decide +kernel)) rfl
theorem w_field_S_15_S_2 : Cond.fieldLink R_S 15 (F_S 2).1 (F_S 2).2.1 (F_S 2).2.2.1 ∈ zTT := zmem (List.mem_of_getElem? (i := 52) (by decide +kernel)) rfl
theorem w_field_S_19_S_3 : Cond.fieldLink R_S 19 (F_S 3).1 (F_S 3).2.1 (F_S 3).2.2.1 ∈ zTT := zmem (List.mem_of_getElem? (i := 54) (by decide +kernel)) rfl
theorem w_mlink_P_52 : Cond.methodLink R_P 52 y_S_add ∈ zTT := zmem (List.mem_of_getElem? (i := 204) (by decide +kernel)) rfl
theorem w_imeth_S_add : Cond.instanceMethod y_S_add ∈ zTT := zmem (List.mem_of_getElem? (i := 205) (by decide +kernel)) rfl
theorem w_sel_S_add : Cond.selects R_S y_S_add y_S_add ∈ zTT := zmem (List.mem_of_getElem? (i := 206) (by decide +kernel)) rfl
theorem w_init_S : Cond.initialized R_S ∈ zTT := zmem (List.mem_of_getElem? (i := 28) (by decide +kernel)) rfl
set_option maxRecDepth 100000 in
theorem w_code_S_add : Cond.code y_S_add b_S_add 6 (some .int) ∈ zTT := zmem (List.mem_of_getElem? (i := 207) rfl) rfl
theorem w_mlink_P_47 : Cond.methodLink R_P 47 y_P_isUpTo ∈ zTT := zmem (List.mem_of_getElem? (i := 200) (by decide +kernel)) rfl
theorem w_stat_P_isUpTo : Cond.static y_P_isUpTo ∈ zTT := zmem (List.mem_of_getElem? (i := 201) (by decide +kernel)) rfl
theorem w_init_P : Cond.initialized R_P ∈ zTT := zmem (List.mem_of_getElem? (i := 27) (by decide +kernel)) rfl
set_option maxRecDepth 100000 in
theorem w_code_P_isUpTo : Cond.code y_P_isUpTo b_P_isUpTo 2 (some .boolean) ∈ zTT := zmem (List.mem_of_getElem? (i := 202) rfl) rfl
theorem w_field_P_60_S_4 : Cond.fieldLink R_P 60 (F_S 4).1 (F_S 4).2.1 (F_S 4).2.2.1 ∈ zTT := zmem (List.mem_of_getElem? (i := 57) (by decide +kernel)) rfl
theorem w_mlink_P_56 : Cond.methodLink R_P 56 y_S_has ∈ zTT := zmem (List.mem_of_getElem? (i := 212) (by decide +kernel)) rfl
theorem w_imeth_S_has : Cond.instanceMethod y_S_has ∈ zTT := zmem (List.mem_of_getElem? (i := 213) (by decide +kernel)) rfl
theorem w_sel_S_has : Cond.selects R_S y_S_has y_S_has ∈ zTT := zmem (List.mem_of_getElem? (i := 214) (by decide +kernel)) rfl
set_option maxRecDepth 100000 in
theorem w_code_S_has : Cond.code y_S_has b_S_has 2 (some .boolean) ∈ zTT := zmem (List.mem_of_getElem? (i := 215) rfl) rfl
theorem w_const_P_64_1000000000 : Cond.constant R_P 64 1000000000 ∈ zTT := zmem (List.mem_of_getElem? (i := 220) (by decide +kernel)) rfl
theorem w_field_P_19_P_1 : Cond.fieldLink R_P 19 (F_P 1).1 (F_P 1).2.1 (F_P 1).2.2.1 ∈ zTT := zmem (List.mem_of_getElem? (i := 175) (by decide +kernel)) rfl
theorem w_field_A_47_A_0 : Cond.fieldLink R_A 47 (F_A 0).1 (F_A 0).2.1 (F_A 0).2.2.1 ∈ zTT := zmem (List.mem_of_getElem? (i := 94) (by decide +kernel)) rfl
theorem w_field_A_9_A_1 : Cond.fieldLink R_A 9 (F_A 1).1 (F_A 1).2.1 (F_A 1).2.2.1 ∈ zTT := zmem (List.mem_of_getElem? (i := 96) (by decide +kernel)) rfl
theorem w_field_A_15_A_2 : Cond.fieldLink R_A 15 (F_A 2).1 (F_A 2).2.1 (F_A 2).2.2.1 ∈ zTT := zmem (List.mem_of_getElem? (i := 98) (by decide +kernel)) rfl
theorem w_field_A_19_A_3 : Cond.fieldLink R_A 19 (F_A 3).1 (F_A 3).2.1 (F_A 3).2.2.1 ∈ zTT := zmem (List.mem_of_getElem? (i := 100) (by decide +kernel)) rfl
theorem w_field_A_22_A_4 : Cond.fieldLink R_A 22 (F_A 4).1 (F_A 4).2.1 (F_A 4).2.2.1 ∈ zTT := zmem (List.mem_of_getElem? (i := 102) (by decide +kernel)) rfl
theorem w_field_A_25_A_5 : Cond.fieldLink R_A 25 (F_A 5).1 (F_A 5).2.1 (F_A 5).2.2.1 ∈ zTT := zmem (List.mem_of_getElem? (i := 104) (by decide +kernel)) rfl
theorem w_field_A_35_A_7 : Cond.fieldLink R_A 35 (F_A 7).1 (F_A 7).2.1 (F_A 7).2.2.1 ∈ zTT := zmem (List.mem_of_getElem? (i := 108) (by decide +kernel)) rfl
theorem w_field_A_55_W_0 : Cond.fieldLink R_A 55 (F_W 0).1 (F_W 0).2.1 (F_W 0).2.2.1 ∈ zTT := zmem (List.mem_of_getElem? (i := 86) (by decide +kernel)) rfl
theorem w_field_W_15_W_1 : Cond.fieldLink R_W 15 (F_W 1).1 (F_W 1).2.1 (F_W 1).2.2.1 ∈ zTT := zmem (List.mem_of_getElem? (i := 88) (by decide +kernel)) rfl
theorem w_mlink_A_58 : Cond.methodLink R_A 58 y_W_valueAt ∈ zTT := zmem (List.mem_of_getElem? (i := 229) (by decide +kernel)) rfl
theorem w_imeth_W_valueAt : Cond.instanceMethod y_W_valueAt ∈ zTT := zmem (List.mem_of_getElem? (i := 230) (by decide +kernel)) rfl
theorem w_sel_W_valueAt : Cond.selects R_W y_W_valueAt y_W_valueAt ∈ zTT := zmem (List.mem_of_getElem? (i := 231) (by decide +kernel)) rfl
theorem w_init_W : Cond.initialized R_W ∈ zTT := zmem (List.mem_of_getElem? (i := 30) (by decide +kernel)) rfl
set_option maxRecDepth 100000 in
theorem w_code_W_valueAt : Cond.code y_W_valueAt b_W_valueAt 3 (some .long) ∈ zTT := zmem (List.mem_of_getElem? (i := 232) rfl) rfl
theorem w_field_A_38_A_8 : Cond.fieldLink R_A 38 (F_A 8).1 (F_A 8).2.1 (F_A 8).2.2.1 ∈ zTT := zmem (List.mem_of_getElem? (i := 111) (by decide +kernel)) rfl
theorem w_mlink_A_62 : Cond.methodLink R_A 62 y_A_metByAt ∈ zTT := zmem (List.mem_of_getElem? (i := 233) (by decide +kernel)) rfl
theorem w_imeth_A_metByAt : Cond.instanceMethod y_A_metByAt ∈ zTT := zmem (List.mem_of_getElem? (i := 234) (by decide +kernel)) rfl
theorem w_sel_A_metByAt : Cond.selects R_A y_A_metByAt y_A_metByAt ∈ zTT := zmem (List.mem_of_getElem? (i := 235) (by decide +kernel)) rfl
theorem w_init_A : Cond.initialized R_A ∈ zTT := zmem (List.mem_of_getElem? (i := 29) (by decide +kernel)) rfl
set_option maxRecDepth 100000 in
theorem w_code_A_metByAt : Cond.code y_A_metByAt b_A_metByAt 3 (some .int) ∈ zTT := zmem (List.mem_of_getElem? (i := 236) rfl) rfl
theorem w_mlink_A_51 : Cond.methodLink R_A 51 y_A_meetMissing ∈ zTT := zmem (List.mem_of_getElem? (i := 225) (by decide +kernel)) rfl
theorem w_imeth_A_meetMissing : Cond.instanceMethod y_A_meetMissing ∈ zTT := zmem (List.mem_of_getElem? (i := 227) (by decide +kernel)) rfl
theorem w_sel_A_meetMissing : Cond.selects R_A y_A_meetMissing y_A_meetMissing ∈ zTT := zmem (List.mem_of_getElem? (i := 0) (by decide +kernel)) rfl
set_option maxRecDepth 100000 in
theorem w_code_A_meetMissing : Cond.code y_A_meetMissing b_A_meetMissing 5 none ∈ zTT := zmem (List.mem_of_getElem? (i := 228) rfl) rfl
theorem w_mlink_P_65 : Cond.methodLink R_P 65 y_A_add ∈ zTT := zmem (List.mem_of_getElem? (i := 221) (by decide +kernel)) rfl
theorem w_imeth_A_add : Cond.instanceMethod y_A_add ∈ zTT := zmem (List.mem_of_getElem? (i := 222) (by decide +kernel)) rfl
theorem w_sel_A_add : Cond.selects R_A y_A_add y_A_add ∈ zTT := zmem (List.mem_of_getElem? (i := 223) (by decide +kernel)) rfl
set_option maxRecDepth 100000 in
theorem w_code_A_add : Cond.code y_A_add b_A_add 8 (some .int) ∈ zTT := zmem (List.mem_of_getElem? (i := 224) rfl) rfl
theorem w_field_P_69_A_6 : Cond.fieldLink R_P 69 (F_A 6).1 (F_A 6).2.1 (F_A 6).2.2.1 ∈ zTT := zmem (List.mem_of_getElem? (i := 107) (by decide +kernel)) rfl
theorem w_field_W_9_W_0 : Cond.fieldLink R_W 9 (F_W 0).1 (F_W 0).2.1 (F_W 0).2.2.1 ∈ zTT := zmem (List.mem_of_getElem? (i := 84) (by decide +kernel)) rfl
theorem w_mlink_W_23 : Cond.methodLink R_W 23 y_W_valueAt ∈ zTT := zmem (List.mem_of_getElem? (i := 253) (by decide +kernel)) rfl
theorem w_mlink_W_19 : Cond.methodLink R_W 19 y_W_contains ∈ zTT := zmem (List.mem_of_getElem? (i := 249) (by decide +kernel)) rfl
theorem w_imeth_W_contains : Cond.instanceMethod y_W_contains ∈ zTT := zmem (List.mem_of_getElem? (i := 251) (by decide +kernel)) rfl
theorem w_sel_W_contains : Cond.selects R_W y_W_contains y_W_contains ∈ zTT := zmem (List.mem_of_getElem? (i := 1) (by decide +kernel)) rfl
set_option maxRecDepth 100000 in
theorem w_code_W_contains : Cond.code y_W_contains b_W_contains 5 (some .boolean) ∈ zTT := zmem (List.mem_of_getElem? (i := 252) rfl) rfl
theorem w_mlink_P_73 : Cond.methodLink R_P 73 y_W_append ∈ zTT := zmem (List.mem_of_getElem? (i := 245) (by decide +kernel)) rfl
theorem w_imeth_W_append : Cond.instanceMethod y_W_append ∈ zTT := zmem (List.mem_of_getElem? (i := 246) (by decide +kernel)) rfl
theorem w_sel_W_append : Cond.selects R_W y_W_append y_W_append ∈ zTT := zmem (List.mem_of_getElem? (i := 247) (by decide +kernel)) rfl
set_option maxRecDepth 100000 in
theorem w_code_W_append : Cond.code y_W_append b_W_append 4 (some .boolean) ∈ zTT := zmem (List.mem_of_getElem? (i := 248) rfl) rfl
theorem w_mlink_P_68 : Cond.methodLink R_P 68 y_A_has ∈ zTT := zmem (List.mem_of_getElem? (i := 241) (by decide +kernel)) rfl
theorem w_imeth_A_has : Cond.instanceMethod y_A_has ∈ zTT := zmem (List.mem_of_getElem? (i := 242) (by decide +kernel)) rfl
theorem w_sel_A_has : Cond.selects R_A y_A_has y_A_has ∈ zTT := zmem (List.mem_of_getElem? (i := 243) (by decide +kernel)) rfl
set_option maxRecDepth 100000 in
theorem w_code_A_has : Cond.code y_A_has b_A_has 2 (some .boolean) ∈ zTT := zmem (List.mem_of_getElem? (i := 244) rfl) rfl
theorem w_mlink_A_70 : Cond.methodLink R_A 70 y_A_firstOf ∈ zTT := zmem (List.mem_of_getElem? (i := 263) (by decide +kernel)) rfl
theorem w_imeth_A_firstOf : Cond.instanceMethod y_A_firstOf ∈ zTT := zmem (List.mem_of_getElem? (i := 265) (by decide +kernel)) rfl
theorem w_sel_A_firstOf : Cond.selects R_A y_A_firstOf y_A_firstOf ∈ zTT := zmem (List.mem_of_getElem? (i := 2) (by decide +kernel)) rfl
set_option maxRecDepth 100000 in
theorem w_code_A_firstOf : Cond.code y_A_firstOf b_A_firstOf 4 (some .int) ∈ zTT := zmem (List.mem_of_getElem? (i := 266) rfl) rfl
theorem w_mlink_A_66 : Cond.methodLink R_A 66 y_W_append ∈ zTT := zmem (List.mem_of_getElem? (i := 262) (by decide +kernel)) rfl
theorem w_mlink_P_79 : Cond.methodLink R_P 79 y_A_addNeeded ∈ zTT := zmem (List.mem_of_getElem? (i := 258) (by decide +kernel)) rfl
theorem w_imeth_A_addNeeded : Cond.instanceMethod y_A_addNeeded ∈ zTT := zmem (List.mem_of_getElem? (i := 259) (by decide +kernel)) rfl
theorem w_sel_A_addNeeded : Cond.selects R_A y_A_addNeeded y_A_addNeeded ∈ zTT := zmem (List.mem_of_getElem? (i := 260) (by decide +kernel)) rfl
set_option maxRecDepth 100000 in
theorem w_code_A_addNeeded : Cond.code y_A_addNeeded b_A_addNeeded 5 (some .boolean) ∈ zTT := zmem (List.mem_of_getElem? (i := 261) rfl) rfl
theorem w_field_A_41_A_9 : Cond.fieldLink R_A 41 (F_A 9).1 (F_A 9).2.1 (F_A 9).2.2.1 ∈ zTT := zmem (List.mem_of_getElem? (i := 112) (by decide +kernel)) rfl
theorem w_field_A_44_A_10 : Cond.fieldLink R_A 44 (F_A 10).1 (F_A 10).2.1 (F_A 10).2.2.1 ∈ zTT := zmem (List.mem_of_getElem? (i := 113) (by decide +kernel)) rfl
theorem w_mlink_P_82 : Cond.methodLink R_P 82 y_A_setPath ∈ zTT := zmem (List.mem_of_getElem? (i := 271) (by decide +kernel)) rfl
theorem w_imeth_A_setPath : Cond.instanceMethod y_A_setPath ∈ zTT := zmem (List.mem_of_getElem? (i := 272) (by decide +kernel)) rfl
theorem w_sel_A_setPath : Cond.selects R_A y_A_setPath y_A_setPath ∈ zTT := zmem (List.mem_of_getElem? (i := 273) (by decide +kernel)) rfl
set_option maxRecDepth 100000 in
theorem w_code_A_setPath : Cond.code y_A_setPath b_A_setPath 5 none ∈ zTT := zmem (List.mem_of_getElem? (i := 274) rfl) rfl
theorem w_field_P_26_P_2 : Cond.fieldLink R_P 26 (F_P 2).1 (F_P 2).2.1 (F_P 2).2.2.1 ∈ zTT := zmem (List.mem_of_getElem? (i := 176) (by decide +kernel)) rfl
theorem w_field_Y_18_Y_0 : Cond.fieldLink R_Y 18 (F_Y 0).1 (F_Y 0).2.1 (F_Y 0).2.2.1 ∈ zTT := zmem (List.mem_of_getElem? (i := 143) (by decide +kernel)) rfl
theorem w_field_Y_9_Y_1 : Cond.fieldLink R_Y 9 (F_Y 1).1 (F_Y 1).2.1 (F_Y 1).2.2.1 ∈ zTT := zmem (List.mem_of_getElem? (i := 145) (by decide +kernel)) rfl
theorem w_field_Y_15_Y_2 : Cond.fieldLink R_Y 15 (F_Y 2).1 (F_Y 2).2.1 (F_Y 2).2.2.1 ∈ zTT := zmem (List.mem_of_getElem? (i := 147) (by decide +kernel)) rfl
theorem w_mlink_P_86 : Cond.methodLink R_P 86 y_Y_add ∈ zTT := zmem (List.mem_of_getElem? (i := 279) (by decide +kernel)) rfl
theorem w_imeth_Y_add : Cond.instanceMethod y_Y_add ∈ zTT := zmem (List.mem_of_getElem? (i := 280) (by decide +kernel)) rfl
theorem w_sel_Y_add : Cond.selects R_Y y_Y_add y_Y_add ∈ zTT := zmem (List.mem_of_getElem? (i := 281) (by decide +kernel)) rfl
theorem w_init_Y : Cond.initialized R_Y ∈ zTT := zmem (List.mem_of_getElem? (i := 31) (by decide +kernel)) rfl
set_option maxRecDepth 100000 in
theorem w_code_Y_add : Cond.code y_Y_add b_Y_add 4 (some .int) ∈ zTT := zmem (List.mem_of_getElem? (i := 282) rfl) rfl
theorem w_field_P_37_P_4 : Cond.fieldLink R_P 37 (F_P 4).1 (F_P 4).2.1 (F_P 4).2.2.1 ∈ zTT := zmem (List.mem_of_getElem? (i := 178) (by decide +kernel)) rfl
theorem w_field_Q_15_Q_0 : Cond.fieldLink R_Q 15 (F_Q 0).1 (F_Q 0).2.1 (F_Q 0).2.2.1 ∈ zTT := zmem (List.mem_of_getElem? (i := 162) (by decide +kernel)) rfl
theorem w_field_Q_19_Q_2 : Cond.fieldLink R_Q 19 (F_Q 2).1 (F_Q 2).2.1 (F_Q 2).2.2.1 ∈ zTT := zmem (List.mem_of_getElem? (i := 166) (by decide +kernel)) rfl
theorem w_field_Q_9_Q_1 : Cond.fieldLink R_Q 9 (F_Q 1).1 (F_Q 1).2.1 (F_Q 1).2.2.1 ∈ zTT := zmem (List.mem_of_getElem? (i := 164) (by decide +kernel)) rfl
set_option maxRecDepth 100000 in
theorem w_code_P_hasBit : Cond.code y_P_hasBit b_P_hasBit 2 (some .boolean) ∈ zTT := zmem (List.mem_of_getElem? (i := 297) rfl) rfl
theorem w_stat_P_hasBit : Cond.static y_P_hasBit ∈ zTT := zmem (List.mem_of_getElem? (i := 296) (by decide +kernel)) rfl
theorem w_mlink_Q_22 : Cond.methodLink R_Q 22 y_Q_reach ∈ zTT := zmem (List.mem_of_getElem? (i := 291) (by decide +kernel)) rfl
theorem w_imeth_Q_reach : Cond.instanceMethod y_Q_reach ∈ zTT := zmem (List.mem_of_getElem? (i := 293) (by decide +kernel)) rfl
theorem w_sel_Q_reach : Cond.selects R_Q y_Q_reach y_Q_reach ∈ zTT := zmem (List.mem_of_getElem? (i := 3) (by decide +kernel)) rfl
theorem w_init_Q : Cond.initialized R_Q ∈ zTT := zmem (List.mem_of_getElem? (i := 32) (by decide +kernel)) rfl
set_option maxRecDepth 100000 in
theorem w_code_Q_reach : Cond.code y_Q_reach b_Q_reach 2 none ∈ zTT := zmem (List.mem_of_getElem? (i := 294) rfl) rfl
theorem w_field_Q_26_A_7 : Cond.fieldLink R_Q 26 (F_A 7).1 (F_A 7).2.1 (F_A 7).2.2.1 ∈ zTT := zmem (List.mem_of_getElem? (i := 109) (by decide +kernel)) rfl
theorem w_field_Q_32_W_0 : Cond.fieldLink R_Q 32 (F_W 0).1 (F_W 0).2.1 (F_W 0).2.2.1 ∈ zTT := zmem (List.mem_of_getElem? (i := 85) (by decide +kernel)) rfl
theorem w_mlink_Q_37 : Cond.methodLink R_Q 37 y_A_metByAt ∈ zTT := zmem (List.mem_of_getElem? (i := 298) (by decide +kernel)) rfl
theorem w_mlink_P_89 : Cond.methodLink R_P 89 y_Q_walk ∈ zTT := zmem (List.mem_of_getElem? (i := 287) (by decide +kernel)) rfl
theorem w_imeth_Q_walk : Cond.instanceMethod y_Q_walk ∈ zTT := zmem (List.mem_of_getElem? (i := 288) (by decide +kernel)) rfl
theorem w_sel_Q_walk : Cond.selects R_Q y_Q_walk y_Q_walk ∈ zTT := zmem (List.mem_of_getElem? (i := 289) (by decide +kernel)) rfl
set_option maxRecDepth 100000 in
theorem w_code_Q_walk : Cond.code y_Q_walk b_Q_walk 6 none ∈ zTT := zmem (List.mem_of_getElem? (i := 290) rfl) rfl
theorem w_field_P_93_Q_0 : Cond.fieldLink R_P 93 (F_Q 0).1 (F_Q 0).2.1 (F_Q 0).2.2.1 ∈ zTT := zmem (List.mem_of_getElem? (i := 163) (by decide +kernel)) rfl
theorem w_field_P_96_Q_1 : Cond.fieldLink R_P 96 (F_Q 1).1 (F_Q 1).2.1 (F_Q 1).2.2.1 ∈ zTT := zmem (List.mem_of_getElem? (i := 165) (by decide +kernel)) rfl
theorem w_field_P_148_Y_0 : Cond.fieldLink R_P 148 (F_Y 0).1 (F_Y 0).2.1 (F_Y 0).2.2.1 ∈ zTT := zmem (List.mem_of_getElem? (i := 144) (by decide +kernel)) rfl
theorem w_field_P_149_Y_2 : Cond.fieldLink R_P 149 (F_Y 2).1 (F_Y 2).2.1 (F_Y 2).2.2.1 ∈ zTT := zmem (List.mem_of_getElem? (i := 148) (by decide +kernel)) rfl
theorem w_field_P_152_Y_1 : Cond.fieldLink R_P 152 (F_Y 1).1 (F_Y 1).2.1 (F_Y 1).2.2.1 ∈ zTT := zmem (List.mem_of_getElem? (i := 146) (by decide +kernel)) rfl
theorem w_field_P_127_A_2 : Cond.fieldLink R_P 127 (F_A 2).1 (F_A 2).2.1 (F_A 2).2.2.1 ∈ zTT := zmem (List.mem_of_getElem? (i := 99) (by decide +kernel)) rfl
theorem w_mlink_P_155 : Cond.methodLink R_P 155 y_P_hasBit ∈ zTT := zmem (List.mem_of_getElem? (i := 307) (by decide +kernel)) rfl
theorem w_field_P_130_A_3 : Cond.fieldLink R_P 130 (F_A 3).1 (F_A 3).2.1 (F_A 3).2.2.1 ∈ zTT := zmem (List.mem_of_getElem? (i := 101) (by decide +kernel)) rfl
theorem w_field_P_176_W_0 : Cond.fieldLink R_P 176 (F_W 0).1 (F_W 0).2.1 (F_W 0).2.2.1 ∈ zTT := zmem (List.mem_of_getElem? (i := 87) (by decide +kernel)) rfl
theorem w_field_P_179_S_2 : Cond.fieldLink R_P 179 (F_S 2).1 (F_S 2).2.1 (F_S 2).2.2.1 ∈ zTT := zmem (List.mem_of_getElem? (i := 53) (by decide +kernel)) rfl
theorem w_field_A_31_A_6 : Cond.fieldLink R_A 31 (F_A 6).1 (F_A 6).2.1 (F_A 6).2.2.1 ∈ zTT := zmem (List.mem_of_getElem? (i := 106) (by decide +kernel)) rfl
theorem w_mlink_P_182 : Cond.methodLink R_P 182 y_A_usedAt ∈ zTT := zmem (List.mem_of_getElem? (i := 312) (by decide +kernel)) rfl
theorem w_imeth_A_usedAt : Cond.instanceMethod y_A_usedAt ∈ zTT := zmem (List.mem_of_getElem? (i := 313) (by decide +kernel)) rfl
theorem w_sel_A_usedAt : Cond.selects R_A y_A_usedAt y_A_usedAt ∈ zTT := zmem (List.mem_of_getElem? (i := 314) (by decide +kernel)) rfl
set_option maxRecDepth 100000 in
theorem w_code_A_usedAt : Cond.code y_A_usedAt b_A_usedAt 3 (some .int) ∈ zTT := zmem (List.mem_of_getElem? (i := 315) rfl) rfl
theorem w_mlink_P_158 : Cond.methodLink R_P 158 y_P_usesBranchOutside ∈ zTT := zmem (List.mem_of_getElem? (i := 308) (by decide +kernel)) rfl
theorem w_imeth_P_usesBranchOutside : Cond.instanceMethod y_P_usesBranchOutside ∈ zTT := zmem (List.mem_of_getElem? (i := 310) (by decide +kernel)) rfl
theorem w_sel_P_usesBranchOutside : Cond.selects R_P y_P_usesBranchOutside y_P_usesBranchOutside ∈ zTT := zmem (List.mem_of_getElem? (i := 6) (by decide +kernel)) rfl
set_option maxRecDepth 100000 in
theorem w_code_P_usesBranchOutside : Cond.code y_P_usesBranchOutside b_P_usesBranchOutside 4 (some .boolean) ∈ zTT := zmem (List.mem_of_getElem? (i := 311) rfl) rfl
theorem w_field_P_133_A_4 : Cond.fieldLink R_P 133 (F_A 4).1 (F_A 4).2.1 (F_A 4).2.2.1 ∈ zTT := zmem (List.mem_of_getElem? (i := 103) (by decide +kernel)) rfl
theorem w_field_P_185_S_3 : Cond.fieldLink R_P 185 (F_S 3).1 (F_S 3).2.1 (F_S 3).2.2.1 ∈ zTT := zmem (List.mem_of_getElem? (i := 55) (by decide +kernel)) rfl
theorem w_const_Ig_265_1431655765 : Cond.constant R_Ig 265 1431655765 ∈ zTT := zmem (List.mem_of_getElem? (i := 323) (by decide +kernel)) rfl
theorem w_const_Ig_266_858993459 : Cond.constant R_Ig 266 858993459 ∈ zTT := zmem (List.mem_of_getElem? (i := 324) (by decide +kernel)) rfl
theorem w_const_Ig_267_252645135 : Cond.constant R_Ig 267 252645135 ∈ zTT := zmem (List.mem_of_getElem? (i := 325) (by decide +kernel)) rfl
theorem w_mlink_P_188 : Cond.methodLink R_P 188 y_Ig_bitCount ∈ zTT := zmem (List.mem_of_getElem? (i := 320) (by decide +kernel)) rfl
theorem w_stat_Ig_bitCount : Cond.static y_Ig_bitCount ∈ zTT := zmem (List.mem_of_getElem? (i := 321) (by decide +kernel)) rfl
theorem w_init_Ig : Cond.initialized R_Ig ∈ zTT := zmem (List.mem_of_getElem? (i := 34) (by decide +kernel)) rfl
set_option maxRecDepth 100000 in
theorem w_code_Ig_bitCount : Cond.code y_Ig_bitCount b_Ig_bitCount 1 (some .int) ∈ zTT := zmem (List.mem_of_getElem? (i := 322) rfl) rfl
theorem w_mlink_P_161 : Cond.methodLink R_P 161 y_P_usesReviewedBelow ∈ zTT := zmem (List.mem_of_getElem? (i := 316) (by decide +kernel)) rfl
theorem w_imeth_P_usesReviewedBelow : Cond.instanceMethod y_P_usesReviewedBelow ∈ zTT := zmem (List.mem_of_getElem? (i := 318) (by decide +kernel)) rfl
theorem w_sel_P_usesReviewedBelow : Cond.selects R_P y_P_usesReviewedBelow y_P_usesReviewedBelow ∈ zTT := zmem (List.mem_of_getElem? (i := 7) (by decide +kernel)) rfl
set_option maxRecDepth 100000 in
theorem w_code_P_usesReviewedBelow : Cond.code y_P_usesReviewedBelow b_P_usesReviewedBelow 6 (some .boolean) ∈ zTT := zmem (List.mem_of_getElem? (i := 319) rfl) rfl
theorem w_mlink_P_164 : Cond.methodLink R_P 164 y_P_usesFetchedUntold ∈ zTT := zmem (List.mem_of_getElem? (i := 326) (by decide +kernel)) rfl
theorem w_imeth_P_usesFetchedUntold : Cond.instanceMethod y_P_usesFetchedUntold ∈ zTT := zmem (List.mem_of_getElem? (i := 328) (by decide +kernel)) rfl
theorem w_sel_P_usesFetchedUntold : Cond.selects R_P y_P_usesFetchedUntold y_P_usesFetchedUntold ∈ zTT := zmem (List.mem_of_getElem? (i := 8) (by decide +kernel)) rfl
set_option maxRecDepth 100000 in
theorem w_code_P_usesFetchedUntold : Cond.code y_P_usesFetchedUntold b_P_usesFetchedUntold 3 (some .boolean) ∈ zTT := zmem (List.mem_of_getElem? (i := 329) rfl) rfl
theorem w_mlink_P_112 : Cond.methodLink R_P 112 y_A_missingPlace ∈ zTT := zmem (List.mem_of_getElem? (i := 330) (by decide +kernel)) rfl
theorem w_imeth_A_missingPlace : Cond.instanceMethod y_A_missingPlace ∈ zTT := zmem (List.mem_of_getElem? (i := 331) (by decide +kernel)) rfl
theorem w_sel_A_missingPlace : Cond.selects R_A y_A_missingPlace y_A_missingPlace ∈ zTT := zmem (List.mem_of_getElem? (i := 332) (by decide +kernel)) rfl
set_option maxRecDepth 100000 in
theorem w_code_A_missingPlace : Cond.code y_A_missingPlace b_A_missingPlace 5 (some .int) ∈ zTT := zmem (List.mem_of_getElem? (i := 333) rfl) rfl
theorem w_mlink_P_167 : Cond.methodLink R_P 167 y_A_needsLaterBy ∈ zTT := zmem (List.mem_of_getElem? (i := 334) (by decide +kernel)) rfl
theorem w_imeth_A_needsLaterBy : Cond.instanceMethod y_A_needsLaterBy ∈ zTT := zmem (List.mem_of_getElem? (i := 335) (by decide +kernel)) rfl
theorem w_sel_A_needsLaterBy : Cond.selects R_A y_A_needsLaterBy y_A_needsLaterBy ∈ zTT := zmem (List.mem_of_getElem? (i := 336) (by decide +kernel)) rfl
set_option maxRecDepth 100000 in
theorem w_code_A_needsLaterBy : Cond.code y_A_needsLaterBy b_A_needsLaterBy 5 (some .boolean) ∈ zTT := zmem (List.mem_of_getElem? (i := 337) rfl) rfl
theorem w_mlink_A_78 : Cond.methodLink R_A 78 y_W_sameInOrder ∈ zTT := zmem (List.mem_of_getElem? (i := 346) (by decide +kernel)) rfl
theorem w_imeth_W_sameInOrder : Cond.instanceMethod y_W_sameInOrder ∈ zTT := zmem (List.mem_of_getElem? (i := 347) (by decide +kernel)) rfl
theorem w_sel_W_sameInOrder : Cond.selects R_W y_W_sameInOrder y_W_sameInOrder ∈ zTT := zmem (List.mem_of_getElem? (i := 348) (by decide +kernel)) rfl
set_option maxRecDepth 100000 in
theorem w_code_W_sameInOrder : Cond.code y_W_sameInOrder b_W_sameInOrder 4 (some .boolean) ∈ zTT := zmem (List.mem_of_getElem? (i := 349) rfl) rfl
theorem w_mlink_A_74 : Cond.methodLink R_A 74 y_A_clashing ∈ zTT := zmem (List.mem_of_getElem? (i := 342) (by decide +kernel)) rfl
theorem w_imeth_A_clashing : Cond.instanceMethod y_A_clashing ∈ zTT := zmem (List.mem_of_getElem? (i := 343) (by decide +kernel)) rfl
theorem w_sel_A_clashing : Cond.selects R_A y_A_clashing y_A_clashing ∈ zTT := zmem (List.mem_of_getElem? (i := 344) (by decide +kernel)) rfl
set_option maxRecDepth 100000 in
theorem w_code_A_clashing : Cond.code y_A_clashing b_A_clashing 4 (some .boolean) ∈ zTT := zmem (List.mem_of_getElem? (i := 345) rfl) rfl
theorem w_mlink_P_170 : Cond.methodLink R_P 170 y_A_clashesWithAny ∈ zTT := zmem (List.mem_of_getElem? (i := 338) (by decide +kernel)) rfl
theorem w_imeth_A_clashesWithAny : Cond.instanceMethod y_A_clashesWithAny ∈ zTT := zmem (List.mem_of_getElem? (i := 339) (by decide +kernel)) rfl
theorem w_sel_A_clashesWithAny : Cond.selects R_A y_A_clashesWithAny y_A_clashesWithAny ∈ zTT := zmem (List.mem_of_getElem? (i := 340) (by decide +kernel)) rfl
set_option maxRecDepth 100000 in
theorem w_code_A_clashesWithAny : Cond.code y_A_clashesWithAny b_A_clashesWithAny 3 (some .boolean) ∈ zTT := zmem (List.mem_of_getElem? (i := 341) rfl) rfl
theorem w_mlink_P_173 : Cond.methodLink R_P 173 y_A_restsOnNothing ∈ zTT := zmem (List.mem_of_getElem? (i := 350) (by decide +kernel)) rfl
theorem w_imeth_A_restsOnNothing : Cond.instanceMethod y_A_restsOnNothing ∈ zTT := zmem (List.mem_of_getElem? (i := 351) (by decide +kernel)) rfl
theorem w_sel_A_restsOnNothing : Cond.selects R_A y_A_restsOnNothing y_A_restsOnNothing ∈ zTT := zmem (List.mem_of_getElem? (i := 352) (by decide +kernel)) rfl
set_option maxRecDepth 100000 in
theorem w_code_A_restsOnNothing : Cond.code y_A_restsOnNothing b_A_restsOnNothing 2 (some .boolean) ∈ zTT := zmem (List.mem_of_getElem? (i := 353) rfl) rfl
theorem w_field_P_40_P_5 : Cond.fieldLink R_P 40 (F_P 5).1 (F_P 5).2.1 (F_P 5).2.2.1 ∈ zTT := zmem (List.mem_of_getElem? (i := 179) (by decide +kernel)) rfl
theorem w_mlink_P_105 : Cond.methodLink R_P 105 y_P_isBroken ∈ zTT := zmem (List.mem_of_getElem? (i := 303) (by decide +kernel)) rfl
theorem w_imeth_P_isBroken : Cond.instanceMethod y_P_isBroken ∈ zTT := zmem (List.mem_of_getElem? (i := 305) (by decide +kernel)) rfl
theorem w_sel_P_isBroken : Cond.selects R_P y_P_isBroken y_P_isBroken ∈ zTT := zmem (List.mem_of_getElem? (i := 5) (by decide +kernel)) rfl
set_option maxRecDepth 100000 in
theorem w_code_P_isBroken : Cond.code y_P_isBroken b_P_isBroken 4 (some .boolean) ∈ zTT := zmem (List.mem_of_getElem? (i := 306) rfl) rfl
theorem w_field_P_43_P_6 : Cond.fieldLink R_P 43 (F_P 6).1 (F_P 6).2.1 (F_P 6).2.2.1 ∈ zTT := zmem (List.mem_of_getElem? (i := 180) (by decide +kernel)) rfl
theorem w_mlink_P_100 : Cond.methodLink R_P 100 y_P_firstBrokenBy ∈ zTT := zmem (List.mem_of_getElem? (i := 299) (by decide +kernel)) rfl
theorem w_imeth_P_firstBrokenBy : Cond.instanceMethod y_P_firstBrokenBy ∈ zTT := zmem (List.mem_of_getElem? (i := 301) (by decide +kernel)) rfl
theorem w_sel_P_firstBrokenBy : Cond.selects R_P y_P_firstBrokenBy y_P_firstBrokenBy ∈ zTT := zmem (List.mem_of_getElem? (i := 4) (by decide +kernel)) rfl
set_option maxRecDepth 100000 in
theorem w_code_P_firstBrokenBy : Cond.code y_P_firstBrokenBy b_P_firstBrokenBy 3 (some .int) ∈ zTT := zmem (List.mem_of_getElem? (i := 302) rfl) rfl
theorem w_mlink_P_104 : Cond.methodLink R_P 104 y_Y_has ∈ zTT := zmem (List.mem_of_getElem? (i := 362) (by decide +kernel)) rfl
theorem w_imeth_Y_has : Cond.instanceMethod y_Y_has ∈ zTT := zmem (List.mem_of_getElem? (i := 363) (by decide +kernel)) rfl
theorem w_sel_Y_has : Cond.selects R_Y y_Y_has y_Y_has ∈ zTT := zmem (List.mem_of_getElem? (i := 364) (by decide +kernel)) rfl
set_option maxRecDepth 100000 in
theorem w_code_Y_has : Cond.code y_Y_has b_Y_has 2 (some .boolean) ∈ zTT := zmem (List.mem_of_getElem? (i := 365) rfl) rfl
theorem w_field_P_33_P_3 : Cond.fieldLink R_P 33 (F_P 3).1 (F_P 3).2.1 (F_P 3).2.2.1 ∈ zTT := zmem (List.mem_of_getElem? (i := 177) (by decide +kernel)) rfl
theorem w_field_P_108_A_0 : Cond.fieldLink R_P 108 (F_A 0).1 (F_A 0).2.1 (F_A 0).2.2.1 ∈ zTT := zmem (List.mem_of_getElem? (i := 95) (by decide +kernel)) rfl
theorem w_field_P_196_S_1 : Cond.fieldLink R_P 196 (F_S 1).1 (F_S 1).2.1 (F_S 1).2.2.1 ∈ zTT := zmem (List.mem_of_getElem? (i := 51) (by decide +kernel)) rfl
theorem w_mlink_P_193 : Cond.methodLink R_P 193 y_P_usesDigest ∈ zTT := zmem (List.mem_of_getElem? (i := 382) (by decide +kernel)) rfl
theorem w_imeth_P_usesDigest : Cond.instanceMethod y_P_usesDigest ∈ zTT := zmem (List.mem_of_getElem? (i := 384) (by decide +kernel)) rfl
theorem w_sel_P_usesDigest : Cond.selects R_P y_P_usesDigest y_P_usesDigest ∈ zTT := zmem (List.mem_of_getElem? (i := 10) (by decide +kernel)) rfl
set_option maxRecDepth 100000 in
theorem w_code_P_usesDigest : Cond.code y_P_usesDigest b_P_usesDigest 5 (some .boolean) ∈ zTT := zmem (List.mem_of_getElem? (i := 385) rfl) rfl
theorem w_mlink_P_109 : Cond.methodLink R_P 109 y_P_restsOn ∈ zTT := zmem (List.mem_of_getElem? (i := 378) (by decide +kernel)) rfl
theorem w_imeth_P_restsOn : Cond.instanceMethod y_P_restsOn ∈ zTT := zmem (List.mem_of_getElem? (i := 380) (by decide +kernel)) rfl
theorem w_sel_P_restsOn : Cond.selects R_P y_P_restsOn y_P_restsOn ∈ zTT := zmem (List.mem_of_getElem? (i := 9) (by decide +kernel)) rfl
set_option maxRecDepth 100000 in
theorem w_code_P_restsOn : Cond.code y_P_restsOn b_P_restsOn 5 (some .boolean) ∈ zTT := zmem (List.mem_of_getElem? (i := 381) rfl) rfl
theorem w_mlink_P_119 : Cond.methodLink R_P 119 y_P_bitIf ∈ zTT := zmem (List.mem_of_getElem? (i := 399) (by decide +kernel)) rfl
theorem w_stat_P_bitIf : Cond.static y_P_bitIf ∈ zTT := zmem (List.mem_of_getElem? (i := 400) (by decide +kernel)) rfl
set_option maxRecDepth 100000 in
theorem w_code_P_bitIf : Cond.code y_P_bitIf b_P_bitIf 2 (some .int) ∈ zTT := zmem (List.mem_of_getElem? (i := 401) rfl) rfl
theorem w_mlink_P_115 : Cond.methodLink R_P 115 y_A_differAtPath ∈ zTT := zmem (List.mem_of_getElem? (i := 394) (by decide +kernel)) rfl
theorem w_imeth_A_differAtPath : Cond.instanceMethod y_A_differAtPath ∈ zTT := zmem (List.mem_of_getElem? (i := 395) (by decide +kernel)) rfl
theorem w_sel_A_differAtPath : Cond.selects R_A y_A_differAtPath y_A_differAtPath ∈ zTT := zmem (List.mem_of_getElem? (i := 396) (by decide +kernel)) rfl
set_option maxRecDepth 100000 in
theorem w_code_A_differAtPath : Cond.code y_A_differAtPath b_A_differAtPath 4 (some .boolean) ∈ zTT := zmem (List.mem_of_getElem? (i := 397) rfl) rfl
theorem w_field_P_123_A_1 : Cond.fieldLink R_P 123 (F_A 1).1 (F_A 1).2.1 (F_A 1).2.2.1 ∈ zTT := zmem (List.mem_of_getElem? (i := 97) (by decide +kernel)) rfl
theorem w_field_P_136_A_5 : Cond.fieldLink R_P 136 (F_A 5).1 (F_A 5).2.1 (F_A 5).2.2.1 ∈ zTT := zmem (List.mem_of_getElem? (i := 105) (by decide +kernel)) rfl
theorem w_mlink_P_139 : Cond.methodLink R_P 139 y_W_sameAsSets ∈ zTT := zmem (List.mem_of_getElem? (i := 406) (by decide +kernel)) rfl
theorem w_imeth_W_sameAsSets : Cond.instanceMethod y_W_sameAsSets ∈ zTT := zmem (List.mem_of_getElem? (i := 407) (by decide +kernel)) rfl
theorem w_sel_W_sameAsSets : Cond.selects R_W y_W_sameAsSets y_W_sameAsSets ∈ zTT := zmem (List.mem_of_getElem? (i := 408) (by decide +kernel)) rfl
set_option maxRecDepth 100000 in
theorem w_code_W_sameAsSets : Cond.code y_W_sameAsSets b_W_sameAsSets 4 (some .boolean) ∈ zTT := zmem (List.mem_of_getElem? (i := 409) rfl) rfl
theorem w_field_P_142_A_7 : Cond.fieldLink R_P 142 (F_A 7).1 (F_A 7).2.1 (F_A 7).2.2.1 ∈ zTT := zmem (List.mem_of_getElem? (i := 110) (by decide +kernel)) rfl
theorem w_mlink_P_145 : Cond.methodLink R_P 145 y_A_clashing ∈ zTT := zmem (List.mem_of_getElem? (i := 414) (by decide +kernel)) rfl
theorem w_field_M_79_M_0 : Cond.fieldLink R_M 79 (F_M 0).1 (F_M 0).2.1 (F_M 0).2.2.1 ∈ zTT := zmem (List.mem_of_getElem? (i := 421) (by decide +kernel)) rfl
theorem w_field_M_7_M_3 : Cond.fieldLink R_M 7 (F_M 3).1 (F_M 3).2.1 (F_M 3).2.2.1 ∈ zTT := zmem (List.mem_of_getElem? (i := 424) (by decide +kernel)) rfl
theorem w_field_M_13_M_4 : Cond.fieldLink R_M 13 (F_M 4).1 (F_M 4).2.1 (F_M 4).2.2.1 ∈ zTT := zmem (List.mem_of_getElem? (i := 425) (by decide +kernel)) rfl
theorem w_field_M_17_M_5 : Cond.fieldLink R_M 17 (F_M 5).1 (F_M 5).2.1 (F_M 5).2.2.1 ∈ zTT := zmem (List.mem_of_getElem? (i := 426) (by decide +kernel)) rfl
theorem w_const_M_86_65535 : Cond.constant R_M 86 65535 ∈ zTT := zmem (List.mem_of_getElem? (i := 510) (by decide +kernel)) rfl
theorem w_mlink_M_82 : Cond.methodLink R_M 82 y_M_within ∈ zTT := zmem (List.mem_of_getElem? (i := 507) (by decide +kernel)) rfl
theorem w_stat_M_within : Cond.static y_M_within ∈ zTT := zmem (List.mem_of_getElem? (i := 508) (by decide +kernel)) rfl
theorem w_init_M : Cond.initialized R_M ∈ zTT := zmem (List.mem_of_getElem? (i := 33) (by decide +kernel)) rfl
set_option maxRecDepth 100000 in
theorem w_code_M_within : Cond.code y_M_within b_M_within 3 (some .boolean) ∈ zTT := zmem (List.mem_of_getElem? (i := 509) rfl) rfl
theorem w_field_M_20_M_6 : Cond.fieldLink R_M 20 (F_M 6).1 (F_M 6).2.1 (F_M 6).2.2.1 ∈ zTT := zmem (List.mem_of_getElem? (i := 427) (by decide +kernel)) rfl
theorem w_mlink_M_87 : Cond.methodLink R_M 87 y_M_isSource ∈ zTT := zmem (List.mem_of_getElem? (i := 515) (by decide +kernel)) rfl
theorem w_imeth_M_isSource : Cond.instanceMethod y_M_isSource ∈ zTT := zmem (List.mem_of_getElem? (i := 517) (by decide +kernel)) rfl
theorem w_sel_M_isSource : Cond.selects R_M y_M_isSource y_M_isSource ∈ zTT := zmem (List.mem_of_getElem? (i := 11) (by decide +kernel)) rfl
set_option maxRecDepth 100000 in
theorem w_code_M_isSource : Cond.code y_M_isSource b_M_isSource 2 (some .boolean) ∈ zTT := zmem (List.mem_of_getElem? (i := 518) rfl) rfl
theorem w_const_M_91_1000000000 : Cond.constant R_M 91 1000000000 ∈ zTT := zmem (List.mem_of_getElem? (i := 523) (by decide +kernel)) rfl
theorem w_field_M_76_M_1 : Cond.fieldLink R_M 76 (F_M 1).1 (F_M 1).2.1 (F_M 1).2.2.1 ∈ zTT := zmem (List.mem_of_getElem? (i := 422) (by decide +kernel)) rfl
theorem w_field_M_24_M_7 : Cond.fieldLink R_M 24 (F_M 7).1 (F_M 7).2.1 (F_M 7).2.2.1 ∈ zTT := zmem (List.mem_of_getElem? (i := 428) (by decide +kernel)) rfl
theorem w_field_M_33_M_10 : Cond.fieldLink R_M 33 (F_M 10).1 (F_M 10).2.1 (F_M 10).2.2.1 ∈ zTT := zmem (List.mem_of_getElem? (i := 431) (by decide +kernel)) rfl
theorem w_field_M_36_M_11 : Cond.fieldLink R_M 36 (F_M 11).1 (F_M 11).2.1 (F_M 11).2.2.1 ∈ zTT := zmem (List.mem_of_getElem? (i := 432) (by decide +kernel)) rfl
theorem w_field_M_39_M_12 : Cond.fieldLink R_M 39 (F_M 12).1 (F_M 12).2.1 (F_M 12).2.2.1 ∈ zTT := zmem (List.mem_of_getElem? (i := 433) (by decide +kernel)) rfl
theorem w_field_M_42_M_13 : Cond.fieldLink R_M 42 (F_M 13).1 (F_M 13).2.1 (F_M 13).2.2.1 ∈ zTT := zmem (List.mem_of_getElem? (i := 434) (by decide +kernel)) rfl
theorem w_field_M_45_M_14 : Cond.fieldLink R_M 45 (F_M 14).1 (F_M 14).2.1 (F_M 14).2.2.1 ∈ zTT := zmem (List.mem_of_getElem? (i := 435) (by decide +kernel)) rfl
theorem w_field_M_48_M_15 : Cond.fieldLink R_M 48 (F_M 15).1 (F_M 15).2.1 (F_M 15).2.2.1 ∈ zTT := zmem (List.mem_of_getElem? (i := 436) (by decide +kernel)) rfl
theorem w_mlink_M_95 : Cond.methodLink R_M 95 y_M_hasUse ∈ zTT := zmem (List.mem_of_getElem? (i := 532) (by decide +kernel)) rfl
theorem w_imeth_M_hasUse : Cond.instanceMethod y_M_hasUse ∈ zTT := zmem (List.mem_of_getElem? (i := 534) (by decide +kernel)) rfl
theorem w_sel_M_hasUse : Cond.selects R_M y_M_hasUse y_M_hasUse ∈ zTT := zmem (List.mem_of_getElem? (i := 13) (by decide +kernel)) rfl
set_option maxRecDepth 100000 in
theorem w_code_M_hasUse : Cond.code y_M_hasUse b_M_hasUse 5 (some .boolean) ∈ zTT := zmem (List.mem_of_getElem? (i := 535) rfl) rfl
theorem w_mlink_M_92 : Cond.methodLink R_M 92 y_M_isArtefact ∈ zTT := zmem (List.mem_of_getElem? (i := 528) (by decide +kernel)) rfl
theorem w_imeth_M_isArtefact : Cond.instanceMethod y_M_isArtefact ∈ zTT := zmem (List.mem_of_getElem? (i := 530) (by decide +kernel)) rfl
theorem w_sel_M_isArtefact : Cond.selects R_M y_M_isArtefact y_M_isArtefact ∈ zTT := zmem (List.mem_of_getElem? (i := 12) (by decide +kernel)) rfl
set_option maxRecDepth 100000 in
theorem w_code_M_isArtefact : Cond.code y_M_isArtefact b_M_isArtefact 2 (some .boolean) ∈ zTT := zmem (List.mem_of_getElem? (i := 531) rfl) rfl
theorem w_field_M_51_M_16 : Cond.fieldLink R_M 51 (F_M 16).1 (F_M 16).2.1 (F_M 16).2.2.1 ∈ zTT := zmem (List.mem_of_getElem? (i := 437) (by decide +kernel)) rfl
theorem w_field_M_27_M_8 : Cond.fieldLink R_M 27 (F_M 8).1 (F_M 8).2.1 (F_M 8).2.2.1 ∈ zTT := zmem (List.mem_of_getElem? (i := 429) (by decide +kernel)) rfl
theorem w_mlink_M_99 : Cond.methodLink R_M 99 y_M_hasNeed ∈ zTT := zmem (List.mem_of_getElem? (i := 540) (by decide +kernel)) rfl
theorem w_imeth_M_hasNeed : Cond.instanceMethod y_M_hasNeed ∈ zTT := zmem (List.mem_of_getElem? (i := 542) (by decide +kernel)) rfl
theorem w_sel_M_hasNeed : Cond.selects R_M y_M_hasNeed y_M_hasNeed ∈ zTT := zmem (List.mem_of_getElem? (i := 14) (by decide +kernel)) rfl
set_option maxRecDepth 100000 in
theorem w_code_M_hasNeed : Cond.code y_M_hasNeed b_M_hasNeed 6 (some .boolean) ∈ zTT := zmem (List.mem_of_getElem? (i := 543) rfl) rfl
theorem w_field_M_54_M_17 : Cond.fieldLink R_M 54 (F_M 17).1 (F_M 17).2.1 (F_M 17).2.2.1 ∈ zTT := zmem (List.mem_of_getElem? (i := 438) (by decide +kernel)) rfl
theorem w_field_M_30_M_9 : Cond.fieldLink R_M 30 (F_M 9).1 (F_M 9).2.1 (F_M 9).2.2.1 ∈ zTT := zmem (List.mem_of_getElem? (i := 430) (by decide +kernel)) rfl
theorem w_field_M_103_M_2 : Cond.fieldLink R_M 103 (F_M 2).1 (F_M 2).2.1 (F_M 2).2.2.1 ∈ zTT := zmem (List.mem_of_getElem? (i := 423) (by decide +kernel)) rfl
theorem w_field_M_57_M_18 : Cond.fieldLink R_M 57 (F_M 18).1 (F_M 18).2.1 (F_M 18).2.2.1 ∈ zTT := zmem (List.mem_of_getElem? (i := 439) (by decide +kernel)) rfl
theorem w_field_M_60_M_19 : Cond.fieldLink R_M 60 (F_M 19).1 (F_M 19).2.1 (F_M 19).2.2.1 ∈ zTT := zmem (List.mem_of_getElem? (i := 440) (by decide +kernel)) rfl
theorem w_field_M_106_M_21 : Cond.fieldLink R_M 106 (F_M 21).1 (F_M 21).2.1 (F_M 21).2.2.1 ∈ zTT := zmem (List.mem_of_getElem? (i := 442) (by decide +kernel)) rfl
theorem w_field_M_67_M_24 : Cond.fieldLink R_M 67 (F_M 24).1 (F_M 24).2.1 (F_M 24).2.2.1 ∈ zTT := zmem (List.mem_of_getElem? (i := 445) (by decide +kernel)) rfl
theorem w_mlink_M_109 : Cond.methodLink R_M 109 y_M_come ∈ zTT := zmem (List.mem_of_getElem? (i := 560) (by decide +kernel)) rfl
theorem w_imeth_M_come : Cond.instanceMethod y_M_come ∈ zTT := zmem (List.mem_of_getElem? (i := 562) (by decide +kernel)) rfl
theorem w_sel_M_come : Cond.selects R_M y_M_come y_M_come ∈ zTT := zmem (List.mem_of_getElem? (i := 16) (by decide +kernel)) rfl
set_option maxRecDepth 100000 in
theorem w_code_M_come : Cond.code y_M_come b_M_come 3 none ∈ zTT := zmem (List.mem_of_getElem? (i := 563) rfl) rfl
theorem w_mlink_M_113 : Cond.methodLink R_M 113 y_M_meets ∈ zTT := zmem (List.mem_of_getElem? (i := 564) (by decide +kernel)) rfl
theorem w_imeth_M_meets : Cond.instanceMethod y_M_meets ∈ zTT := zmem (List.mem_of_getElem? (i := 566) (by decide +kernel)) rfl
theorem w_sel_M_meets : Cond.selects R_M y_M_meets y_M_meets ∈ zTT := zmem (List.mem_of_getElem? (i := 17) (by decide +kernel)) rfl
set_option maxRecDepth 100000 in
theorem w_code_M_meets : Cond.code y_M_meets b_M_meets 4 (some .int) ∈ zTT := zmem (List.mem_of_getElem? (i := 567) rfl) rfl
theorem w_field_M_120_M_23 : Cond.fieldLink R_M 120 (F_M 23).1 (F_M 23).2.1 (F_M 23).2.2.1 ∈ zTT := zmem (List.mem_of_getElem? (i := 444) (by decide +kernel)) rfl
theorem w_mlink_M_117 : Cond.methodLink R_M 117 y_M_goAlong ∈ zTT := zmem (List.mem_of_getElem? (i := 556) (by decide +kernel)) rfl
theorem w_imeth_M_goAlong : Cond.instanceMethod y_M_goAlong ∈ zTT := zmem (List.mem_of_getElem? (i := 558) (by decide +kernel)) rfl
theorem w_sel_M_goAlong : Cond.selects R_M y_M_goAlong y_M_goAlong ∈ zTT := zmem (List.mem_of_getElem? (i := 15) (by decide +kernel)) rfl
set_option maxRecDepth 100000 in
theorem w_code_M_goAlong : Cond.code y_M_goAlong b_M_goAlong 7 none ∈ zTT := zmem (List.mem_of_getElem? (i := 559) rfl) rfl
theorem w_field_M_73_M_26 : Cond.fieldLink R_M 73 (F_M 26).1 (F_M 26).2.1 (F_M 26).2.2.1 ∈ zTT := zmem (List.mem_of_getElem? (i := 447) (by decide +kernel)) rfl
theorem w_mlink_M_123 : Cond.methodLink R_M 123 y_M_others ∈ zTT := zmem (List.mem_of_getElem? (i := 592) (by decide +kernel)) rfl
theorem w_imeth_M_others : Cond.instanceMethod y_M_others ∈ zTT := zmem (List.mem_of_getElem? (i := 594) (by decide +kernel)) rfl
theorem w_sel_M_others : Cond.selects R_M y_M_others y_M_others ∈ zTT := zmem (List.mem_of_getElem? (i := 20) (by decide +kernel)) rfl
set_option maxRecDepth 100000 in
theorem w_code_M_others : Cond.code y_M_others b_M_others 5 (some .int) ∈ zTT := zmem (List.mem_of_getElem? (i := 595) rfl) rfl
theorem w_mlink_M_130 : Cond.methodLink R_M 130 y_M_sourceBreaks ∈ zTT := zmem (List.mem_of_getElem? (i := 588) (by decide +kernel)) rfl
theorem w_imeth_M_sourceBreaks : Cond.instanceMethod y_M_sourceBreaks ∈ zTT := zmem (List.mem_of_getElem? (i := 590) (by decide +kernel)) rfl
theorem w_sel_M_sourceBreaks : Cond.selects R_M y_M_sourceBreaks y_M_sourceBreaks ∈ zTT := zmem (List.mem_of_getElem? (i := 19) (by decide +kernel)) rfl
set_option maxRecDepth 100000 in
theorem w_code_M_sourceBreaks : Cond.code y_M_sourceBreaks b_M_sourceBreaks 7 (some .boolean) ∈ zTT := zmem (List.mem_of_getElem? (i := 591) rfl) rfl
theorem w_mlink_M_133 : Cond.methodLink R_M 133 y_M_missing ∈ zTT := zmem (List.mem_of_getElem? (i := 596) (by decide +kernel)) rfl
theorem w_imeth_M_missing : Cond.instanceMethod y_M_missing ∈ zTT := zmem (List.mem_of_getElem? (i := 577) (by decide +kernel)) rfl
theorem w_sel_M_missing : Cond.selects R_M y_M_missing y_M_missing ∈ zTT := zmem (List.mem_of_getElem? (i := 578) (by decide +kernel)) rfl
set_option maxRecDepth 100000 in
theorem w_code_M_missing : Cond.code y_M_missing b_M_missing 5 (some .int) ∈ zTT := zmem (List.mem_of_getElem? (i := 579) rfl) rfl
theorem w_mlink_M_136 : Cond.methodLink R_M 136 y_M_isLate ∈ zTT := zmem (List.mem_of_getElem? (i := 597) (by decide +kernel)) rfl
theorem w_imeth_M_isLate : Cond.instanceMethod y_M_isLate ∈ zTT := zmem (List.mem_of_getElem? (i := 599) (by decide +kernel)) rfl
theorem w_sel_M_isLate : Cond.selects R_M y_M_isLate y_M_isLate ∈ zTT := zmem (List.mem_of_getElem? (i := 21) (by decide +kernel)) rfl
set_option maxRecDepth 100000 in
theorem w_code_M_isLate : Cond.code y_M_isLate b_M_isLate 5 (some .boolean) ∈ zTT := zmem (List.mem_of_getElem? (i := 600) rfl) rfl
theorem w_mlink_M_127 : Cond.methodLink R_M 127 y_M_agree ∈ zTT := zmem (List.mem_of_getElem? (i := 605) (by decide +kernel)) rfl
theorem w_imeth_M_agree : Cond.instanceMethod y_M_agree ∈ zTT := zmem (List.mem_of_getElem? (i := 607) (by decide +kernel)) rfl
theorem w_sel_M_agree : Cond.selects R_M y_M_agree y_M_agree ∈ zTT := zmem (List.mem_of_getElem? (i := 23) (by decide +kernel)) rfl
set_option maxRecDepth 100000 in
theorem w_code_M_agree : Cond.code y_M_agree b_M_agree 5 (some .boolean) ∈ zTT := zmem (List.mem_of_getElem? (i := 608) rfl) rfl
theorem w_mlink_M_139 : Cond.methodLink R_M 139 y_M_isClash ∈ zTT := zmem (List.mem_of_getElem? (i := 601) (by decide +kernel)) rfl
theorem w_imeth_M_isClash : Cond.instanceMethod y_M_isClash ∈ zTT := zmem (List.mem_of_getElem? (i := 603) (by decide +kernel)) rfl
theorem w_sel_M_isClash : Cond.selects R_M y_M_isClash y_M_isClash ∈ zTT := zmem (List.mem_of_getElem? (i := 22) (by decide +kernel)) rfl
set_option maxRecDepth 100000 in
theorem w_code_M_isClash : Cond.code y_M_isClash b_M_isClash 3 (some .boolean) ∈ zTT := zmem (List.mem_of_getElem? (i := 604) rfl) rfl
theorem w_mlink_M_142 : Cond.methodLink R_M 142 y_M_isBroken ∈ zTT := zmem (List.mem_of_getElem? (i := 584) (by decide +kernel)) rfl
theorem w_imeth_M_isBroken : Cond.instanceMethod y_M_isBroken ∈ zTT := zmem (List.mem_of_getElem? (i := 586) (by decide +kernel)) rfl
theorem w_sel_M_isBroken : Cond.selects R_M y_M_isBroken y_M_isBroken ∈ zTT := zmem (List.mem_of_getElem? (i := 18) (by decide +kernel)) rfl
set_option maxRecDepth 100000 in
theorem w_code_M_isBroken : Cond.code y_M_isBroken b_M_isBroken 6 (some .boolean) ∈ zTT := zmem (List.mem_of_getElem? (i := 587) rfl) rfl
theorem w_field_M_145_M_22 : Cond.fieldLink R_M 145 (F_M 22).1 (F_M 22).2.1 (F_M 22).2.2.1 ∈ zTT := zmem (List.mem_of_getElem? (i := 443) (by decide +kernel)) rfl
theorem w_field_M_70_M_25 : Cond.fieldLink R_M 70 (F_M 25).1 (F_M 25).2.1 (F_M 25).2.2.1 ∈ zTT := zmem (List.mem_of_getElem? (i := 446) (by decide +kernel)) rfl
theorem w_field_M_63_M_20 : Cond.fieldLink R_M 63 (F_M 20).1 (F_M 20).2.1 (F_M 20).2.2.1 ∈ zTT := zmem (List.mem_of_getElem? (i := 441) (by decide +kernel)) rfl
theorem w_mlink_M_148 : Cond.methodLink R_M 148 y_M_sameSources ∈ zTT := zmem (List.mem_of_getElem? (i := 625) (by decide +kernel)) rfl
theorem w_imeth_M_sameSources : Cond.instanceMethod y_M_sameSources ∈ zTT := zmem (List.mem_of_getElem? (i := 627) (by decide +kernel)) rfl
theorem w_sel_M_sameSources : Cond.selects R_M y_M_sameSources y_M_sameSources ∈ zTT := zmem (List.mem_of_getElem? (i := 24) (by decide +kernel)) rfl
set_option maxRecDepth 100000 in
theorem w_code_M_sameSources : Cond.code y_M_sameSources b_M_sameSources 5 (some .boolean) ∈ zTT := zmem (List.mem_of_getElem? (i := 628) rfl) rfl
theorem w_mlink_M_151 : Cond.methodLink R_M 151 y_M_sameNeeds ∈ zTT := zmem (List.mem_of_getElem? (i := 629) (by decide +kernel)) rfl
theorem w_imeth_M_sameNeeds : Cond.instanceMethod y_M_sameNeeds ∈ zTT := zmem (List.mem_of_getElem? (i := 631) (by decide +kernel)) rfl
theorem w_sel_M_sameNeeds : Cond.selects R_M y_M_sameNeeds y_M_sameNeeds ∈ zTT := zmem (List.mem_of_getElem? (i := 25) (by decide +kernel)) rfl
set_option maxRecDepth 100000 in
theorem w_code_M_sameNeeds : Cond.code y_M_sameNeeds b_M_sameNeeds 5 (some .boolean) ∈ zTT := zmem (List.mem_of_getElem? (i := 632) rfl) rfl
theorem w_mlinkobj_P_1 : Cond.methodLink R_P 1 Lib.objectInit ∈ zTT := zmem (List.mem_of_getElem? (i := 40) (by decide +kernel)) rfl
theorem w_oinst : Cond.instanceMethod Lib.objectInit ∈ zTT := zmem (List.mem_of_getElem? (i := 41) (by decide +kernel)) rfl
set_option maxRecDepth 100000 in
theorem w_ocode : Cond.code Lib.objectInit ⟨#[0xb1]⟩ 1 none ∈ zTT := zmem (List.mem_of_getElem? (i := 42) rfl) rfl
theorem w_clink_P_7_S : Cond.classLink R_P 7 R_S ∈ zTT := zmem (List.mem_of_getElem? (i := 43) (by decide +kernel)) rfl
theorem w_inst_S_5 : Cond.instantiable R_S 5 ∈ zTT := zmem (List.mem_of_getElem? (i := 44) (by decide +kernel)) rfl
theorem w_mlinkobj_S_3 : Cond.methodLink R_S 3 Lib.objectInit ∈ zTT := zmem (List.mem_of_getElem? (i := 48) (by decide +kernel)) rfl
theorem w_arr_long : Cond.arrayClass (newarray.typeOf .long) ∈ zTT := zmem (List.mem_of_getElem? (i := 69) (by decide +kernel)) rfl
theorem w_arr_int : Cond.arrayClass (newarray.typeOf .int) ∈ zTT := zmem (List.mem_of_getElem? (i := 70) (by decide +kernel)) rfl
theorem w_arr_boolean : Cond.arrayClass (newarray.typeOf .boolean) ∈ zTT := zmem (List.mem_of_getElem? (i := 71) (by decide +kernel)) rfl
theorem w_field_S_22_S_4 : Cond.fieldLink R_S 22 (F_S 4).1 (F_S 4).2.1 (F_S 4).2.2.1 ∈ zTT := zmem (List.mem_of_getElem? (i := 56) (by decide +kernel)) rfl
set_option maxRecDepth 100000 in
theorem w_code_S_init : Cond.code y_S_init b_S_init 1 none ∈ zTT := zmem (List.mem_of_getElem? (i := 47) rfl) rfl
theorem w_imeth_S_init : Cond.instanceMethod y_S_init ∈ zTT := zmem (List.mem_of_getElem? (i := 46) (by decide +kernel)) rfl
theorem w_clink_P_16_A : Cond.classLink R_P 16 R_A ∈ zTT := zmem (List.mem_of_getElem? (i := 72) (by decide +kernel)) rfl
theorem w_inst_A_11 : Cond.instantiable R_A 11 ∈ zTT := zmem (List.mem_of_getElem? (i := 73) (by decide +kernel)) rfl
theorem w_mlinkobj_A_3 : Cond.methodLink R_A 3 Lib.objectInit ∈ zTT := zmem (List.mem_of_getElem? (i := 77) (by decide +kernel)) rfl
theorem w_clink_A_28_W : Cond.classLink R_A 28 R_W ∈ zTT := zmem (List.mem_of_getElem? (i := 78) (by decide +kernel)) rfl
theorem w_inst_W_2 : Cond.instantiable R_W 2 ∈ zTT := zmem (List.mem_of_getElem? (i := 79) (by decide +kernel)) rfl
theorem w_mlinkobj_W_3 : Cond.methodLink R_W 3 Lib.objectInit ∈ zTT := zmem (List.mem_of_getElem? (i := 83) (by decide +kernel)) rfl
set_option maxRecDepth 100000 in
theorem w_code_W_init : Cond.code y_W_init b_W_init 1 none ∈ zTT := zmem (List.mem_of_getElem? (i := 82) rfl) rfl
theorem w_imeth_W_init : Cond.instanceMethod y_W_init ∈ zTT := zmem (List.mem_of_getElem? (i := 81) (by decide +kernel)) rfl
set_option maxRecDepth 100000 in
theorem w_code_A_init : Cond.code y_A_init b_A_init 1 none ∈ zTT := zmem (List.mem_of_getElem? (i := 76) rfl) rfl
theorem w_imeth_A_init : Cond.instanceMethod y_A_init ∈ zTT := zmem (List.mem_of_getElem? (i := 75) (by decide +kernel)) rfl
theorem w_clink_P_23_Y : Cond.classLink R_P 23 R_Y ∈ zTT := zmem (List.mem_of_getElem? (i := 137) (by decide +kernel)) rfl
theorem w_inst_Y_3 : Cond.instantiable R_Y 3 ∈ zTT := zmem (List.mem_of_getElem? (i := 138) (by decide +kernel)) rfl
theorem w_mlinkobj_Y_3 : Cond.methodLink R_Y 3 Lib.objectInit ∈ zTT := zmem (List.mem_of_getElem? (i := 142) (by decide +kernel)) rfl
set_option maxRecDepth 100000 in
theorem w_code_Y_init : Cond.code y_Y_init b_Y_init 1 none ∈ zTT := zmem (List.mem_of_getElem? (i := 141) rfl) rfl
theorem w_imeth_Y_init : Cond.instanceMethod y_Y_init ∈ zTT := zmem (List.mem_of_getElem? (i := 140) (by decide +kernel)) rfl
theorem w_clink_P_30_Q : Cond.classLink R_P 30 R_Q ∈ zTT := zmem (List.mem_of_getElem? (i := 156) (by decide +kernel)) rfl
theorem w_inst_Q_3 : Cond.instantiable R_Q 3 ∈ zTT := zmem (List.mem_of_getElem? (i := 157) (by decide +kernel)) rfl
theorem w_mlinkobj_Q_3 : Cond.methodLink R_Q 3 Lib.objectInit ∈ zTT := zmem (List.mem_of_getElem? (i := 161) (by decide +kernel)) rfl
set_option maxRecDepth 100000 in
theorem w_code_Q_init : Cond.code y_Q_init b_Q_init 1 none ∈ zTT := zmem (List.mem_of_getElem? (i := 160) rfl) rfl
theorem w_imeth_Q_init : Cond.instanceMethod y_Q_init ∈ zTT := zmem (List.mem_of_getElem? (i := 159) (by decide +kernel)) rfl
theorem w_mlinkobj_M_1 : Cond.methodLink R_M 1 Lib.objectInit ∈ zTT := zmem (List.mem_of_getElem? (i := 420) (by decide +kernel)) rfl
theorem gV_P_52 : GoodIn zTT (wsV R_P 52 R_S y_S_add (Cond.code y_S_add b_S_add 6 (some .int) :: zTT)) := zgV w_mlink_P_52 w_imeth_S_add w_sel_S_add w_init_S w_code_S_add
theorem gS_P_47 : GoodIn zTT (va_wsS R_P 47 y_P_isUpTo (Cond.code y_P_isUpTo b_P_isUpTo 2 (some .boolean) :: zTT)) := zgS w_mlink_P_47 w_stat_P_isUpTo w_init_P w_code_P_isUpTo
theorem gV_P_56 : GoodIn zTT (wsV R_P 56 R_S y_S_has (Cond.code y_S_has b_S_has 2 (some .boolean) :: zTT)) := zgV w_mlink_P_56 w_imeth_S_has w_sel_S_has w_init_S w_code_S_has
theorem gV_A_58 : GoodIn zTT (wsV R_A 58 R_W y_W_valueAt (Cond.code y_W_valueAt b_W_valueAt 3 (some .long) :: zTT)) := zgV w_mlink_A_58 w_imeth_W_valueAt w_sel_W_valueAt w_init_W w_code_W_valueAt
theorem gV_A_62 : GoodIn zTT (wsV R_A 62 R_A y_A_metByAt (Cond.code y_A_metByAt b_A_metByAt 3 (some .int) :: zTT)) := zgV w_mlink_A_62 w_imeth_A_metByAt w_sel_A_metByAt w_init_A w_code_A_metByAt
theorem gV_A_51 : GoodIn zTT (wsV R_A 51 R_A y_A_meetMissing (Cond.code y_A_meetMissing b_A_meetMissing 5 none :: zTT)) := zgV w_mlink_A_51 w_imeth_A_meetMissing w_sel_A_meetMissing w_init_A w_code_A_meetMissing
theorem gV_P_65 : GoodIn zTT (wsV R_P 65 R_A y_A_add (Cond.code y_A_add b_A_add 8 (some .int) :: zTT)) := zgV w_mlink_P_65 w_imeth_A_add w_sel_A_add w_init_A w_code_A_add
theorem gV_W_23 : GoodIn zTT (wsV R_W 23 R_W y_W_valueAt (Cond.code y_W_valueAt b_W_valueAt 3 (some .long) :: zTT)) := zgV w_mlink_W_23 w_imeth_W_valueAt w_sel_W_valueAt w_init_W w_code_W_valueAt
theorem gV_W_19 : GoodIn zTT (wsV R_W 19 R_W y_W_contains (Cond.code y_W_contains b_W_contains 5 (some .boolean) :: zTT)) := zgV w_mlink_W_19 w_imeth_W_contains w_sel_W_contains w_init_W w_code_W_contains
theorem gV_P_73 : GoodIn zTT (wsV R_P 73 R_W y_W_append (Cond.code y_W_append b_W_append 4 (some .boolean) :: zTT)) := zgV w_mlink_P_73 w_imeth_W_append w_sel_W_append w_init_W w_code_W_append
theorem gV_P_68 : GoodIn zTT (wsV R_P 68 R_A y_A_has (Cond.code y_A_has b_A_has 2 (some .boolean) :: zTT)) := zgV w_mlink_P_68 w_imeth_A_has w_sel_A_has w_init_A w_code_A_has
theorem gV_A_70 : GoodIn zTT (wsV R_A 70 R_A y_A_firstOf (Cond.code y_A_firstOf b_A_firstOf 4 (some .int) :: zTT)) := zgV w_mlink_A_70 w_imeth_A_firstOf w_sel_A_firstOf w_init_A w_code_A_firstOf
theorem gV_A_66 : GoodIn zTT (wsV R_A 66 R_W y_W_append (Cond.code y_W_append b_W_append 4 (some .boolean) :: zTT)) := zgV w_mlink_A_66 w_imeth_W_append w_sel_W_append w_init_W w_code_W_append
theorem gV_P_79 : GoodIn zTT (wsV R_P 79 R_A y_A_addNeeded (Cond.code y_A_addNeeded b_A_addNeeded 5 (some .boolean) :: zTT)) := zgV w_mlink_P_79 w_imeth_A_addNeeded w_sel_A_addNeeded w_init_A w_code_A_addNeeded
theorem gV_P_82 : GoodIn zTT (wsV R_P 82 R_A y_A_setPath (Cond.code y_A_setPath b_A_setPath 5 none :: zTT)) := zgV w_mlink_P_82 w_imeth_A_setPath w_sel_A_setPath w_init_A w_code_A_setPath
theorem gV_P_86 : GoodIn zTT (wsV R_P 86 R_Y y_Y_add (Cond.code y_Y_add b_Y_add 4 (some .int) :: zTT)) := zgV w_mlink_P_86 w_imeth_Y_add w_sel_Y_add w_init_Y w_code_Y_add
theorem gN_Q_41 : GoodIn zTT (Cond.code y_P_hasBit b_P_hasBit 2 (some .boolean) :: zTT) := zgC w_code_P_hasBit
theorem gN_Q_41_k (D : va_G) (ca : Nat → ClassId) : ∀ U, zKK D ca U → va_Nw (.methodLinkNest R_Q 41 y_P_hasBit "ProvenanceRows") U := fun U h => h.2.2.2.2.2.2.1
theorem gV_Q_22 : GoodIn zTT (wsV R_Q 22 R_Q y_Q_reach (Cond.code y_Q_reach b_Q_reach 2 none :: zTT)) := zgV w_mlink_Q_22 w_imeth_Q_reach w_sel_Q_reach w_init_Q w_code_Q_reach
theorem gV_Q_37 : GoodIn zTT (wsV R_Q 37 R_A y_A_metByAt (Cond.code y_A_metByAt b_A_metByAt 3 (some .int) :: zTT)) := zgV w_mlink_Q_37 w_imeth_A_metByAt w_sel_A_metByAt w_init_A w_code_A_metByAt
theorem gV_P_89 : GoodIn zTT (wsV R_P 89 R_Q y_Q_walk (Cond.code y_Q_walk b_Q_walk 6 none :: zTT)) := zgV w_mlink_P_89 w_imeth_Q_walk w_sel_Q_walk w_init_Q w_code_Q_walk
theorem gS_P_155 : GoodIn zTT (va_wsS R_P 155 y_P_hasBit (Cond.code y_P_hasBit b_P_hasBit 2 (some .boolean) :: zTT)) := zgS w_mlink_P_155 w_stat_P_hasBit w_init_P w_code_P_hasBit
theorem gV_P_182 : GoodIn zTT (wsV R_P 182 R_A y_A_usedAt (Cond.code y_A_usedAt b_A_usedAt 3 (some .int) :: zTT)) := zgV w_mlink_P_182 w_imeth_A_usedAt w_sel_A_usedAt w_init_A w_code_A_usedAt
theorem gV_P_158 : GoodIn zTT (wsV R_P 158 R_P y_P_usesBranchOutside (Cond.code y_P_usesBranchOutside b_P_usesBranchOutside 4 (some .boolean) :: zTT)) := zgV w_mlink_P_158 w_imeth_P_usesBranchOutside w_sel_P_usesBranchOutside w_init_P w_code_P_usesBranchOutside
theorem gS_P_188 : GoodIn zTT (va_wsS R_P 188 y_Ig_bitCount (Cond.code y_Ig_bitCount b_Ig_bitCount 1 (some .int) :: zTT)) := zgS w_mlink_P_188 w_stat_Ig_bitCount w_init_Ig w_code_Ig_bitCount
theorem gV_P_161 : GoodIn zTT (wsV R_P 161 R_P y_P_usesReviewedBelow (Cond.code y_P_usesReviewedBelow b_P_usesReviewedBelow 6 (some .boolean) :: zTT)) := zgV w_mlink_P_161 w_imeth_P_usesReviewedBelow w_sel_P_usesReviewedBelow w_init_P w_code_P_usesReviewedBelow
theorem gV_P_164 : GoodIn zTT (wsV R_P 164 R_P y_P_usesFetchedUntold (Cond.code y_P_usesFetchedUntold b_P_usesFetchedUntold 3 (some .boolean) :: zTT)) := zgV w_mlink_P_164 w_imeth_P_usesFetchedUntold w_sel_P_usesFetchedUntold w_init_P w_code_P_usesFetchedUntold
theorem gV_P_112 : GoodIn zTT (wsV R_P 112 R_A y_A_missingPlace (Cond.code y_A_missingPlace b_A_missingPlace 5 (some .int) :: zTT)) := zgV w_mlink_P_112 w_imeth_A_missingPlace w_sel_A_missingPlace w_init_A w_code_A_missingPlace
theorem gV_P_167 : GoodIn zTT (wsV R_P 167 R_A y_A_needsLaterBy (Cond.code y_A_needsLaterBy b_A_needsLaterBy 5 (some .boolean) :: zTT)) := zgV w_mlink_P_167 w_imeth_A_needsLaterBy w_sel_A_needsLaterBy w_init_A w_code_A_needsLaterBy
theorem gV_A_78 : GoodIn zTT (wsV R_A 78 R_W y_W_sameInOrder (Cond.code y_W_sameInOrder b_W_sameInOrder 4 (some .boolean) :: zTT)) := zgV w_mlink_A_78 w_imeth_W_sameInOrder w_sel_W_sameInOrder w_init_W w_code_W_sameInOrder
theorem gV_A_74 : GoodIn zTT (wsV R_A 74 R_A y_A_clashing (Cond.code y_A_clashing b_A_clashing 4 (some .boolean) :: zTT)) := zgV w_mlink_A_74 w_imeth_A_clashing w_sel_A_clashing w_init_A w_code_A_clashing
theorem gV_P_170 : GoodIn zTT (wsV R_P 170 R_A y_A_clashesWithAny (Cond.code y_A_clashesWithAny b_A_clashesWithAny 3 (some .boolean) :: zTT)) := zgV w_mlink_P_170 w_imeth_A_clashesWithAny w_sel_A_clashesWithAny w_init_A w_code_A_clashesWithAny
theorem gV_P_173 : GoodIn zTT (wsV R_P 173 R_A y_A_restsOnNothing (Cond.code y_A_restsOnNothing b_A_restsOnNothing 2 (some .boolean) :: zTT)) := zgV w_mlink_P_173 w_imeth_A_restsOnNothing w_sel_A_restsOnNothing w_init_A w_code_A_restsOnNothing
theorem gV_P_105 : GoodIn zTT (wsV R_P 105 R_P y_P_isBroken (Cond.code y_P_isBroken b_P_isBroken 4 (some .boolean) :: zTT)) := zgV w_mlink_P_105 w_imeth_P_isBroken w_sel_P_isBroken w_init_P w_code_P_isBroken
theorem gV_P_100 : GoodIn zTT (wsV R_P 100 R_P y_P_firstBrokenBy (Cond.code y_P_firstBrokenBy b_P_firstBrokenBy 3 (some .int) :: zTT)) := zgV w_mlink_P_100 w_imeth_P_firstBrokenBy w_sel_P_firstBrokenBy w_init_P w_code_P_firstBrokenBy
theorem gV_P_104 : GoodIn zTT (wsV R_P 104 R_Y y_Y_has (Cond.code y_Y_has b_Y_has 2 (some .boolean) :: zTT)) := zgV w_mlink_P_104 w_imeth_Y_has w_sel_Y_has w_init_Y w_code_Y_has
theorem gV_P_193 : GoodIn zTT (wsV R_P 193 R_P y_P_usesDigest (Cond.code y_P_usesDigest b_P_usesDigest 5 (some .boolean) :: zTT)) := zgV w_mlink_P_193 w_imeth_P_usesDigest w_sel_P_usesDigest w_init_P w_code_P_usesDigest
theorem gV_P_109 : GoodIn zTT (wsV R_P 109 R_P y_P_restsOn (Cond.code y_P_restsOn b_P_restsOn 5 (some .boolean) :: zTT)) := zgV w_mlink_P_109 w_imeth_P_restsOn w_sel_P_restsOn w_init_P w_code_P_restsOn
theorem gN_A_81 : GoodIn zTT (Cond.code y_P_hasBit b_P_hasBit 2 (some .boolean) :: zTT) := zgC w_code_P_hasBit
theorem gN_A_81_k (D : va_G) (ca : Nat → ClassId) : ∀ U, zKK D ca U → va_Nw (.methodLinkNest R_A 81 y_P_hasBit "ProvenanceRows") U := fun U h => h.2.2.2.2.2.2.2
theorem gS_P_119 : GoodIn zTT (va_wsS R_P 119 y_P_bitIf (Cond.code y_P_bitIf b_P_bitIf 2 (some .int) :: zTT)) := zgS w_mlink_P_119 w_stat_P_bitIf w_init_P w_code_P_bitIf
theorem gV_P_115 : GoodIn zTT (wsV R_P 115 R_A y_A_differAtPath (Cond.code y_A_differAtPath b_A_differAtPath 4 (some .boolean) :: zTT)) := zgV w_mlink_P_115 w_imeth_A_differAtPath w_sel_A_differAtPath w_init_A w_code_A_differAtPath
theorem gV_P_139 : GoodIn zTT (wsV R_P 139 R_W y_W_sameAsSets (Cond.code y_W_sameAsSets b_W_sameAsSets 4 (some .boolean) :: zTT)) := zgV w_mlink_P_139 w_imeth_W_sameAsSets w_sel_W_sameAsSets w_init_W w_code_W_sameAsSets
theorem gV_P_145 : GoodIn zTT (wsV R_P 145 R_A y_A_clashing (Cond.code y_A_clashing b_A_clashing 4 (some .boolean) :: zTT)) := zgV w_mlink_P_145 w_imeth_A_clashing w_sel_A_clashing w_init_A w_code_A_clashing
theorem gS_M_82 : GoodIn zTT (va_wsS R_M 82 y_M_within (Cond.code y_M_within b_M_within 3 (some .boolean) :: zTT)) := zgS w_mlink_M_82 w_stat_M_within w_init_M w_code_M_within
theorem gV_M_87 : GoodIn zTT (wsV R_M 87 R_M y_M_isSource (Cond.code y_M_isSource b_M_isSource 2 (some .boolean) :: zTT)) := zgV w_mlink_M_87 w_imeth_M_isSource w_sel_M_isSource w_init_M w_code_M_isSource
theorem gV_M_95 : GoodIn zTT (wsV R_M 95 R_M y_M_hasUse (Cond.code y_M_hasUse b_M_hasUse 5 (some .boolean) :: zTT)) := zgV w_mlink_M_95 w_imeth_M_hasUse w_sel_M_hasUse w_init_M w_code_M_hasUse
theorem gV_M_92 : GoodIn zTT (wsV R_M 92 R_M y_M_isArtefact (Cond.code y_M_isArtefact b_M_isArtefact 2 (some .boolean) :: zTT)) := zgV w_mlink_M_92 w_imeth_M_isArtefact w_sel_M_isArtefact w_init_M w_code_M_isArtefact
theorem gV_M_99 : GoodIn zTT (wsV R_M 99 R_M y_M_hasNeed (Cond.code y_M_hasNeed b_M_hasNeed 6 (some .boolean) :: zTT)) := zgV w_mlink_M_99 w_imeth_M_hasNeed w_sel_M_hasNeed w_init_M w_code_M_hasNeed
theorem gV_M_109 : GoodIn zTT (wsV R_M 109 R_M y_M_come (Cond.code y_M_come b_M_come 3 none :: zTT)) := zgV w_mlink_M_109 w_imeth_M_come w_sel_M_come w_init_M w_code_M_come
theorem gV_M_113 : GoodIn zTT (wsV R_M 113 R_M y_M_meets (Cond.code y_M_meets b_M_meets 4 (some .int) :: zTT)) := zgV w_mlink_M_113 w_imeth_M_meets w_sel_M_meets w_init_M w_code_M_meets
theorem gV_M_117 : GoodIn zTT (wsV R_M 117 R_M y_M_goAlong (Cond.code y_M_goAlong b_M_goAlong 7 none :: zTT)) := zgV w_mlink_M_117 w_imeth_M_goAlong w_sel_M_goAlong w_init_M w_code_M_goAlong
theorem gV_M_123 : GoodIn zTT (wsV R_M 123 R_M y_M_others (Cond.code y_M_others b_M_others 5 (some .int) :: zTT)) := zgV w_mlink_M_123 w_imeth_M_others w_sel_M_others w_init_M w_code_M_others
theorem gV_M_130 : GoodIn zTT (wsV R_M 130 R_M y_M_sourceBreaks (Cond.code y_M_sourceBreaks b_M_sourceBreaks 7 (some .boolean) :: zTT)) := zgV w_mlink_M_130 w_imeth_M_sourceBreaks w_sel_M_sourceBreaks w_init_M w_code_M_sourceBreaks
theorem gV_M_133 : GoodIn zTT (wsV R_M 133 R_M y_M_missing (Cond.code y_M_missing b_M_missing 5 (some .int) :: zTT)) := zgV w_mlink_M_133 w_imeth_M_missing w_sel_M_missing w_init_M w_code_M_missing
theorem gV_M_136 : GoodIn zTT (wsV R_M 136 R_M y_M_isLate (Cond.code y_M_isLate b_M_isLate 5 (some .boolean) :: zTT)) := zgV w_mlink_M_136 w_imeth_M_isLate w_sel_M_isLate w_init_M w_code_M_isLate
theorem gV_M_127 : GoodIn zTT (wsV R_M 127 R_M y_M_agree (Cond.code y_M_agree b_M_agree 5 (some .boolean) :: zTT)) := zgV w_mlink_M_127 w_imeth_M_agree w_sel_M_agree w_init_M w_code_M_agree
theorem gV_M_139 : GoodIn zTT (wsV R_M 139 R_M y_M_isClash (Cond.code y_M_isClash b_M_isClash 3 (some .boolean) :: zTT)) := zgV w_mlink_M_139 w_imeth_M_isClash w_sel_M_isClash w_init_M w_code_M_isClash
theorem gV_M_142 : GoodIn zTT (wsV R_M 142 R_M y_M_isBroken (Cond.code y_M_isBroken b_M_isBroken 6 (some .boolean) :: zTT)) := zgV w_mlink_M_142 w_imeth_M_isBroken w_sel_M_isBroken w_init_M w_code_M_isBroken
theorem gV_M_148 : GoodIn zTT (wsV R_M 148 R_M y_M_sameSources (Cond.code y_M_sameSources b_M_sameSources 5 (some .boolean) :: zTT)) := zgV w_mlink_M_148 w_imeth_M_sameSources w_sel_M_sameSources w_init_M w_code_M_sameSources
theorem gV_M_151 : GoodIn zTT (wsV R_M 151 R_M y_M_sameNeeds (Cond.code y_M_sameNeeds b_M_sameNeeds 5 (some .boolean) :: zTT)) := zgV w_mlink_M_151 w_imeth_M_sameNeeds w_sel_M_sameNeeds w_init_M w_code_M_sameNeeds
theorem gC_P_9 : GoodIn zTT (Cond.code y_S_init b_S_init 1 none :: zTT) := zgC w_code_S_init
theorem gC_P_9_k (D : va_G) : ∀ U, zK0 D U → va_Nw (.methodLinkNest R_P 9 y_S_init "ProvenanceRows") U := fun U h => h.2.1
theorem gC_A_30 : GoodIn zTT (Cond.code y_W_init b_W_init 1 none :: zTT) := zgC w_code_W_init
theorem gC_A_30_k (D : va_G) : ∀ U, zK0 D U → va_Nw (.methodLinkNest R_A 30 y_W_init "ProvenanceRows") U := fun U h => h.2.2.2.1
theorem gC_P_18 : GoodIn zTT (Cond.code y_A_init b_A_init 1 none :: zTT) := zgC w_code_A_init
theorem gC_P_18_k (D : va_G) : ∀ U, zK0 D U → va_Nw (.methodLinkNest R_P 18 y_A_init "ProvenanceRows") U := fun U h => h.2.2.1
theorem gC_P_25 : GoodIn zTT (Cond.code y_Y_init b_Y_init 1 none :: zTT) := zgC w_code_Y_init
theorem gC_P_25_k (D : va_G) : ∀ U, zK0 D U → va_Nw (.methodLinkNest R_P 25 y_Y_init "ProvenanceRows") U := fun U h => h.2.2.2.2.1
theorem gC_P_32 : GoodIn zTT (Cond.code y_Q_init b_Q_init 1 none :: zTT) := zgC w_code_Q_init
theorem gC_P_32_k (D : va_G) : ∀ U, zK0 D U → va_Nw (.methodLinkNest R_P 32 y_Q_init "ProvenanceRows") U := fun U h => h.2.2.2.2.2.1
