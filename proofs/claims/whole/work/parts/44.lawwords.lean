theorem w_constL_L_13_4294967295 : Cond.constantLong R_L 13 4294967295 ∈ zTT := zmem (List.mem_of_getElem? (i := 637) (by decide +kernel)) rfl
theorem w_mlink_L_19 : Cond.methodLink R_L 19 y_M_source ∈ zTT := zmem (List.mem_of_getElem? (i := 503) (by decide +kernel)) rfl
theorem w_imeth_M_source : Cond.instanceMethod y_M_source ∈ zTT := zmem (List.mem_of_getElem? (i := 504) (by decide +kernel)) rfl
theorem w_sel_M_source : Cond.selects R_M y_M_source y_M_source ∈ zTT := zmem (List.mem_of_getElem? (i := 505) (by decide +kernel)) rfl
set_option maxRecDepth 100000 in
theorem w_code_M_source : Cond.code y_M_source b_M_source 5 (some .int) ∈ zTT := zmem (List.mem_of_getElem? (i := 506) rfl) rfl
theorem w_mlink_L_15 : Cond.methodLink R_L 15 y_P_source ∈ zTT := zmem (List.mem_of_getElem? (i := 196) (by decide +kernel)) rfl
theorem w_imeth_P_source : Cond.instanceMethod y_P_source ∈ zTT := zmem (List.mem_of_getElem? (i := 197) (by decide +kernel)) rfl
theorem w_sel_P_source : Cond.selects R_P y_P_source y_P_source ∈ zTT := zmem (List.mem_of_getElem? (i := 198) (by decide +kernel)) rfl
set_option maxRecDepth 100000 in
theorem w_code_P_source : Cond.code y_P_source b_P_source 5 (some .int) ∈ zTT := zmem (List.mem_of_getElem? (i := 199) rfl) rfl
theorem w_mlink_L_24 : Cond.methodLink R_L 24 y_M_fetched ∈ zTT := zmem (List.mem_of_getElem? (i := 511) (by decide +kernel)) rfl
theorem w_imeth_M_fetched : Cond.instanceMethod y_M_fetched ∈ zTT := zmem (List.mem_of_getElem? (i := 512) (by decide +kernel)) rfl
theorem w_sel_M_fetched : Cond.selects R_M y_M_fetched y_M_fetched ∈ zTT := zmem (List.mem_of_getElem? (i := 513) (by decide +kernel)) rfl
set_option maxRecDepth 100000 in
theorem w_code_M_fetched : Cond.code y_M_fetched b_M_fetched 3 (some .boolean) ∈ zTT := zmem (List.mem_of_getElem? (i := 514) rfl) rfl
theorem w_mlink_L_20 : Cond.methodLink R_L 20 y_P_fetched ∈ zTT := zmem (List.mem_of_getElem? (i := 208) (by decide +kernel)) rfl
theorem w_imeth_P_fetched : Cond.instanceMethod y_P_fetched ∈ zTT := zmem (List.mem_of_getElem? (i := 209) (by decide +kernel)) rfl
theorem w_sel_P_fetched : Cond.selects R_P y_P_fetched y_P_fetched ∈ zTT := zmem (List.mem_of_getElem? (i := 210) (by decide +kernel)) rfl
set_option maxRecDepth 100000 in
theorem w_code_P_fetched : Cond.code y_P_fetched b_P_fetched 3 (some .boolean) ∈ zTT := zmem (List.mem_of_getElem? (i := 211) rfl) rfl
theorem w_mlink_L_29 : Cond.methodLink R_L 29 y_M_artefact ∈ zTT := zmem (List.mem_of_getElem? (i := 519) (by decide +kernel)) rfl
theorem w_imeth_M_artefact : Cond.instanceMethod y_M_artefact ∈ zTT := zmem (List.mem_of_getElem? (i := 520) (by decide +kernel)) rfl
theorem w_sel_M_artefact : Cond.selects R_M y_M_artefact y_M_artefact ∈ zTT := zmem (List.mem_of_getElem? (i := 521) (by decide +kernel)) rfl
set_option maxRecDepth 100000 in
theorem w_code_M_artefact : Cond.code y_M_artefact b_M_artefact 8 (some .int) ∈ zTT := zmem (List.mem_of_getElem? (i := 522) rfl) rfl
theorem w_mlink_L_25 : Cond.methodLink R_L 25 y_P_artefact ∈ zTT := zmem (List.mem_of_getElem? (i := 216) (by decide +kernel)) rfl
theorem w_imeth_P_artefact : Cond.instanceMethod y_P_artefact ∈ zTT := zmem (List.mem_of_getElem? (i := 217) (by decide +kernel)) rfl
theorem w_sel_P_artefact : Cond.selects R_P y_P_artefact y_P_artefact ∈ zTT := zmem (List.mem_of_getElem? (i := 218) (by decide +kernel)) rfl
set_option maxRecDepth 100000 in
theorem w_code_P_artefact : Cond.code y_P_artefact b_P_artefact 8 (some .int) ∈ zTT := zmem (List.mem_of_getElem? (i := 219) rfl) rfl
theorem w_mlink_L_34 : Cond.methodLink R_L 34 y_M_uses ∈ zTT := zmem (List.mem_of_getElem? (i := 524) (by decide +kernel)) rfl
theorem w_imeth_M_uses : Cond.instanceMethod y_M_uses ∈ zTT := zmem (List.mem_of_getElem? (i := 525) (by decide +kernel)) rfl
theorem w_sel_M_uses : Cond.selects R_M y_M_uses y_M_uses ∈ zTT := zmem (List.mem_of_getElem? (i := 526) (by decide +kernel)) rfl
set_option maxRecDepth 100000 in
theorem w_code_M_uses : Cond.code y_M_uses b_M_uses 3 (some .boolean) ∈ zTT := zmem (List.mem_of_getElem? (i := 527) rfl) rfl
theorem w_mlink_L_30 : Cond.methodLink R_L 30 y_P_uses ∈ zTT := zmem (List.mem_of_getElem? (i := 237) (by decide +kernel)) rfl
theorem w_imeth_P_uses : Cond.instanceMethod y_P_uses ∈ zTT := zmem (List.mem_of_getElem? (i := 238) (by decide +kernel)) rfl
theorem w_sel_P_uses : Cond.selects R_P y_P_uses y_P_uses ∈ zTT := zmem (List.mem_of_getElem? (i := 239) (by decide +kernel)) rfl
set_option maxRecDepth 100000 in
theorem w_code_P_uses : Cond.code y_P_uses b_P_uses 3 (some .boolean) ∈ zTT := zmem (List.mem_of_getElem? (i := 240) rfl) rfl
theorem w_mlink_L_39 : Cond.methodLink R_L 39 y_M_needs ∈ zTT := zmem (List.mem_of_getElem? (i := 536) (by decide +kernel)) rfl
theorem w_imeth_M_needs : Cond.instanceMethod y_M_needs ∈ zTT := zmem (List.mem_of_getElem? (i := 537) (by decide +kernel)) rfl
theorem w_sel_M_needs : Cond.selects R_M y_M_needs y_M_needs ∈ zTT := zmem (List.mem_of_getElem? (i := 538) (by decide +kernel)) rfl
set_option maxRecDepth 100000 in
theorem w_code_M_needs : Cond.code y_M_needs b_M_needs 4 (some .boolean) ∈ zTT := zmem (List.mem_of_getElem? (i := 539) rfl) rfl
theorem w_mlink_L_35 : Cond.methodLink R_L 35 y_P_needs ∈ zTT := zmem (List.mem_of_getElem? (i := 254) (by decide +kernel)) rfl
theorem w_imeth_P_needs : Cond.instanceMethod y_P_needs ∈ zTT := zmem (List.mem_of_getElem? (i := 255) (by decide +kernel)) rfl
theorem w_sel_P_needs : Cond.selects R_P y_P_needs y_P_needs ∈ zTT := zmem (List.mem_of_getElem? (i := 256) (by decide +kernel)) rfl
set_option maxRecDepth 100000 in
theorem w_code_P_needs : Cond.code y_P_needs b_P_needs 4 (some .boolean) ∈ zTT := zmem (List.mem_of_getElem? (i := 257) rfl) rfl
theorem w_mlink_L_44 : Cond.methodLink R_L 44 y_M_path ∈ zTT := zmem (List.mem_of_getElem? (i := 544) (by decide +kernel)) rfl
theorem w_imeth_M_path : Cond.instanceMethod y_M_path ∈ zTT := zmem (List.mem_of_getElem? (i := 545) (by decide +kernel)) rfl
theorem w_sel_M_path : Cond.selects R_M y_M_path y_M_path ∈ zTT := zmem (List.mem_of_getElem? (i := 546) (by decide +kernel)) rfl
set_option maxRecDepth 100000 in
theorem w_code_M_path : Cond.code y_M_path b_M_path 5 (some .boolean) ∈ zTT := zmem (List.mem_of_getElem? (i := 547) rfl) rfl
theorem w_mlink_L_40 : Cond.methodLink R_L 40 y_P_path ∈ zTT := zmem (List.mem_of_getElem? (i := 267) (by decide +kernel)) rfl
theorem w_imeth_P_path : Cond.instanceMethod y_P_path ∈ zTT := zmem (List.mem_of_getElem? (i := 268) (by decide +kernel)) rfl
theorem w_sel_P_path : Cond.selects R_P y_P_path y_P_path ∈ zTT := zmem (List.mem_of_getElem? (i := 269) (by decide +kernel)) rfl
set_option maxRecDepth 100000 in
theorem w_code_P_path : Cond.code y_P_path b_P_path 5 (some .boolean) ∈ zTT := zmem (List.mem_of_getElem? (i := 270) rfl) rfl
theorem w_mlink_L_49 : Cond.methodLink R_L 49 y_M_policy ∈ zTT := zmem (List.mem_of_getElem? (i := 548) (by decide +kernel)) rfl
theorem w_imeth_M_policy : Cond.instanceMethod y_M_policy ∈ zTT := zmem (List.mem_of_getElem? (i := 549) (by decide +kernel)) rfl
theorem w_sel_M_policy : Cond.selects R_M y_M_policy y_M_policy ∈ zTT := zmem (List.mem_of_getElem? (i := 550) (by decide +kernel)) rfl
set_option maxRecDepth 100000 in
theorem w_code_M_policy : Cond.code y_M_policy b_M_policy 3 (some .int) ∈ zTT := zmem (List.mem_of_getElem? (i := 551) rfl) rfl
theorem w_mlink_L_45 : Cond.methodLink R_L 45 y_P_policy ∈ zTT := zmem (List.mem_of_getElem? (i := 275) (by decide +kernel)) rfl
theorem w_imeth_P_policy : Cond.instanceMethod y_P_policy ∈ zTT := zmem (List.mem_of_getElem? (i := 276) (by decide +kernel)) rfl
theorem w_sel_P_policy : Cond.selects R_P y_P_policy y_P_policy ∈ zTT := zmem (List.mem_of_getElem? (i := 277) (by decide +kernel)) rfl
set_option maxRecDepth 100000 in
theorem w_code_P_policy : Cond.code y_P_policy b_P_policy 3 (some .int) ∈ zTT := zmem (List.mem_of_getElem? (i := 278) rfl) rfl
theorem w_mlink_L_54 : Cond.methodLink R_L 54 y_M_verdict ∈ zTT := zmem (List.mem_of_getElem? (i := 609) (by decide +kernel)) rfl
theorem w_imeth_M_verdict : Cond.instanceMethod y_M_verdict ∈ zTT := zmem (List.mem_of_getElem? (i := 610) (by decide +kernel)) rfl
theorem w_sel_M_verdict : Cond.selects R_M y_M_verdict y_M_verdict ∈ zTT := zmem (List.mem_of_getElem? (i := 611) (by decide +kernel)) rfl
set_option maxRecDepth 100000 in
theorem w_code_M_verdict : Cond.code y_M_verdict b_M_verdict 4 (some .int) ∈ zTT := zmem (List.mem_of_getElem? (i := 612) rfl) rfl
theorem w_mlink_L_50 : Cond.methodLink R_L 50 y_P_verdict ∈ zTT := zmem (List.mem_of_getElem? (i := 283) (by decide +kernel)) rfl
theorem w_imeth_P_verdict : Cond.instanceMethod y_P_verdict ∈ zTT := zmem (List.mem_of_getElem? (i := 284) (by decide +kernel)) rfl
theorem w_sel_P_verdict : Cond.selects R_P y_P_verdict y_P_verdict ∈ zTT := zmem (List.mem_of_getElem? (i := 285) (by decide +kernel)) rfl
set_option maxRecDepth 100000 in
theorem w_code_P_verdict : Cond.code y_P_verdict b_P_verdict 5 (some .int) ∈ zTT := zmem (List.mem_of_getElem? (i := 286) rfl) rfl
theorem w_mlink_L_59 : Cond.methodLink R_L 59 y_M_culprit ∈ zTT := zmem (List.mem_of_getElem? (i := 613) (by decide +kernel)) rfl
theorem w_imeth_M_culprit : Cond.instanceMethod y_M_culprit ∈ zTT := zmem (List.mem_of_getElem? (i := 614) (by decide +kernel)) rfl
theorem w_sel_M_culprit : Cond.selects R_M y_M_culprit y_M_culprit ∈ zTT := zmem (List.mem_of_getElem? (i := 615) (by decide +kernel)) rfl
set_option maxRecDepth 100000 in
theorem w_code_M_culprit : Cond.code y_M_culprit b_M_culprit 1 (some .int) ∈ zTT := zmem (List.mem_of_getElem? (i := 616) rfl) rfl
theorem w_mlink_L_55 : Cond.methodLink R_L 55 y_P_culprit ∈ zTT := zmem (List.mem_of_getElem? (i := 354) (by decide +kernel)) rfl
theorem w_imeth_P_culprit : Cond.instanceMethod y_P_culprit ∈ zTT := zmem (List.mem_of_getElem? (i := 355) (by decide +kernel)) rfl
theorem w_sel_P_culprit : Cond.selects R_P y_P_culprit y_P_culprit ∈ zTT := zmem (List.mem_of_getElem? (i := 356) (by decide +kernel)) rfl
set_option maxRecDepth 100000 in
theorem w_code_P_culprit : Cond.code y_P_culprit b_P_culprit 1 (some .int) ∈ zTT := zmem (List.mem_of_getElem? (i := 357) rfl) rfl
theorem w_mlink_L_63 : Cond.methodLink R_L 63 y_M_breaks ∈ zTT := zmem (List.mem_of_getElem? (i := 580) (by decide +kernel)) rfl
theorem w_imeth_M_breaks : Cond.instanceMethod y_M_breaks ∈ zTT := zmem (List.mem_of_getElem? (i := 581) (by decide +kernel)) rfl
theorem w_sel_M_breaks : Cond.selects R_M y_M_breaks y_M_breaks ∈ zTT := zmem (List.mem_of_getElem? (i := 582) (by decide +kernel)) rfl
set_option maxRecDepth 100000 in
theorem w_code_M_breaks : Cond.code y_M_breaks b_M_breaks 3 (some .boolean) ∈ zTT := zmem (List.mem_of_getElem? (i := 583) rfl) rfl
theorem w_mlink_L_60 : Cond.methodLink R_L 60 y_P_breaks ∈ zTT := zmem (List.mem_of_getElem? (i := 358) (by decide +kernel)) rfl
theorem w_imeth_P_breaks : Cond.instanceMethod y_P_breaks ∈ zTT := zmem (List.mem_of_getElem? (i := 359) (by decide +kernel)) rfl
theorem w_sel_P_breaks : Cond.selects R_P y_P_breaks y_P_breaks ∈ zTT := zmem (List.mem_of_getElem? (i := 360) (by decide +kernel)) rfl
set_option maxRecDepth 100000 in
theorem w_code_P_breaks : Cond.code y_P_breaks b_P_breaks 3 (some .boolean) ∈ zTT := zmem (List.mem_of_getElem? (i := 361) rfl) rfl
theorem w_mlink_L_67 : Cond.methodLink R_L 67 y_M_closure ∈ zTT := zmem (List.mem_of_getElem? (i := 552) (by decide +kernel)) rfl
theorem w_imeth_M_closure : Cond.instanceMethod y_M_closure ∈ zTT := zmem (List.mem_of_getElem? (i := 553) (by decide +kernel)) rfl
theorem w_sel_M_closure : Cond.selects R_M y_M_closure y_M_closure ∈ zTT := zmem (List.mem_of_getElem? (i := 554) (by decide +kernel)) rfl
set_option maxRecDepth 100000 in
theorem w_code_M_closure : Cond.code y_M_closure b_M_closure 3 (some .int) ∈ zTT := zmem (List.mem_of_getElem? (i := 555) rfl) rfl
theorem w_mlink_L_64 : Cond.methodLink R_L 64 y_P_closure ∈ zTT := zmem (List.mem_of_getElem? (i := 366) (by decide +kernel)) rfl
theorem w_imeth_P_closure : Cond.instanceMethod y_P_closure ∈ zTT := zmem (List.mem_of_getElem? (i := 367) (by decide +kernel)) rfl
theorem w_sel_P_closure : Cond.selects R_P y_P_closure y_P_closure ∈ zTT := zmem (List.mem_of_getElem? (i := 368) (by decide +kernel)) rfl
set_option maxRecDepth 100000 in
theorem w_code_P_closure : Cond.code y_P_closure b_P_closure 2 (some .int) ∈ zTT := zmem (List.mem_of_getElem? (i := 369) rfl) rfl
theorem w_mlink_L_71 : Cond.methodLink R_L 71 y_M_at ∈ zTT := zmem (List.mem_of_getElem? (i := 568) (by decide +kernel)) rfl
theorem w_imeth_M_at : Cond.instanceMethod y_M_at ∈ zTT := zmem (List.mem_of_getElem? (i := 569) (by decide +kernel)) rfl
theorem w_sel_M_at : Cond.selects R_M y_M_at y_M_at ∈ zTT := zmem (List.mem_of_getElem? (i := 570) (by decide +kernel)) rfl
set_option maxRecDepth 100000 in
theorem w_code_M_at : Cond.code y_M_at b_M_at 2 (some .int) ∈ zTT := zmem (List.mem_of_getElem? (i := 571) rfl) rfl
theorem w_mlink_L_68 : Cond.methodLink R_L 68 y_P_at ∈ zTT := zmem (List.mem_of_getElem? (i := 370) (by decide +kernel)) rfl
theorem w_imeth_P_at : Cond.instanceMethod y_P_at ∈ zTT := zmem (List.mem_of_getElem? (i := 371) (by decide +kernel)) rfl
theorem w_sel_P_at : Cond.selects R_P y_P_at y_P_at ∈ zTT := zmem (List.mem_of_getElem? (i := 372) (by decide +kernel)) rfl
set_option maxRecDepth 100000 in
theorem w_code_P_at : Cond.code y_P_at b_P_at 2 (some .int) ∈ zTT := zmem (List.mem_of_getElem? (i := 373) rfl) rfl
theorem w_mlink_L_76 : Cond.methodLink R_L 76 y_M_holds ∈ zTT := zmem (List.mem_of_getElem? (i := 572) (by decide +kernel)) rfl
theorem w_imeth_M_holds : Cond.instanceMethod y_M_holds ∈ zTT := zmem (List.mem_of_getElem? (i := 573) (by decide +kernel)) rfl
theorem w_sel_M_holds : Cond.selects R_M y_M_holds y_M_holds ∈ zTT := zmem (List.mem_of_getElem? (i := 574) (by decide +kernel)) rfl
set_option maxRecDepth 100000 in
theorem w_code_M_holds : Cond.code y_M_holds b_M_holds 9 (some .int) ∈ zTT := zmem (List.mem_of_getElem? (i := 575) rfl) rfl
theorem w_mlink_L_72 : Cond.methodLink R_L 72 y_P_holds ∈ zTT := zmem (List.mem_of_getElem? (i := 374) (by decide +kernel)) rfl
theorem w_imeth_P_holds : Cond.instanceMethod y_P_holds ∈ zTT := zmem (List.mem_of_getElem? (i := 375) (by decide +kernel)) rfl
theorem w_sel_P_holds : Cond.selects R_P y_P_holds y_P_holds ∈ zTT := zmem (List.mem_of_getElem? (i := 376) (by decide +kernel)) rfl
set_option maxRecDepth 100000 in
theorem w_code_P_holds : Cond.code y_P_holds b_P_holds 6 (some .int) ∈ zTT := zmem (List.mem_of_getElem? (i := 377) rfl) rfl
theorem w_mlink_L_80 : Cond.methodLink R_L 80 y_M_missing ∈ zTT := zmem (List.mem_of_getElem? (i := 576) (by decide +kernel)) rfl
theorem w_mlink_L_77 : Cond.methodLink R_L 77 y_P_missing ∈ zTT := zmem (List.mem_of_getElem? (i := 386) (by decide +kernel)) rfl
theorem w_imeth_P_missing : Cond.instanceMethod y_P_missing ∈ zTT := zmem (List.mem_of_getElem? (i := 387) (by decide +kernel)) rfl
theorem w_sel_P_missing : Cond.selects R_P y_P_missing y_P_missing ∈ zTT := zmem (List.mem_of_getElem? (i := 388) (by decide +kernel)) rfl
set_option maxRecDepth 100000 in
theorem w_code_P_missing : Cond.code y_P_missing b_P_missing 3 (some .int) ∈ zTT := zmem (List.mem_of_getElem? (i := 389) rfl) rfl
theorem w_mlink_L_84 : Cond.methodLink R_L 84 y_M_rebuilt ∈ zTT := zmem (List.mem_of_getElem? (i := 617) (by decide +kernel)) rfl
theorem w_imeth_M_rebuilt : Cond.instanceMethod y_M_rebuilt ∈ zTT := zmem (List.mem_of_getElem? (i := 618) (by decide +kernel)) rfl
theorem w_sel_M_rebuilt : Cond.selects R_M y_M_rebuilt y_M_rebuilt ∈ zTT := zmem (List.mem_of_getElem? (i := 619) (by decide +kernel)) rfl
set_option maxRecDepth 100000 in
theorem w_code_M_rebuilt : Cond.code y_M_rebuilt b_M_rebuilt 7 (some .int) ∈ zTT := zmem (List.mem_of_getElem? (i := 620) rfl) rfl
theorem w_mlink_L_81 : Cond.methodLink R_L 81 y_P_rebuilt ∈ zTT := zmem (List.mem_of_getElem? (i := 390) (by decide +kernel)) rfl
theorem w_imeth_P_rebuilt : Cond.instanceMethod y_P_rebuilt ∈ zTT := zmem (List.mem_of_getElem? (i := 391) (by decide +kernel)) rfl
theorem w_sel_P_rebuilt : Cond.selects R_P y_P_rebuilt y_P_rebuilt ∈ zTT := zmem (List.mem_of_getElem? (i := 392) (by decide +kernel)) rfl
set_option maxRecDepth 100000 in
theorem w_code_P_rebuilt : Cond.code y_P_rebuilt b_P_rebuilt 5 (some .int) ∈ zTT := zmem (List.mem_of_getElem? (i := 393) rfl) rfl
theorem w_mlink_L_88 : Cond.methodLink R_L 88 y_M_differ ∈ zTT := zmem (List.mem_of_getElem? (i := 621) (by decide +kernel)) rfl
theorem w_imeth_M_differ : Cond.instanceMethod y_M_differ ∈ zTT := zmem (List.mem_of_getElem? (i := 622) (by decide +kernel)) rfl
theorem w_sel_M_differ : Cond.selects R_M y_M_differ y_M_differ ∈ zTT := zmem (List.mem_of_getElem? (i := 623) (by decide +kernel)) rfl
set_option maxRecDepth 100000 in
theorem w_code_M_differ : Cond.code y_M_differ b_M_differ 4 (some .int) ∈ zTT := zmem (List.mem_of_getElem? (i := 624) rfl) rfl
theorem w_mlink_L_85 : Cond.methodLink R_L 85 y_P_differ ∈ zTT := zmem (List.mem_of_getElem? (i := 402) (by decide +kernel)) rfl
theorem w_imeth_P_differ : Cond.instanceMethod y_P_differ ∈ zTT := zmem (List.mem_of_getElem? (i := 403) (by decide +kernel)) rfl
theorem w_sel_P_differ : Cond.selects R_P y_P_differ y_P_differ ∈ zTT := zmem (List.mem_of_getElem? (i := 404) (by decide +kernel)) rfl
set_option maxRecDepth 100000 in
theorem w_code_P_differ : Cond.code y_P_differ b_P_differ 3 (some .int) ∈ zTT := zmem (List.mem_of_getElem? (i := 405) rfl) rfl
theorem w_mlink_L_92 : Cond.methodLink R_L 92 y_M_clash ∈ zTT := zmem (List.mem_of_getElem? (i := 633) (by decide +kernel)) rfl
theorem w_imeth_M_clash : Cond.instanceMethod y_M_clash ∈ zTT := zmem (List.mem_of_getElem? (i := 634) (by decide +kernel)) rfl
theorem w_sel_M_clash : Cond.selects R_M y_M_clash y_M_clash ∈ zTT := zmem (List.mem_of_getElem? (i := 635) (by decide +kernel)) rfl
set_option maxRecDepth 100000 in
theorem w_code_M_clash : Cond.code y_M_clash b_M_clash 6 (some .int) ∈ zTT := zmem (List.mem_of_getElem? (i := 636) rfl) rfl
theorem w_mlink_L_89 : Cond.methodLink R_L 89 y_P_clash ∈ zTT := zmem (List.mem_of_getElem? (i := 410) (by decide +kernel)) rfl
theorem w_imeth_P_clash : Cond.instanceMethod y_P_clash ∈ zTT := zmem (List.mem_of_getElem? (i := 411) (by decide +kernel)) rfl
theorem w_sel_P_clash : Cond.selects R_P y_P_clash y_P_clash ∈ zTT := zmem (List.mem_of_getElem? (i := 412) (by decide +kernel)) rfl
set_option maxRecDepth 100000 in
theorem w_code_P_clash : Cond.code y_P_clash b_P_clash 6 (some .int) ∈ zTT := zmem (List.mem_of_getElem? (i := 413) rfl) rfl
theorem w_clink_L_7_P : Cond.classLink R_L 7 R_P ∈ zTT := zmem (List.mem_of_getElem? (i := 35) (by decide +kernel)) rfl
theorem w_inst_P_7 : Cond.instantiable R_P 7 ∈ zTT := zmem (List.mem_of_getElem? (i := 36) (by decide +kernel)) rfl
set_option maxRecDepth 100000 in
theorem w_code_P_init : Cond.code y_P_init b_P_init 1 none ∈ zTT := zmem (List.mem_of_getElem? (i := 39) rfl) rfl
theorem w_mlink_L_9 : Cond.methodLink R_L 9 y_P_init ∈ zTT := zmem (List.mem_of_getElem? (i := 37) (by decide +kernel)) rfl
theorem w_imeth_P_init : Cond.instanceMethod y_P_init ∈ zTT := zmem (List.mem_of_getElem? (i := 38) (by decide +kernel)) rfl
theorem w_clink_L_10_M : Cond.classLink R_L 10 R_M ∈ zTT := zmem (List.mem_of_getElem? (i := 415) (by decide +kernel)) rfl
theorem w_inst_M_27 : Cond.instantiable R_M 27 ∈ zTT := zmem (List.mem_of_getElem? (i := 416) (by decide +kernel)) rfl
set_option maxRecDepth 100000 in
theorem w_code_M_init : Cond.code y_M_init b_M_init 1 none ∈ zTT := zmem (List.mem_of_getElem? (i := 419) rfl) rfl
theorem w_mlink_L_12 : Cond.methodLink R_L 12 y_M_init ∈ zTT := zmem (List.mem_of_getElem? (i := 417) (by decide +kernel)) rfl
theorem w_imeth_M_init : Cond.instanceMethod y_M_init ∈ zTT := zmem (List.mem_of_getElem? (i := 418) (by decide +kernel)) rfl
theorem gV_L_19 : GoodIn zTT (wsV R_L 19 R_M y_M_source (Cond.code y_M_source b_M_source 5 (some .int) :: zTT)) := zgV w_mlink_L_19 w_imeth_M_source w_sel_M_source w_init_M w_code_M_source
theorem gV_L_15 : GoodIn zTT (wsV R_L 15 R_P y_P_source (Cond.code y_P_source b_P_source 5 (some .int) :: zTT)) := zgV w_mlink_L_15 w_imeth_P_source w_sel_P_source w_init_P w_code_P_source
theorem gV_L_24 : GoodIn zTT (wsV R_L 24 R_M y_M_fetched (Cond.code y_M_fetched b_M_fetched 3 (some .boolean) :: zTT)) := zgV w_mlink_L_24 w_imeth_M_fetched w_sel_M_fetched w_init_M w_code_M_fetched
theorem gV_L_20 : GoodIn zTT (wsV R_L 20 R_P y_P_fetched (Cond.code y_P_fetched b_P_fetched 3 (some .boolean) :: zTT)) := zgV w_mlink_L_20 w_imeth_P_fetched w_sel_P_fetched w_init_P w_code_P_fetched
theorem gV_L_29 : GoodIn zTT (wsV R_L 29 R_M y_M_artefact (Cond.code y_M_artefact b_M_artefact 8 (some .int) :: zTT)) := zgV w_mlink_L_29 w_imeth_M_artefact w_sel_M_artefact w_init_M w_code_M_artefact
theorem gV_L_25 : GoodIn zTT (wsV R_L 25 R_P y_P_artefact (Cond.code y_P_artefact b_P_artefact 8 (some .int) :: zTT)) := zgV w_mlink_L_25 w_imeth_P_artefact w_sel_P_artefact w_init_P w_code_P_artefact
theorem gV_L_34 : GoodIn zTT (wsV R_L 34 R_M y_M_uses (Cond.code y_M_uses b_M_uses 3 (some .boolean) :: zTT)) := zgV w_mlink_L_34 w_imeth_M_uses w_sel_M_uses w_init_M w_code_M_uses
theorem gV_L_30 : GoodIn zTT (wsV R_L 30 R_P y_P_uses (Cond.code y_P_uses b_P_uses 3 (some .boolean) :: zTT)) := zgV w_mlink_L_30 w_imeth_P_uses w_sel_P_uses w_init_P w_code_P_uses
theorem gV_L_39 : GoodIn zTT (wsV R_L 39 R_M y_M_needs (Cond.code y_M_needs b_M_needs 4 (some .boolean) :: zTT)) := zgV w_mlink_L_39 w_imeth_M_needs w_sel_M_needs w_init_M w_code_M_needs
theorem gV_L_35 : GoodIn zTT (wsV R_L 35 R_P y_P_needs (Cond.code y_P_needs b_P_needs 4 (some .boolean) :: zTT)) := zgV w_mlink_L_35 w_imeth_P_needs w_sel_P_needs w_init_P w_code_P_needs
theorem gV_L_44 : GoodIn zTT (wsV R_L 44 R_M y_M_path (Cond.code y_M_path b_M_path 5 (some .boolean) :: zTT)) := zgV w_mlink_L_44 w_imeth_M_path w_sel_M_path w_init_M w_code_M_path
theorem gV_L_40 : GoodIn zTT (wsV R_L 40 R_P y_P_path (Cond.code y_P_path b_P_path 5 (some .boolean) :: zTT)) := zgV w_mlink_L_40 w_imeth_P_path w_sel_P_path w_init_P w_code_P_path
theorem gV_L_49 : GoodIn zTT (wsV R_L 49 R_M y_M_policy (Cond.code y_M_policy b_M_policy 3 (some .int) :: zTT)) := zgV w_mlink_L_49 w_imeth_M_policy w_sel_M_policy w_init_M w_code_M_policy
theorem gV_L_45 : GoodIn zTT (wsV R_L 45 R_P y_P_policy (Cond.code y_P_policy b_P_policy 3 (some .int) :: zTT)) := zgV w_mlink_L_45 w_imeth_P_policy w_sel_P_policy w_init_P w_code_P_policy
theorem gV_L_54 : GoodIn zTT (wsV R_L 54 R_M y_M_verdict (Cond.code y_M_verdict b_M_verdict 4 (some .int) :: zTT)) := zgV w_mlink_L_54 w_imeth_M_verdict w_sel_M_verdict w_init_M w_code_M_verdict
theorem gV_L_50 : GoodIn zTT (wsV R_L 50 R_P y_P_verdict (Cond.code y_P_verdict b_P_verdict 5 (some .int) :: zTT)) := zgV w_mlink_L_50 w_imeth_P_verdict w_sel_P_verdict w_init_P w_code_P_verdict
theorem gV_L_59 : GoodIn zTT (wsV R_L 59 R_M y_M_culprit (Cond.code y_M_culprit b_M_culprit 1 (some .int) :: zTT)) := zgV w_mlink_L_59 w_imeth_M_culprit w_sel_M_culprit w_init_M w_code_M_culprit
theorem gV_L_55 : GoodIn zTT (wsV R_L 55 R_P y_P_culprit (Cond.code y_P_culprit b_P_culprit 1 (some .int) :: zTT)) := zgV w_mlink_L_55 w_imeth_P_culprit w_sel_P_culprit w_init_P w_code_P_culprit
theorem gV_L_63 : GoodIn zTT (wsV R_L 63 R_M y_M_breaks (Cond.code y_M_breaks b_M_breaks 3 (some .boolean) :: zTT)) := zgV w_mlink_L_63 w_imeth_M_breaks w_sel_M_breaks w_init_M w_code_M_breaks
theorem gV_L_60 : GoodIn zTT (wsV R_L 60 R_P y_P_breaks (Cond.code y_P_breaks b_P_breaks 3 (some .boolean) :: zTT)) := zgV w_mlink_L_60 w_imeth_P_breaks w_sel_P_breaks w_init_P w_code_P_breaks
theorem gV_L_67 : GoodIn zTT (wsV R_L 67 R_M y_M_closure (Cond.code y_M_closure b_M_closure 3 (some .int) :: zTT)) := zgV w_mlink_L_67 w_imeth_M_closure w_sel_M_closure w_init_M w_code_M_closure
theorem gV_L_64 : GoodIn zTT (wsV R_L 64 R_P y_P_closure (Cond.code y_P_closure b_P_closure 2 (some .int) :: zTT)) := zgV w_mlink_L_64 w_imeth_P_closure w_sel_P_closure w_init_P w_code_P_closure
theorem gV_L_71 : GoodIn zTT (wsV R_L 71 R_M y_M_at (Cond.code y_M_at b_M_at 2 (some .int) :: zTT)) := zgV w_mlink_L_71 w_imeth_M_at w_sel_M_at w_init_M w_code_M_at
theorem gV_L_68 : GoodIn zTT (wsV R_L 68 R_P y_P_at (Cond.code y_P_at b_P_at 2 (some .int) :: zTT)) := zgV w_mlink_L_68 w_imeth_P_at w_sel_P_at w_init_P w_code_P_at
theorem gV_L_76 : GoodIn zTT (wsV R_L 76 R_M y_M_holds (Cond.code y_M_holds b_M_holds 9 (some .int) :: zTT)) := zgV w_mlink_L_76 w_imeth_M_holds w_sel_M_holds w_init_M w_code_M_holds
theorem gV_L_72 : GoodIn zTT (wsV R_L 72 R_P y_P_holds (Cond.code y_P_holds b_P_holds 6 (some .int) :: zTT)) := zgV w_mlink_L_72 w_imeth_P_holds w_sel_P_holds w_init_P w_code_P_holds
theorem gV_L_80 : GoodIn zTT (wsV R_L 80 R_M y_M_missing (Cond.code y_M_missing b_M_missing 5 (some .int) :: zTT)) := zgV w_mlink_L_80 w_imeth_M_missing w_sel_M_missing w_init_M w_code_M_missing
theorem gV_L_77 : GoodIn zTT (wsV R_L 77 R_P y_P_missing (Cond.code y_P_missing b_P_missing 3 (some .int) :: zTT)) := zgV w_mlink_L_77 w_imeth_P_missing w_sel_P_missing w_init_P w_code_P_missing
theorem gV_L_84 : GoodIn zTT (wsV R_L 84 R_M y_M_rebuilt (Cond.code y_M_rebuilt b_M_rebuilt 7 (some .int) :: zTT)) := zgV w_mlink_L_84 w_imeth_M_rebuilt w_sel_M_rebuilt w_init_M w_code_M_rebuilt
theorem gV_L_81 : GoodIn zTT (wsV R_L 81 R_P y_P_rebuilt (Cond.code y_P_rebuilt b_P_rebuilt 5 (some .int) :: zTT)) := zgV w_mlink_L_81 w_imeth_P_rebuilt w_sel_P_rebuilt w_init_P w_code_P_rebuilt
theorem gV_L_88 : GoodIn zTT (wsV R_L 88 R_M y_M_differ (Cond.code y_M_differ b_M_differ 4 (some .int) :: zTT)) := zgV w_mlink_L_88 w_imeth_M_differ w_sel_M_differ w_init_M w_code_M_differ
theorem gV_L_85 : GoodIn zTT (wsV R_L 85 R_P y_P_differ (Cond.code y_P_differ b_P_differ 3 (some .int) :: zTT)) := zgV w_mlink_L_85 w_imeth_P_differ w_sel_P_differ w_init_P w_code_P_differ
theorem gV_L_92 : GoodIn zTT (wsV R_L 92 R_M y_M_clash (Cond.code y_M_clash b_M_clash 6 (some .int) :: zTT)) := zgV w_mlink_L_92 w_imeth_M_clash w_sel_M_clash w_init_M w_code_M_clash
theorem gV_L_89 : GoodIn zTT (wsV R_L 89 R_P y_P_clash (Cond.code y_P_clash b_P_clash 6 (some .int) :: zTT)) := zgV w_mlink_L_89 w_imeth_P_clash w_sel_P_clash w_init_P w_code_P_clash
theorem gI_L_9 : GoodIn zTT (Cond.code y_P_init b_P_init 1 none :: zTT) := zgC w_code_P_init
theorem gI_L_12 : GoodIn zTT (Cond.code y_M_init b_M_init 1 none :: zTT) := zgC w_code_M_init
theorem d_L_law_0 : decode code 0 = .ok (.new 7, 3) := by decide +kernel
theorem d_L_law_3 : decode code 3 = .ok (.dup, 1) := by decide +kernel
theorem d_L_law_4 : decode code 4 = .ok (.invokespecial 9, 3) := by decide +kernel
theorem d_L_law_7 : decode code 7 = .ok (.astore_n 1, 1) := by decide +kernel
theorem d_L_law_8 : decode code 8 = .ok (.new 10, 3) := by decide +kernel
theorem d_L_law_11 : decode code 11 = .ok (.dup, 1) := by decide +kernel
theorem d_L_law_12 : decode code 12 = .ok (.invokespecial 12, 3) := by decide +kernel
theorem d_L_law_15 : decode code 15 = .ok (.astore_n 2, 1) := by decide +kernel
theorem d_L_law_16 : decode code 16 = .ok (.iconst 0, 1) := by decide +kernel
theorem d_L_law_17 : decode code 17 = .ok (.istore_n 3, 1) := by decide +kernel
theorem d_L_law_18 : decode code 18 = .ok (.iload_n 3, 1) := by decide +kernel
theorem d_L_law_19 : decode code 19 = .ok (.aload_n 0, 1) := by decide +kernel
theorem d_L_law_20 : decode code 20 = .ok (.arraylength, 1) := by decide +kernel
theorem d_L_law_21 : decode code 21 = .ok (.bipush 7, 2) := by decide +kernel
theorem d_L_law_23 : decode code 23 = .ok (.isub, 1) := by decide +kernel
theorem d_L_law_24 : decode code 24 = .ok (.if_icmp .gt 827, 3) := by decide +kernel
theorem d_L_law_27 : decode code 27 = .ok (.aload_n 0, 1) := by decide +kernel
theorem d_L_law_28 : decode code 28 = .ok (.iload_n 3, 1) := by decide +kernel
theorem d_L_law_29 : decode code 29 = .ok (.iaload, 1) := by decide +kernel
theorem d_L_law_30 : decode code 30 = .ok (.bipush 31, 2) := by decide +kernel
theorem d_L_law_32 : decode code 32 = .ok (.iand, 1) := by decide +kernel
theorem d_L_law_33 : decode code 33 = .ok (.tableswitch 812 0 16 #[83, 156, 205, 300, 333, 396, 469, 502, 525, 538, 571, 594, 617, 680, 713, 746, 779], 83) := by decide +kernel
theorem d_L_law_116 : decode code 116 = .ok (.aload_n 1, 1) := by decide +kernel
theorem d_L_law_117 : decode code 117 = .ok (.aload_n 0, 1) := by decide +kernel
theorem d_L_law_118 : decode code 118 = .ok (.iload_n 3, 1) := by decide +kernel
theorem d_L_law_119 : decode code 119 = .ok (.iconst 1, 1) := by decide +kernel
theorem d_L_law_120 : decode code 120 = .ok (.iadd, 1) := by decide +kernel
theorem d_L_law_121 : decode code 121 = .ok (.iaload, 1) := by decide +kernel
theorem d_L_law_122 : decode code 122 = .ok (.i2l, 1) := by decide +kernel
theorem d_L_law_123 : decode code 123 = .ok (.bipush 32, 2) := by decide +kernel
theorem d_L_law_125 : decode code 125 = .ok (.lshl, 1) := by decide +kernel
theorem d_L_law_126 : decode code 126 = .ok (.aload_n 0, 1) := by decide +kernel
theorem d_L_law_127 : decode code 127 = .ok (.iload_n 3, 1) := by decide +kernel
theorem d_L_law_128 : decode code 128 = .ok (.iconst 2, 1) := by decide +kernel
theorem d_L_law_129 : decode code 129 = .ok (.iadd, 1) := by decide +kernel
theorem d_L_law_130 : decode code 130 = .ok (.iaload, 1) := by decide +kernel
theorem d_L_law_131 : decode code 131 = .ok (.i2l, 1) := by decide +kernel
theorem d_L_law_132 : decode code 132 = .ok (.ldc2_w 13, 3) := by decide +kernel
theorem d_L_law_135 : decode code 135 = .ok (.land, 1) := by decide +kernel
theorem d_L_law_136 : decode code 136 = .ok (.lor, 1) := by decide +kernel
theorem d_L_law_137 : decode code 137 = .ok (.aload_n 0, 1) := by decide +kernel
theorem d_L_law_138 : decode code 138 = .ok (.iload_n 3, 1) := by decide +kernel
theorem d_L_law_139 : decode code 139 = .ok (.iconst 3, 1) := by decide +kernel
theorem d_L_law_140 : decode code 140 = .ok (.iadd, 1) := by decide +kernel
theorem d_L_law_141 : decode code 141 = .ok (.iaload, 1) := by decide +kernel
theorem d_L_law_142 : decode code 142 = .ok (.aload_n 0, 1) := by decide +kernel
theorem d_L_law_143 : decode code 143 = .ok (.iload_n 3, 1) := by decide +kernel
theorem d_L_law_144 : decode code 144 = .ok (.iconst 4, 1) := by decide +kernel
theorem d_L_law_145 : decode code 145 = .ok (.iadd, 1) := by decide +kernel
theorem d_L_law_146 : decode code 146 = .ok (.iaload, 1) := by decide +kernel
theorem d_L_law_147 : decode code 147 = .ok (.invokevirtual 15, 3) := by decide +kernel
theorem d_L_law_150 : decode code 150 = .ok (.aload_n 2, 1) := by decide +kernel
theorem d_L_law_151 : decode code 151 = .ok (.aload_n 0, 1) := by decide +kernel
theorem d_L_law_152 : decode code 152 = .ok (.iload_n 3, 1) := by decide +kernel
theorem d_L_law_153 : decode code 153 = .ok (.iconst 1, 1) := by decide +kernel
theorem d_L_law_154 : decode code 154 = .ok (.iadd, 1) := by decide +kernel
theorem d_L_law_155 : decode code 155 = .ok (.iaload, 1) := by decide +kernel
theorem d_L_law_156 : decode code 156 = .ok (.i2l, 1) := by decide +kernel
theorem d_L_law_157 : decode code 157 = .ok (.bipush 32, 2) := by decide +kernel
theorem d_L_law_159 : decode code 159 = .ok (.lshl, 1) := by decide +kernel
theorem d_L_law_160 : decode code 160 = .ok (.aload_n 0, 1) := by decide +kernel
theorem d_L_law_161 : decode code 161 = .ok (.iload_n 3, 1) := by decide +kernel
theorem d_L_law_162 : decode code 162 = .ok (.iconst 2, 1) := by decide +kernel
theorem d_L_law_163 : decode code 163 = .ok (.iadd, 1) := by decide +kernel
theorem d_L_law_164 : decode code 164 = .ok (.iaload, 1) := by decide +kernel
theorem d_L_law_165 : decode code 165 = .ok (.i2l, 1) := by decide +kernel
theorem d_L_law_166 : decode code 166 = .ok (.ldc2_w 13, 3) := by decide +kernel
theorem d_L_law_169 : decode code 169 = .ok (.land, 1) := by decide +kernel
theorem d_L_law_170 : decode code 170 = .ok (.lor, 1) := by decide +kernel
theorem d_L_law_171 : decode code 171 = .ok (.aload_n 0, 1) := by decide +kernel
theorem d_L_law_172 : decode code 172 = .ok (.iload_n 3, 1) := by decide +kernel
theorem d_L_law_173 : decode code 173 = .ok (.iconst 3, 1) := by decide +kernel
theorem d_L_law_174 : decode code 174 = .ok (.iadd, 1) := by decide +kernel
theorem d_L_law_175 : decode code 175 = .ok (.iaload, 1) := by decide +kernel
theorem d_L_law_176 : decode code 176 = .ok (.aload_n 0, 1) := by decide +kernel
theorem d_L_law_177 : decode code 177 = .ok (.iload_n 3, 1) := by decide +kernel
theorem d_L_law_178 : decode code 178 = .ok (.iconst 4, 1) := by decide +kernel
theorem d_L_law_179 : decode code 179 = .ok (.iadd, 1) := by decide +kernel
theorem d_L_law_180 : decode code 180 = .ok (.iaload, 1) := by decide +kernel
theorem d_L_law_181 : decode code 181 = .ok (.invokevirtual 19, 3) := by decide +kernel
theorem d_L_law_184 : decode code 184 = .ok (.if_icmp .eq 661, 3) := by decide +kernel
theorem d_L_law_187 : decode code 187 = .ok (.iconst 0, 1) := by decide +kernel
theorem d_L_law_188 : decode code 188 = .ok (.ireturn, 1) := by decide +kernel
theorem d_L_law_189 : decode code 189 = .ok (.aload_n 1, 1) := by decide +kernel
theorem d_L_law_190 : decode code 190 = .ok (.aload_n 0, 1) := by decide +kernel
theorem d_L_law_191 : decode code 191 = .ok (.iload_n 3, 1) := by decide +kernel
theorem d_L_law_192 : decode code 192 = .ok (.iconst 1, 1) := by decide +kernel
theorem d_L_law_193 : decode code 193 = .ok (.iadd, 1) := by decide +kernel
theorem d_L_law_194 : decode code 194 = .ok (.iaload, 1) := by decide +kernel
theorem d_L_law_195 : decode code 195 = .ok (.aload_n 0, 1) := by decide +kernel
theorem d_L_law_196 : decode code 196 = .ok (.iload_n 3, 1) := by decide +kernel
theorem d_L_law_197 : decode code 197 = .ok (.iconst 2, 1) := by decide +kernel
theorem d_L_law_198 : decode code 198 = .ok (.iadd, 1) := by decide +kernel
theorem d_L_law_199 : decode code 199 = .ok (.iaload, 1) := by decide +kernel
theorem d_L_law_200 : decode code 200 = .ok (.ifCond .eq 7, 3) := by decide +kernel
theorem d_L_law_203 : decode code 203 = .ok (.iconst 1, 1) := by decide +kernel
theorem d_L_law_204 : decode code 204 = .ok (.goto 4, 3) := by decide +kernel
theorem d_L_law_207 : decode code 207 = .ok (.iconst 0, 1) := by decide +kernel
theorem d_L_law_208 : decode code 208 = .ok (.invokevirtual 20, 3) := by decide +kernel
theorem d_L_law_211 : decode code 211 = .ok (.aload_n 2, 1) := by decide +kernel
theorem d_L_law_212 : decode code 212 = .ok (.aload_n 0, 1) := by decide +kernel
theorem d_L_law_213 : decode code 213 = .ok (.iload_n 3, 1) := by decide +kernel
theorem d_L_law_214 : decode code 214 = .ok (.iconst 1, 1) := by decide +kernel
theorem d_L_law_215 : decode code 215 = .ok (.iadd, 1) := by decide +kernel
theorem d_L_law_216 : decode code 216 = .ok (.iaload, 1) := by decide +kernel
theorem d_L_law_217 : decode code 217 = .ok (.aload_n 0, 1) := by decide +kernel
theorem d_L_law_218 : decode code 218 = .ok (.iload_n 3, 1) := by decide +kernel
theorem d_L_law_219 : decode code 219 = .ok (.iconst 2, 1) := by decide +kernel
theorem d_L_law_220 : decode code 220 = .ok (.iadd, 1) := by decide +kernel
theorem d_L_law_221 : decode code 221 = .ok (.iaload, 1) := by decide +kernel
theorem d_L_law_222 : decode code 222 = .ok (.ifCond .eq 7, 3) := by decide +kernel
theorem d_L_law_225 : decode code 225 = .ok (.iconst 1, 1) := by decide +kernel
theorem d_L_law_226 : decode code 226 = .ok (.goto 4, 3) := by decide +kernel
theorem d_L_law_229 : decode code 229 = .ok (.iconst 0, 1) := by decide +kernel
theorem d_L_law_230 : decode code 230 = .ok (.invokevirtual 24, 3) := by decide +kernel
theorem d_L_law_233 : decode code 233 = .ok (.if_icmp .eq 612, 3) := by decide +kernel
theorem d_L_law_236 : decode code 236 = .ok (.iconst 0, 1) := by decide +kernel
theorem d_L_law_237 : decode code 237 = .ok (.ireturn, 1) := by decide +kernel
theorem d_L_law_238 : decode code 238 = .ok (.aload_n 1, 1) := by decide +kernel
theorem d_L_law_239 : decode code 239 = .ok (.aload_n 0, 1) := by decide +kernel
theorem d_L_law_240 : decode code 240 = .ok (.iload_n 3, 1) := by decide +kernel
theorem d_L_law_241 : decode code 241 = .ok (.iconst 1, 1) := by decide +kernel
theorem d_L_law_242 : decode code 242 = .ok (.iadd, 1) := by decide +kernel
theorem d_L_law_243 : decode code 243 = .ok (.iaload, 1) := by decide +kernel
theorem d_L_law_244 : decode code 244 = .ok (.i2l, 1) := by decide +kernel
theorem d_L_law_245 : decode code 245 = .ok (.bipush 32, 2) := by decide +kernel
theorem d_L_law_247 : decode code 247 = .ok (.lshl, 1) := by decide +kernel
theorem d_L_law_248 : decode code 248 = .ok (.aload_n 0, 1) := by decide +kernel
theorem d_L_law_249 : decode code 249 = .ok (.iload_n 3, 1) := by decide +kernel
theorem d_L_law_250 : decode code 250 = .ok (.iconst 2, 1) := by decide +kernel
theorem d_L_law_251 : decode code 251 = .ok (.iadd, 1) := by decide +kernel
theorem d_L_law_252 : decode code 252 = .ok (.iaload, 1) := by decide +kernel
theorem d_L_law_253 : decode code 253 = .ok (.i2l, 1) := by decide +kernel
theorem d_L_law_254 : decode code 254 = .ok (.ldc2_w 13, 3) := by decide +kernel
theorem d_L_law_257 : decode code 257 = .ok (.land, 1) := by decide +kernel
theorem d_L_law_258 : decode code 258 = .ok (.lor, 1) := by decide +kernel
theorem d_L_law_259 : decode code 259 = .ok (.aload_n 0, 1) := by decide +kernel
theorem d_L_law_260 : decode code 260 = .ok (.iload_n 3, 1) := by decide +kernel
theorem d_L_law_261 : decode code 261 = .ok (.iconst 3, 1) := by decide +kernel
theorem d_L_law_262 : decode code 262 = .ok (.iadd, 1) := by decide +kernel
theorem d_L_law_263 : decode code 263 = .ok (.iaload, 1) := by decide +kernel
theorem d_L_law_264 : decode code 264 = .ok (.aload_n 0, 1) := by decide +kernel
theorem d_L_law_265 : decode code 265 = .ok (.iload_n 3, 1) := by decide +kernel
theorem d_L_law_266 : decode code 266 = .ok (.iconst 4, 1) := by decide +kernel
theorem d_L_law_267 : decode code 267 = .ok (.iadd, 1) := by decide +kernel
theorem d_L_law_268 : decode code 268 = .ok (.iaload, 1) := by decide +kernel
theorem d_L_law_269 : decode code 269 = .ok (.aload_n 0, 1) := by decide +kernel
theorem d_L_law_270 : decode code 270 = .ok (.iload_n 3, 1) := by decide +kernel
theorem d_L_law_271 : decode code 271 = .ok (.iconst 5, 1) := by decide +kernel
theorem d_L_law_272 : decode code 272 = .ok (.iadd, 1) := by decide +kernel
theorem d_L_law_273 : decode code 273 = .ok (.iaload, 1) := by decide +kernel
theorem d_L_law_274 : decode code 274 = .ok (.aload_n 0, 1) := by decide +kernel
theorem d_L_law_275 : decode code 275 = .ok (.iload_n 3, 1) := by decide +kernel
theorem d_L_law_276 : decode code 276 = .ok (.bipush 6, 2) := by decide +kernel
theorem d_L_law_278 : decode code 278 = .ok (.iadd, 1) := by decide +kernel
theorem d_L_law_279 : decode code 279 = .ok (.iaload, 1) := by decide +kernel
theorem d_L_law_280 : decode code 280 = .ok (.invokevirtual 25, 3) := by decide +kernel
theorem d_L_law_283 : decode code 283 = .ok (.aload_n 2, 1) := by decide +kernel
theorem d_L_law_284 : decode code 284 = .ok (.aload_n 0, 1) := by decide +kernel
theorem d_L_law_285 : decode code 285 = .ok (.iload_n 3, 1) := by decide +kernel
theorem d_L_law_286 : decode code 286 = .ok (.iconst 1, 1) := by decide +kernel
theorem d_L_law_287 : decode code 287 = .ok (.iadd, 1) := by decide +kernel
theorem d_L_law_288 : decode code 288 = .ok (.iaload, 1) := by decide +kernel
theorem d_L_law_289 : decode code 289 = .ok (.i2l, 1) := by decide +kernel
theorem d_L_law_290 : decode code 290 = .ok (.bipush 32, 2) := by decide +kernel
theorem d_L_law_292 : decode code 292 = .ok (.lshl, 1) := by decide +kernel
theorem d_L_law_293 : decode code 293 = .ok (.aload_n 0, 1) := by decide +kernel
theorem d_L_law_294 : decode code 294 = .ok (.iload_n 3, 1) := by decide +kernel
theorem d_L_law_295 : decode code 295 = .ok (.iconst 2, 1) := by decide +kernel
theorem d_L_law_296 : decode code 296 = .ok (.iadd, 1) := by decide +kernel
theorem d_L_law_297 : decode code 297 = .ok (.iaload, 1) := by decide +kernel
theorem d_L_law_298 : decode code 298 = .ok (.i2l, 1) := by decide +kernel
theorem d_L_law_299 : decode code 299 = .ok (.ldc2_w 13, 3) := by decide +kernel
theorem d_L_law_302 : decode code 302 = .ok (.land, 1) := by decide +kernel
theorem d_L_law_303 : decode code 303 = .ok (.lor, 1) := by decide +kernel
theorem d_L_law_304 : decode code 304 = .ok (.aload_n 0, 1) := by decide +kernel
theorem d_L_law_305 : decode code 305 = .ok (.iload_n 3, 1) := by decide +kernel
theorem d_L_law_306 : decode code 306 = .ok (.iconst 3, 1) := by decide +kernel
theorem d_L_law_307 : decode code 307 = .ok (.iadd, 1) := by decide +kernel
theorem d_L_law_308 : decode code 308 = .ok (.iaload, 1) := by decide +kernel
theorem d_L_law_309 : decode code 309 = .ok (.aload_n 0, 1) := by decide +kernel
theorem d_L_law_310 : decode code 310 = .ok (.iload_n 3, 1) := by decide +kernel
theorem d_L_law_311 : decode code 311 = .ok (.iconst 4, 1) := by decide +kernel
theorem d_L_law_312 : decode code 312 = .ok (.iadd, 1) := by decide +kernel
theorem d_L_law_313 : decode code 313 = .ok (.iaload, 1) := by decide +kernel
theorem d_L_law_314 : decode code 314 = .ok (.aload_n 0, 1) := by decide +kernel
theorem d_L_law_315 : decode code 315 = .ok (.iload_n 3, 1) := by decide +kernel
theorem d_L_law_316 : decode code 316 = .ok (.iconst 5, 1) := by decide +kernel
theorem d_L_law_317 : decode code 317 = .ok (.iadd, 1) := by decide +kernel
theorem d_L_law_318 : decode code 318 = .ok (.iaload, 1) := by decide +kernel
theorem d_L_law_319 : decode code 319 = .ok (.aload_n 0, 1) := by decide +kernel
theorem d_L_law_320 : decode code 320 = .ok (.iload_n 3, 1) := by decide +kernel
theorem d_L_law_321 : decode code 321 = .ok (.bipush 6, 2) := by decide +kernel
theorem d_L_law_323 : decode code 323 = .ok (.iadd, 1) := by decide +kernel
theorem d_L_law_324 : decode code 324 = .ok (.iaload, 1) := by decide +kernel
theorem d_L_law_325 : decode code 325 = .ok (.invokevirtual 29, 3) := by decide +kernel
theorem d_L_law_328 : decode code 328 = .ok (.if_icmp .eq 517, 3) := by decide +kernel
theorem d_L_law_331 : decode code 331 = .ok (.iconst 0, 1) := by decide +kernel
theorem d_L_law_332 : decode code 332 = .ok (.ireturn, 1) := by decide +kernel
theorem d_L_law_333 : decode code 333 = .ok (.aload_n 1, 1) := by decide +kernel
theorem d_L_law_334 : decode code 334 = .ok (.aload_n 0, 1) := by decide +kernel
theorem d_L_law_335 : decode code 335 = .ok (.iload_n 3, 1) := by decide +kernel
theorem d_L_law_336 : decode code 336 = .ok (.iconst 1, 1) := by decide +kernel
theorem d_L_law_337 : decode code 337 = .ok (.iadd, 1) := by decide +kernel
theorem d_L_law_338 : decode code 338 = .ok (.iaload, 1) := by decide +kernel
theorem d_L_law_339 : decode code 339 = .ok (.aload_n 0, 1) := by decide +kernel
theorem d_L_law_340 : decode code 340 = .ok (.iload_n 3, 1) := by decide +kernel
theorem d_L_law_341 : decode code 341 = .ok (.iconst 2, 1) := by decide +kernel
theorem d_L_law_342 : decode code 342 = .ok (.iadd, 1) := by decide +kernel
theorem d_L_law_343 : decode code 343 = .ok (.iaload, 1) := by decide +kernel
theorem d_L_law_344 : decode code 344 = .ok (.invokevirtual 30, 3) := by decide +kernel
theorem d_L_law_347 : decode code 347 = .ok (.aload_n 2, 1) := by decide +kernel
theorem d_L_law_348 : decode code 348 = .ok (.aload_n 0, 1) := by decide +kernel
theorem d_L_law_349 : decode code 349 = .ok (.iload_n 3, 1) := by decide +kernel
theorem d_L_law_350 : decode code 350 = .ok (.iconst 1, 1) := by decide +kernel
theorem d_L_law_351 : decode code 351 = .ok (.iadd, 1) := by decide +kernel
theorem d_L_law_352 : decode code 352 = .ok (.iaload, 1) := by decide +kernel
theorem d_L_law_353 : decode code 353 = .ok (.aload_n 0, 1) := by decide +kernel
theorem d_L_law_354 : decode code 354 = .ok (.iload_n 3, 1) := by decide +kernel
theorem d_L_law_355 : decode code 355 = .ok (.iconst 2, 1) := by decide +kernel
theorem d_L_law_356 : decode code 356 = .ok (.iadd, 1) := by decide +kernel
theorem d_L_law_357 : decode code 357 = .ok (.iaload, 1) := by decide +kernel
theorem d_L_law_358 : decode code 358 = .ok (.invokevirtual 34, 3) := by decide +kernel
theorem d_L_law_361 : decode code 361 = .ok (.if_icmp .eq 484, 3) := by decide +kernel
theorem d_L_law_364 : decode code 364 = .ok (.iconst 0, 1) := by decide +kernel
theorem d_L_law_365 : decode code 365 = .ok (.ireturn, 1) := by decide +kernel
theorem d_L_law_366 : decode code 366 = .ok (.aload_n 1, 1) := by decide +kernel
theorem d_L_law_367 : decode code 367 = .ok (.aload_n 0, 1) := by decide +kernel
theorem d_L_law_368 : decode code 368 = .ok (.iload_n 3, 1) := by decide +kernel
theorem d_L_law_369 : decode code 369 = .ok (.iconst 1, 1) := by decide +kernel
theorem d_L_law_370 : decode code 370 = .ok (.iadd, 1) := by decide +kernel
theorem d_L_law_371 : decode code 371 = .ok (.iaload, 1) := by decide +kernel
theorem d_L_law_372 : decode code 372 = .ok (.aload_n 0, 1) := by decide +kernel
theorem d_L_law_373 : decode code 373 = .ok (.iload_n 3, 1) := by decide +kernel
theorem d_L_law_374 : decode code 374 = .ok (.iconst 2, 1) := by decide +kernel
theorem d_L_law_375 : decode code 375 = .ok (.iadd, 1) := by decide +kernel
theorem d_L_law_376 : decode code 376 = .ok (.iaload, 1) := by decide +kernel
theorem d_L_law_377 : decode code 377 = .ok (.i2l, 1) := by decide +kernel
theorem d_L_law_378 : decode code 378 = .ok (.bipush 32, 2) := by decide +kernel
theorem d_L_law_380 : decode code 380 = .ok (.lshl, 1) := by decide +kernel
theorem d_L_law_381 : decode code 381 = .ok (.aload_n 0, 1) := by decide +kernel
theorem d_L_law_382 : decode code 382 = .ok (.iload_n 3, 1) := by decide +kernel
theorem d_L_law_383 : decode code 383 = .ok (.iconst 3, 1) := by decide +kernel
theorem d_L_law_384 : decode code 384 = .ok (.iadd, 1) := by decide +kernel
theorem d_L_law_385 : decode code 385 = .ok (.iaload, 1) := by decide +kernel
theorem d_L_law_386 : decode code 386 = .ok (.i2l, 1) := by decide +kernel
theorem d_L_law_387 : decode code 387 = .ok (.ldc2_w 13, 3) := by decide +kernel
theorem d_L_law_390 : decode code 390 = .ok (.land, 1) := by decide +kernel
theorem d_L_law_391 : decode code 391 = .ok (.lor, 1) := by decide +kernel
theorem d_L_law_392 : decode code 392 = .ok (.invokevirtual 35, 3) := by decide +kernel
theorem d_L_law_395 : decode code 395 = .ok (.aload_n 2, 1) := by decide +kernel
theorem d_L_law_396 : decode code 396 = .ok (.aload_n 0, 1) := by decide +kernel
theorem d_L_law_397 : decode code 397 = .ok (.iload_n 3, 1) := by decide +kernel
theorem d_L_law_398 : decode code 398 = .ok (.iconst 1, 1) := by decide +kernel
theorem d_L_law_399 : decode code 399 = .ok (.iadd, 1) := by decide +kernel
theorem d_L_law_400 : decode code 400 = .ok (.iaload, 1) := by decide +kernel
theorem d_L_law_401 : decode code 401 = .ok (.aload_n 0, 1) := by decide +kernel
theorem d_L_law_402 : decode code 402 = .ok (.iload_n 3, 1) := by decide +kernel
theorem d_L_law_403 : decode code 403 = .ok (.iconst 2, 1) := by decide +kernel
theorem d_L_law_404 : decode code 404 = .ok (.iadd, 1) := by decide +kernel
theorem d_L_law_405 : decode code 405 = .ok (.iaload, 1) := by decide +kernel
theorem d_L_law_406 : decode code 406 = .ok (.i2l, 1) := by decide +kernel
theorem d_L_law_407 : decode code 407 = .ok (.bipush 32, 2) := by decide +kernel
theorem d_L_law_409 : decode code 409 = .ok (.lshl, 1) := by decide +kernel
theorem d_L_law_410 : decode code 410 = .ok (.aload_n 0, 1) := by decide +kernel
theorem d_L_law_411 : decode code 411 = .ok (.iload_n 3, 1) := by decide +kernel
theorem d_L_law_412 : decode code 412 = .ok (.iconst 3, 1) := by decide +kernel
theorem d_L_law_413 : decode code 413 = .ok (.iadd, 1) := by decide +kernel
theorem d_L_law_414 : decode code 414 = .ok (.iaload, 1) := by decide +kernel
theorem d_L_law_415 : decode code 415 = .ok (.i2l, 1) := by decide +kernel
theorem d_L_law_416 : decode code 416 = .ok (.ldc2_w 13, 3) := by decide +kernel
theorem d_L_law_419 : decode code 419 = .ok (.land, 1) := by decide +kernel
theorem d_L_law_420 : decode code 420 = .ok (.lor, 1) := by decide +kernel
theorem d_L_law_421 : decode code 421 = .ok (.invokevirtual 39, 3) := by decide +kernel
theorem d_L_law_424 : decode code 424 = .ok (.if_icmp .eq 421, 3) := by decide +kernel
theorem d_L_law_427 : decode code 427 = .ok (.iconst 0, 1) := by decide +kernel
theorem d_L_law_428 : decode code 428 = .ok (.ireturn, 1) := by decide +kernel
theorem d_L_law_429 : decode code 429 = .ok (.aload_n 1, 1) := by decide +kernel
theorem d_L_law_430 : decode code 430 = .ok (.aload_n 0, 1) := by decide +kernel
theorem d_L_law_431 : decode code 431 = .ok (.iload_n 3, 1) := by decide +kernel
theorem d_L_law_432 : decode code 432 = .ok (.iconst 1, 1) := by decide +kernel
theorem d_L_law_433 : decode code 433 = .ok (.iadd, 1) := by decide +kernel
theorem d_L_law_434 : decode code 434 = .ok (.iaload, 1) := by decide +kernel
theorem d_L_law_435 : decode code 435 = .ok (.aload_n 0, 1) := by decide +kernel
theorem d_L_law_436 : decode code 436 = .ok (.iload_n 3, 1) := by decide +kernel
theorem d_L_law_437 : decode code 437 = .ok (.iconst 2, 1) := by decide +kernel
theorem d_L_law_438 : decode code 438 = .ok (.iadd, 1) := by decide +kernel
theorem d_L_law_439 : decode code 439 = .ok (.iaload, 1) := by decide +kernel
theorem d_L_law_440 : decode code 440 = .ok (.aload_n 0, 1) := by decide +kernel
theorem d_L_law_441 : decode code 441 = .ok (.iload_n 3, 1) := by decide +kernel
theorem d_L_law_442 : decode code 442 = .ok (.iconst 3, 1) := by decide +kernel
theorem d_L_law_443 : decode code 443 = .ok (.iadd, 1) := by decide +kernel
theorem d_L_law_444 : decode code 444 = .ok (.iaload, 1) := by decide +kernel
theorem d_L_law_445 : decode code 445 = .ok (.i2l, 1) := by decide +kernel
theorem d_L_law_446 : decode code 446 = .ok (.bipush 32, 2) := by decide +kernel
theorem d_L_law_448 : decode code 448 = .ok (.lshl, 1) := by decide +kernel
theorem d_L_law_449 : decode code 449 = .ok (.aload_n 0, 1) := by decide +kernel
theorem d_L_law_450 : decode code 450 = .ok (.iload_n 3, 1) := by decide +kernel
theorem d_L_law_451 : decode code 451 = .ok (.iconst 4, 1) := by decide +kernel
theorem d_L_law_452 : decode code 452 = .ok (.iadd, 1) := by decide +kernel
theorem d_L_law_453 : decode code 453 = .ok (.iaload, 1) := by decide +kernel
theorem d_L_law_454 : decode code 454 = .ok (.i2l, 1) := by decide +kernel
theorem d_L_law_455 : decode code 455 = .ok (.ldc2_w 13, 3) := by decide +kernel
theorem d_L_law_458 : decode code 458 = .ok (.land, 1) := by decide +kernel
theorem d_L_law_459 : decode code 459 = .ok (.lor, 1) := by decide +kernel
theorem d_L_law_460 : decode code 460 = .ok (.invokevirtual 40, 3) := by decide +kernel
theorem d_L_law_463 : decode code 463 = .ok (.aload_n 2, 1) := by decide +kernel
theorem d_L_law_464 : decode code 464 = .ok (.aload_n 0, 1) := by decide +kernel
theorem d_L_law_465 : decode code 465 = .ok (.iload_n 3, 1) := by decide +kernel
theorem d_L_law_466 : decode code 466 = .ok (.iconst 1, 1) := by decide +kernel
theorem d_L_law_467 : decode code 467 = .ok (.iadd, 1) := by decide +kernel
theorem d_L_law_468 : decode code 468 = .ok (.iaload, 1) := by decide +kernel
theorem d_L_law_469 : decode code 469 = .ok (.aload_n 0, 1) := by decide +kernel
theorem d_L_law_470 : decode code 470 = .ok (.iload_n 3, 1) := by decide +kernel
theorem d_L_law_471 : decode code 471 = .ok (.iconst 2, 1) := by decide +kernel
theorem d_L_law_472 : decode code 472 = .ok (.iadd, 1) := by decide +kernel
theorem d_L_law_473 : decode code 473 = .ok (.iaload, 1) := by decide +kernel
theorem d_L_law_474 : decode code 474 = .ok (.aload_n 0, 1) := by decide +kernel
theorem d_L_law_475 : decode code 475 = .ok (.iload_n 3, 1) := by decide +kernel
theorem d_L_law_476 : decode code 476 = .ok (.iconst 3, 1) := by decide +kernel
theorem d_L_law_477 : decode code 477 = .ok (.iadd, 1) := by decide +kernel
theorem d_L_law_478 : decode code 478 = .ok (.iaload, 1) := by decide +kernel
theorem d_L_law_479 : decode code 479 = .ok (.i2l, 1) := by decide +kernel
theorem d_L_law_480 : decode code 480 = .ok (.bipush 32, 2) := by decide +kernel
theorem d_L_law_482 : decode code 482 = .ok (.lshl, 1) := by decide +kernel
theorem d_L_law_483 : decode code 483 = .ok (.aload_n 0, 1) := by decide +kernel
theorem d_L_law_484 : decode code 484 = .ok (.iload_n 3, 1) := by decide +kernel
theorem d_L_law_485 : decode code 485 = .ok (.iconst 4, 1) := by decide +kernel
theorem d_L_law_486 : decode code 486 = .ok (.iadd, 1) := by decide +kernel
theorem d_L_law_487 : decode code 487 = .ok (.iaload, 1) := by decide +kernel
theorem d_L_law_488 : decode code 488 = .ok (.i2l, 1) := by decide +kernel
theorem d_L_law_489 : decode code 489 = .ok (.ldc2_w 13, 3) := by decide +kernel
theorem d_L_law_492 : decode code 492 = .ok (.land, 1) := by decide +kernel
theorem d_L_law_493 : decode code 493 = .ok (.lor, 1) := by decide +kernel
theorem d_L_law_494 : decode code 494 = .ok (.invokevirtual 44, 3) := by decide +kernel
theorem d_L_law_497 : decode code 497 = .ok (.if_icmp .eq 348, 3) := by decide +kernel
theorem d_L_law_500 : decode code 500 = .ok (.iconst 0, 1) := by decide +kernel
theorem d_L_law_501 : decode code 501 = .ok (.ireturn, 1) := by decide +kernel
theorem d_L_law_502 : decode code 502 = .ok (.aload_n 1, 1) := by decide +kernel
theorem d_L_law_503 : decode code 503 = .ok (.aload_n 0, 1) := by decide +kernel
theorem d_L_law_504 : decode code 504 = .ok (.iload_n 3, 1) := by decide +kernel
theorem d_L_law_505 : decode code 505 = .ok (.iconst 1, 1) := by decide +kernel
theorem d_L_law_506 : decode code 506 = .ok (.iadd, 1) := by decide +kernel
theorem d_L_law_507 : decode code 507 = .ok (.iaload, 1) := by decide +kernel
theorem d_L_law_508 : decode code 508 = .ok (.aload_n 0, 1) := by decide +kernel
theorem d_L_law_509 : decode code 509 = .ok (.iload_n 3, 1) := by decide +kernel
theorem d_L_law_510 : decode code 510 = .ok (.iconst 2, 1) := by decide +kernel
theorem d_L_law_511 : decode code 511 = .ok (.iadd, 1) := by decide +kernel
theorem d_L_law_512 : decode code 512 = .ok (.iaload, 1) := by decide +kernel
theorem d_L_law_513 : decode code 513 = .ok (.invokevirtual 45, 3) := by decide +kernel
theorem d_L_law_516 : decode code 516 = .ok (.aload_n 2, 1) := by decide +kernel
theorem d_L_law_517 : decode code 517 = .ok (.aload_n 0, 1) := by decide +kernel
theorem d_L_law_518 : decode code 518 = .ok (.iload_n 3, 1) := by decide +kernel
theorem d_L_law_519 : decode code 519 = .ok (.iconst 1, 1) := by decide +kernel
theorem d_L_law_520 : decode code 520 = .ok (.iadd, 1) := by decide +kernel
theorem d_L_law_521 : decode code 521 = .ok (.iaload, 1) := by decide +kernel
theorem d_L_law_522 : decode code 522 = .ok (.aload_n 0, 1) := by decide +kernel
theorem d_L_law_523 : decode code 523 = .ok (.iload_n 3, 1) := by decide +kernel
theorem d_L_law_524 : decode code 524 = .ok (.iconst 2, 1) := by decide +kernel
theorem d_L_law_525 : decode code 525 = .ok (.iadd, 1) := by decide +kernel
theorem d_L_law_526 : decode code 526 = .ok (.iaload, 1) := by decide +kernel
theorem d_L_law_527 : decode code 527 = .ok (.invokevirtual 49, 3) := by decide +kernel
theorem d_L_law_530 : decode code 530 = .ok (.if_icmp .eq 315, 3) := by decide +kernel
theorem d_L_law_533 : decode code 533 = .ok (.iconst 0, 1) := by decide +kernel
theorem d_L_law_534 : decode code 534 = .ok (.ireturn, 1) := by decide +kernel
theorem d_L_law_535 : decode code 535 = .ok (.aload_n 1, 1) := by decide +kernel
theorem d_L_law_536 : decode code 536 = .ok (.aload_n 0, 1) := by decide +kernel
theorem d_L_law_537 : decode code 537 = .ok (.iload_n 3, 1) := by decide +kernel
theorem d_L_law_538 : decode code 538 = .ok (.iconst 1, 1) := by decide +kernel
theorem d_L_law_539 : decode code 539 = .ok (.iadd, 1) := by decide +kernel
theorem d_L_law_540 : decode code 540 = .ok (.iaload, 1) := by decide +kernel
theorem d_L_law_541 : decode code 541 = .ok (.invokevirtual 50, 3) := by decide +kernel
theorem d_L_law_544 : decode code 544 = .ok (.aload_n 2, 1) := by decide +kernel
theorem d_L_law_545 : decode code 545 = .ok (.aload_n 0, 1) := by decide +kernel
theorem d_L_law_546 : decode code 546 = .ok (.iload_n 3, 1) := by decide +kernel
theorem d_L_law_547 : decode code 547 = .ok (.iconst 1, 1) := by decide +kernel
theorem d_L_law_548 : decode code 548 = .ok (.iadd, 1) := by decide +kernel
theorem d_L_law_549 : decode code 549 = .ok (.iaload, 1) := by decide +kernel
theorem d_L_law_550 : decode code 550 = .ok (.invokevirtual 54, 3) := by decide +kernel
theorem d_L_law_553 : decode code 553 = .ok (.if_icmp .eq 292, 3) := by decide +kernel
theorem d_L_law_556 : decode code 556 = .ok (.iconst 0, 1) := by decide +kernel
theorem d_L_law_557 : decode code 557 = .ok (.ireturn, 1) := by decide +kernel
theorem d_L_law_558 : decode code 558 = .ok (.aload_n 1, 1) := by decide +kernel
theorem d_L_law_559 : decode code 559 = .ok (.invokevirtual 55, 3) := by decide +kernel
theorem d_L_law_562 : decode code 562 = .ok (.aload_n 2, 1) := by decide +kernel
theorem d_L_law_563 : decode code 563 = .ok (.invokevirtual 59, 3) := by decide +kernel
theorem d_L_law_566 : decode code 566 = .ok (.if_icmp .eq 279, 3) := by decide +kernel
theorem d_L_law_569 : decode code 569 = .ok (.iconst 0, 1) := by decide +kernel
theorem d_L_law_570 : decode code 570 = .ok (.ireturn, 1) := by decide +kernel
theorem d_L_law_571 : decode code 571 = .ok (.aload_n 1, 1) := by decide +kernel
theorem d_L_law_572 : decode code 572 = .ok (.aload_n 0, 1) := by decide +kernel
theorem d_L_law_573 : decode code 573 = .ok (.iload_n 3, 1) := by decide +kernel
theorem d_L_law_574 : decode code 574 = .ok (.iconst 1, 1) := by decide +kernel
theorem d_L_law_575 : decode code 575 = .ok (.iadd, 1) := by decide +kernel
theorem d_L_law_576 : decode code 576 = .ok (.iaload, 1) := by decide +kernel
theorem d_L_law_577 : decode code 577 = .ok (.aload_n 0, 1) := by decide +kernel
theorem d_L_law_578 : decode code 578 = .ok (.iload_n 3, 1) := by decide +kernel
theorem d_L_law_579 : decode code 579 = .ok (.iconst 2, 1) := by decide +kernel
theorem d_L_law_580 : decode code 580 = .ok (.iadd, 1) := by decide +kernel
theorem d_L_law_581 : decode code 581 = .ok (.iaload, 1) := by decide +kernel
theorem d_L_law_582 : decode code 582 = .ok (.invokevirtual 60, 3) := by decide +kernel
theorem d_L_law_585 : decode code 585 = .ok (.aload_n 2, 1) := by decide +kernel
theorem d_L_law_586 : decode code 586 = .ok (.aload_n 0, 1) := by decide +kernel
theorem d_L_law_587 : decode code 587 = .ok (.iload_n 3, 1) := by decide +kernel
theorem d_L_law_588 : decode code 588 = .ok (.iconst 1, 1) := by decide +kernel
theorem d_L_law_589 : decode code 589 = .ok (.iadd, 1) := by decide +kernel
theorem d_L_law_590 : decode code 590 = .ok (.iaload, 1) := by decide +kernel
theorem d_L_law_591 : decode code 591 = .ok (.aload_n 0, 1) := by decide +kernel
theorem d_L_law_592 : decode code 592 = .ok (.iload_n 3, 1) := by decide +kernel
theorem d_L_law_593 : decode code 593 = .ok (.iconst 2, 1) := by decide +kernel
theorem d_L_law_594 : decode code 594 = .ok (.iadd, 1) := by decide +kernel
theorem d_L_law_595 : decode code 595 = .ok (.iaload, 1) := by decide +kernel
theorem d_L_law_596 : decode code 596 = .ok (.invokevirtual 63, 3) := by decide +kernel
theorem d_L_law_599 : decode code 599 = .ok (.if_icmp .eq 246, 3) := by decide +kernel
theorem d_L_law_602 : decode code 602 = .ok (.iconst 0, 1) := by decide +kernel
theorem d_L_law_603 : decode code 603 = .ok (.ireturn, 1) := by decide +kernel
theorem d_L_law_604 : decode code 604 = .ok (.aload_n 1, 1) := by decide +kernel
theorem d_L_law_605 : decode code 605 = .ok (.aload_n 0, 1) := by decide +kernel
theorem d_L_law_606 : decode code 606 = .ok (.iload_n 3, 1) := by decide +kernel
theorem d_L_law_607 : decode code 607 = .ok (.iconst 1, 1) := by decide +kernel
theorem d_L_law_608 : decode code 608 = .ok (.iadd, 1) := by decide +kernel
theorem d_L_law_609 : decode code 609 = .ok (.iaload, 1) := by decide +kernel
theorem d_L_law_610 : decode code 610 = .ok (.invokevirtual 64, 3) := by decide +kernel
theorem d_L_law_613 : decode code 613 = .ok (.aload_n 2, 1) := by decide +kernel
theorem d_L_law_614 : decode code 614 = .ok (.aload_n 0, 1) := by decide +kernel
theorem d_L_law_615 : decode code 615 = .ok (.iload_n 3, 1) := by decide +kernel
theorem d_L_law_616 : decode code 616 = .ok (.iconst 1, 1) := by decide +kernel
theorem d_L_law_617 : decode code 617 = .ok (.iadd, 1) := by decide +kernel
theorem d_L_law_618 : decode code 618 = .ok (.iaload, 1) := by decide +kernel
theorem d_L_law_619 : decode code 619 = .ok (.invokevirtual 67, 3) := by decide +kernel
theorem d_L_law_622 : decode code 622 = .ok (.if_icmp .eq 223, 3) := by decide +kernel
theorem d_L_law_625 : decode code 625 = .ok (.iconst 0, 1) := by decide +kernel
theorem d_L_law_626 : decode code 626 = .ok (.ireturn, 1) := by decide +kernel
theorem d_L_law_627 : decode code 627 = .ok (.aload_n 1, 1) := by decide +kernel
theorem d_L_law_628 : decode code 628 = .ok (.aload_n 0, 1) := by decide +kernel
theorem d_L_law_629 : decode code 629 = .ok (.iload_n 3, 1) := by decide +kernel
theorem d_L_law_630 : decode code 630 = .ok (.iconst 1, 1) := by decide +kernel
theorem d_L_law_631 : decode code 631 = .ok (.iadd, 1) := by decide +kernel
theorem d_L_law_632 : decode code 632 = .ok (.iaload, 1) := by decide +kernel
theorem d_L_law_633 : decode code 633 = .ok (.invokevirtual 68, 3) := by decide +kernel
theorem d_L_law_636 : decode code 636 = .ok (.aload_n 2, 1) := by decide +kernel
theorem d_L_law_637 : decode code 637 = .ok (.aload_n 0, 1) := by decide +kernel
theorem d_L_law_638 : decode code 638 = .ok (.iload_n 3, 1) := by decide +kernel
theorem d_L_law_639 : decode code 639 = .ok (.iconst 1, 1) := by decide +kernel
theorem d_L_law_640 : decode code 640 = .ok (.iadd, 1) := by decide +kernel
theorem d_L_law_641 : decode code 641 = .ok (.iaload, 1) := by decide +kernel
theorem d_L_law_642 : decode code 642 = .ok (.invokevirtual 71, 3) := by decide +kernel
theorem d_L_law_645 : decode code 645 = .ok (.if_icmp .eq 200, 3) := by decide +kernel
theorem d_L_law_648 : decode code 648 = .ok (.iconst 0, 1) := by decide +kernel
theorem d_L_law_649 : decode code 649 = .ok (.ireturn, 1) := by decide +kernel
theorem d_L_law_650 : decode code 650 = .ok (.aload_n 1, 1) := by decide +kernel
theorem d_L_law_651 : decode code 651 = .ok (.aload_n 0, 1) := by decide +kernel
theorem d_L_law_652 : decode code 652 = .ok (.iload_n 3, 1) := by decide +kernel
theorem d_L_law_653 : decode code 653 = .ok (.iconst 1, 1) := by decide +kernel
theorem d_L_law_654 : decode code 654 = .ok (.iadd, 1) := by decide +kernel
theorem d_L_law_655 : decode code 655 = .ok (.iaload, 1) := by decide +kernel
theorem d_L_law_656 : decode code 656 = .ok (.i2l, 1) := by decide +kernel
theorem d_L_law_657 : decode code 657 = .ok (.bipush 32, 2) := by decide +kernel
theorem d_L_law_659 : decode code 659 = .ok (.lshl, 1) := by decide +kernel
theorem d_L_law_660 : decode code 660 = .ok (.aload_n 0, 1) := by decide +kernel
theorem d_L_law_661 : decode code 661 = .ok (.iload_n 3, 1) := by decide +kernel
theorem d_L_law_662 : decode code 662 = .ok (.iconst 2, 1) := by decide +kernel
theorem d_L_law_663 : decode code 663 = .ok (.iadd, 1) := by decide +kernel
theorem d_L_law_664 : decode code 664 = .ok (.iaload, 1) := by decide +kernel
theorem d_L_law_665 : decode code 665 = .ok (.i2l, 1) := by decide +kernel
theorem d_L_law_666 : decode code 666 = .ok (.ldc2_w 13, 3) := by decide +kernel
theorem d_L_law_669 : decode code 669 = .ok (.land, 1) := by decide +kernel
theorem d_L_law_670 : decode code 670 = .ok (.lor, 1) := by decide +kernel
theorem d_L_law_671 : decode code 671 = .ok (.aload_n 0, 1) := by decide +kernel
theorem d_L_law_672 : decode code 672 = .ok (.iload_n 3, 1) := by decide +kernel
theorem d_L_law_673 : decode code 673 = .ok (.iconst 3, 1) := by decide +kernel
theorem d_L_law_674 : decode code 674 = .ok (.iadd, 1) := by decide +kernel
theorem d_L_law_675 : decode code 675 = .ok (.iaload, 1) := by decide +kernel
theorem d_L_law_676 : decode code 676 = .ok (.invokevirtual 72, 3) := by decide +kernel
theorem d_L_law_679 : decode code 679 = .ok (.aload_n 2, 1) := by decide +kernel
theorem d_L_law_680 : decode code 680 = .ok (.aload_n 0, 1) := by decide +kernel
theorem d_L_law_681 : decode code 681 = .ok (.iload_n 3, 1) := by decide +kernel
theorem d_L_law_682 : decode code 682 = .ok (.iconst 1, 1) := by decide +kernel
theorem d_L_law_683 : decode code 683 = .ok (.iadd, 1) := by decide +kernel
theorem d_L_law_684 : decode code 684 = .ok (.iaload, 1) := by decide +kernel
theorem d_L_law_685 : decode code 685 = .ok (.i2l, 1) := by decide +kernel
theorem d_L_law_686 : decode code 686 = .ok (.bipush 32, 2) := by decide +kernel
theorem d_L_law_688 : decode code 688 = .ok (.lshl, 1) := by decide +kernel
theorem d_L_law_689 : decode code 689 = .ok (.aload_n 0, 1) := by decide +kernel
theorem d_L_law_690 : decode code 690 = .ok (.iload_n 3, 1) := by decide +kernel
theorem d_L_law_691 : decode code 691 = .ok (.iconst 2, 1) := by decide +kernel
theorem d_L_law_692 : decode code 692 = .ok (.iadd, 1) := by decide +kernel
theorem d_L_law_693 : decode code 693 = .ok (.iaload, 1) := by decide +kernel
theorem d_L_law_694 : decode code 694 = .ok (.i2l, 1) := by decide +kernel
theorem d_L_law_695 : decode code 695 = .ok (.ldc2_w 13, 3) := by decide +kernel
theorem d_L_law_698 : decode code 698 = .ok (.land, 1) := by decide +kernel
theorem d_L_law_699 : decode code 699 = .ok (.lor, 1) := by decide +kernel
theorem d_L_law_700 : decode code 700 = .ok (.aload_n 0, 1) := by decide +kernel
theorem d_L_law_701 : decode code 701 = .ok (.iload_n 3, 1) := by decide +kernel
theorem d_L_law_702 : decode code 702 = .ok (.iconst 3, 1) := by decide +kernel
theorem d_L_law_703 : decode code 703 = .ok (.iadd, 1) := by decide +kernel
theorem d_L_law_704 : decode code 704 = .ok (.iaload, 1) := by decide +kernel
theorem d_L_law_705 : decode code 705 = .ok (.invokevirtual 76, 3) := by decide +kernel
theorem d_L_law_708 : decode code 708 = .ok (.if_icmp .eq 137, 3) := by decide +kernel
theorem d_L_law_711 : decode code 711 = .ok (.iconst 0, 1) := by decide +kernel
theorem d_L_law_712 : decode code 712 = .ok (.ireturn, 1) := by decide +kernel
theorem d_L_law_713 : decode code 713 = .ok (.aload_n 1, 1) := by decide +kernel
theorem d_L_law_714 : decode code 714 = .ok (.aload_n 0, 1) := by decide +kernel
theorem d_L_law_715 : decode code 715 = .ok (.iload_n 3, 1) := by decide +kernel
theorem d_L_law_716 : decode code 716 = .ok (.iconst 1, 1) := by decide +kernel
theorem d_L_law_717 : decode code 717 = .ok (.iadd, 1) := by decide +kernel
theorem d_L_law_718 : decode code 718 = .ok (.iaload, 1) := by decide +kernel
theorem d_L_law_719 : decode code 719 = .ok (.aload_n 0, 1) := by decide +kernel
theorem d_L_law_720 : decode code 720 = .ok (.iload_n 3, 1) := by decide +kernel
theorem d_L_law_721 : decode code 721 = .ok (.iconst 2, 1) := by decide +kernel
theorem d_L_law_722 : decode code 722 = .ok (.iadd, 1) := by decide +kernel
theorem d_L_law_723 : decode code 723 = .ok (.iaload, 1) := by decide +kernel
theorem d_L_law_724 : decode code 724 = .ok (.invokevirtual 77, 3) := by decide +kernel
theorem d_L_law_727 : decode code 727 = .ok (.aload_n 2, 1) := by decide +kernel
theorem d_L_law_728 : decode code 728 = .ok (.aload_n 0, 1) := by decide +kernel
theorem d_L_law_729 : decode code 729 = .ok (.iload_n 3, 1) := by decide +kernel
theorem d_L_law_730 : decode code 730 = .ok (.iconst 1, 1) := by decide +kernel
theorem d_L_law_731 : decode code 731 = .ok (.iadd, 1) := by decide +kernel
theorem d_L_law_732 : decode code 732 = .ok (.iaload, 1) := by decide +kernel
theorem d_L_law_733 : decode code 733 = .ok (.aload_n 0, 1) := by decide +kernel
theorem d_L_law_734 : decode code 734 = .ok (.iload_n 3, 1) := by decide +kernel
theorem d_L_law_735 : decode code 735 = .ok (.iconst 2, 1) := by decide +kernel
theorem d_L_law_736 : decode code 736 = .ok (.iadd, 1) := by decide +kernel
theorem d_L_law_737 : decode code 737 = .ok (.iaload, 1) := by decide +kernel
theorem d_L_law_738 : decode code 738 = .ok (.invokevirtual 80, 3) := by decide +kernel
theorem d_L_law_741 : decode code 741 = .ok (.if_icmp .eq 104, 3) := by decide +kernel
theorem d_L_law_744 : decode code 744 = .ok (.iconst 0, 1) := by decide +kernel
theorem d_L_law_745 : decode code 745 = .ok (.ireturn, 1) := by decide +kernel
theorem d_L_law_746 : decode code 746 = .ok (.aload_n 1, 1) := by decide +kernel
theorem d_L_law_747 : decode code 747 = .ok (.aload_n 0, 1) := by decide +kernel
theorem d_L_law_748 : decode code 748 = .ok (.iload_n 3, 1) := by decide +kernel
theorem d_L_law_749 : decode code 749 = .ok (.iconst 1, 1) := by decide +kernel
theorem d_L_law_750 : decode code 750 = .ok (.iadd, 1) := by decide +kernel
theorem d_L_law_751 : decode code 751 = .ok (.iaload, 1) := by decide +kernel
theorem d_L_law_752 : decode code 752 = .ok (.aload_n 0, 1) := by decide +kernel
theorem d_L_law_753 : decode code 753 = .ok (.iload_n 3, 1) := by decide +kernel
theorem d_L_law_754 : decode code 754 = .ok (.iconst 2, 1) := by decide +kernel
theorem d_L_law_755 : decode code 755 = .ok (.iadd, 1) := by decide +kernel
theorem d_L_law_756 : decode code 756 = .ok (.iaload, 1) := by decide +kernel
theorem d_L_law_757 : decode code 757 = .ok (.invokevirtual 81, 3) := by decide +kernel
theorem d_L_law_760 : decode code 760 = .ok (.aload_n 2, 1) := by decide +kernel
theorem d_L_law_761 : decode code 761 = .ok (.aload_n 0, 1) := by decide +kernel
theorem d_L_law_762 : decode code 762 = .ok (.iload_n 3, 1) := by decide +kernel
theorem d_L_law_763 : decode code 763 = .ok (.iconst 1, 1) := by decide +kernel
theorem d_L_law_764 : decode code 764 = .ok (.iadd, 1) := by decide +kernel
theorem d_L_law_765 : decode code 765 = .ok (.iaload, 1) := by decide +kernel
theorem d_L_law_766 : decode code 766 = .ok (.aload_n 0, 1) := by decide +kernel
theorem d_L_law_767 : decode code 767 = .ok (.iload_n 3, 1) := by decide +kernel
theorem d_L_law_768 : decode code 768 = .ok (.iconst 2, 1) := by decide +kernel
theorem d_L_law_769 : decode code 769 = .ok (.iadd, 1) := by decide +kernel
theorem d_L_law_770 : decode code 770 = .ok (.iaload, 1) := by decide +kernel
theorem d_L_law_771 : decode code 771 = .ok (.invokevirtual 84, 3) := by decide +kernel
theorem d_L_law_774 : decode code 774 = .ok (.if_icmp .eq 71, 3) := by decide +kernel
theorem d_L_law_777 : decode code 777 = .ok (.iconst 0, 1) := by decide +kernel
theorem d_L_law_778 : decode code 778 = .ok (.ireturn, 1) := by decide +kernel
theorem d_L_law_779 : decode code 779 = .ok (.aload_n 1, 1) := by decide +kernel
theorem d_L_law_780 : decode code 780 = .ok (.aload_n 0, 1) := by decide +kernel
theorem d_L_law_781 : decode code 781 = .ok (.iload_n 3, 1) := by decide +kernel
theorem d_L_law_782 : decode code 782 = .ok (.iconst 1, 1) := by decide +kernel
theorem d_L_law_783 : decode code 783 = .ok (.iadd, 1) := by decide +kernel
theorem d_L_law_784 : decode code 784 = .ok (.iaload, 1) := by decide +kernel
theorem d_L_law_785 : decode code 785 = .ok (.aload_n 0, 1) := by decide +kernel
theorem d_L_law_786 : decode code 786 = .ok (.iload_n 3, 1) := by decide +kernel
theorem d_L_law_787 : decode code 787 = .ok (.iconst 2, 1) := by decide +kernel
theorem d_L_law_788 : decode code 788 = .ok (.iadd, 1) := by decide +kernel
theorem d_L_law_789 : decode code 789 = .ok (.iaload, 1) := by decide +kernel
theorem d_L_law_790 : decode code 790 = .ok (.invokevirtual 85, 3) := by decide +kernel
theorem d_L_law_793 : decode code 793 = .ok (.aload_n 2, 1) := by decide +kernel
theorem d_L_law_794 : decode code 794 = .ok (.aload_n 0, 1) := by decide +kernel
theorem d_L_law_795 : decode code 795 = .ok (.iload_n 3, 1) := by decide +kernel
theorem d_L_law_796 : decode code 796 = .ok (.iconst 1, 1) := by decide +kernel
theorem d_L_law_797 : decode code 797 = .ok (.iadd, 1) := by decide +kernel
theorem d_L_law_798 : decode code 798 = .ok (.iaload, 1) := by decide +kernel
theorem d_L_law_799 : decode code 799 = .ok (.aload_n 0, 1) := by decide +kernel
theorem d_L_law_800 : decode code 800 = .ok (.iload_n 3, 1) := by decide +kernel
theorem d_L_law_801 : decode code 801 = .ok (.iconst 2, 1) := by decide +kernel
theorem d_L_law_802 : decode code 802 = .ok (.iadd, 1) := by decide +kernel
theorem d_L_law_803 : decode code 803 = .ok (.iaload, 1) := by decide +kernel
theorem d_L_law_804 : decode code 804 = .ok (.invokevirtual 88, 3) := by decide +kernel
theorem d_L_law_807 : decode code 807 = .ok (.if_icmp .eq 38, 3) := by decide +kernel
theorem d_L_law_810 : decode code 810 = .ok (.iconst 0, 1) := by decide +kernel
theorem d_L_law_811 : decode code 811 = .ok (.ireturn, 1) := by decide +kernel
theorem d_L_law_812 : decode code 812 = .ok (.aload_n 1, 1) := by decide +kernel
theorem d_L_law_813 : decode code 813 = .ok (.aload_n 0, 1) := by decide +kernel
theorem d_L_law_814 : decode code 814 = .ok (.iload_n 3, 1) := by decide +kernel
theorem d_L_law_815 : decode code 815 = .ok (.iconst 1, 1) := by decide +kernel
theorem d_L_law_816 : decode code 816 = .ok (.iadd, 1) := by decide +kernel
theorem d_L_law_817 : decode code 817 = .ok (.iaload, 1) := by decide +kernel
theorem d_L_law_818 : decode code 818 = .ok (.aload_n 0, 1) := by decide +kernel
theorem d_L_law_819 : decode code 819 = .ok (.iload_n 3, 1) := by decide +kernel
theorem d_L_law_820 : decode code 820 = .ok (.iconst 2, 1) := by decide +kernel
theorem d_L_law_821 : decode code 821 = .ok (.iadd, 1) := by decide +kernel
theorem d_L_law_822 : decode code 822 = .ok (.iaload, 1) := by decide +kernel
theorem d_L_law_823 : decode code 823 = .ok (.invokevirtual 89, 3) := by decide +kernel
theorem d_L_law_826 : decode code 826 = .ok (.aload_n 2, 1) := by decide +kernel
theorem d_L_law_827 : decode code 827 = .ok (.aload_n 0, 1) := by decide +kernel
theorem d_L_law_828 : decode code 828 = .ok (.iload_n 3, 1) := by decide +kernel
theorem d_L_law_829 : decode code 829 = .ok (.iconst 1, 1) := by decide +kernel
theorem d_L_law_830 : decode code 830 = .ok (.iadd, 1) := by decide +kernel
theorem d_L_law_831 : decode code 831 = .ok (.iaload, 1) := by decide +kernel
theorem d_L_law_832 : decode code 832 = .ok (.aload_n 0, 1) := by decide +kernel
theorem d_L_law_833 : decode code 833 = .ok (.iload_n 3, 1) := by decide +kernel
theorem d_L_law_834 : decode code 834 = .ok (.iconst 2, 1) := by decide +kernel
theorem d_L_law_835 : decode code 835 = .ok (.iadd, 1) := by decide +kernel
theorem d_L_law_836 : decode code 836 = .ok (.iaload, 1) := by decide +kernel
theorem d_L_law_837 : decode code 837 = .ok (.invokevirtual 92, 3) := by decide +kernel
theorem d_L_law_840 : decode code 840 = .ok (.if_icmp .eq 5, 3) := by decide +kernel
theorem d_L_law_843 : decode code 843 = .ok (.iconst 0, 1) := by decide +kernel
theorem d_L_law_844 : decode code 844 = .ok (.ireturn, 1) := by decide +kernel
theorem d_L_law_845 : decode code 845 = .ok (.iinc 3 7, 3) := by decide +kernel
theorem d_L_law_848 : decode code 848 = .ok (.goto (-830), 3) := by decide +kernel
theorem d_L_law_851 : decode code 851 = .ok (.iconst 1, 1) := by decide +kernel
theorem d_L_law_852 : decode code 852 = .ok (.ireturn, 1) := by decide +kernel
