def TB : List Cond := lw_tbl.filter goodWord
theorem t_0 {w : Cond} (h : w ∈ k2_sels lw_privs) (g : goodWord w = true) : w ∈ TB := List.mem_filter.mpr ⟨List.mem_append_left _ h, g⟩
theorem t_a {w : Cond} (h : w ∈ tables_1) (g : goodWord w = true) : w ∈ TB := List.mem_filter.mpr ⟨List.mem_append_right _ h, g⟩
theorem t_1 {w : Cond} (h : w ∈ tables_1_1) (g : goodWord w = true) : w ∈ TB := t_a (List.mem_append_left _ h) g
theorem t_2 {w : Cond} (h : w ∈ tables_1_2) (g : goodWord w = true) : w ∈ TB := t_a (List.mem_append_right _ (List.mem_append_left _ h)) g
theorem t_3 {w : Cond} (h : w ∈ tables_1_3) (g : goodWord w = true) : w ∈ TB := t_a (List.mem_append_right _ (List.mem_append_right _ (List.mem_append_left _ h))) g
theorem t_4 {w : Cond} (h : w ∈ tables_1_4) (g : goodWord w = true) : w ∈ TB := t_a (List.mem_append_right _ (List.mem_append_right _ (List.mem_append_right _ (List.mem_append_left _ h)))) g
theorem t_5 {w : Cond} (h : w ∈ tables_1_5) (g : goodWord w = true) : w ∈ TB := t_a (List.mem_append_right _ (List.mem_append_right _ (List.mem_append_right _ (List.mem_append_right _ (List.mem_append_left _ h))))) g
theorem t_6 {w : Cond} (h : w ∈ tables_1_6) (g : goodWord w = true) : w ∈ TB := t_a (List.mem_append_right _ (List.mem_append_right _ (List.mem_append_right _ (List.mem_append_right _ (List.mem_append_right _ (List.mem_append_left _ h)))))) g
theorem t_7 {w : Cond} (h : w ∈ tables_1_7) (g : goodWord w = true) : w ∈ TB := t_a (List.mem_append_right _ (List.mem_append_right _ (List.mem_append_right _ (List.mem_append_right _ (List.mem_append_right _ (List.mem_append_right _ h)))))) g
theorem qI_L : (.initialized RL : Cond) ∈ TB := t_1 (List.mem_of_getElem? (i := 0) rfl) rfl
theorem qI_X9 : (.initialized RX9 : Cond) ∈ TB := t_1 (List.mem_of_getElem? (i := 1) rfl) rfl
theorem qI_X8 : (.initialized RX8 : Cond) ∈ TB := t_1 (List.mem_of_getElem? (i := 2) rfl) rfl
theorem qI_X6 : (.initialized RX6 : Cond) ∈ TB := t_1 (List.mem_of_getElem? (i := 3) rfl) rfl
theorem qI_X1 : (.initialized RX1 : Cond) ∈ TB := t_1 (List.mem_of_getElem? (i := 4) rfl) rfl
theorem qI_X2 : (.initialized RX2 : Cond) ∈ TB := t_1 (List.mem_of_getElem? (i := 5) rfl) rfl
theorem qI_X7 : (.initialized RX7 : Cond) ∈ TB := t_1 (List.mem_of_getElem? (i := 6) rfl) rfl
theorem qI_X4 : (.initialized RX4 : Cond) ∈ TB := t_1 (List.mem_of_getElem? (i := 7) rfl) rfl
theorem qI_X5 : (.initialized RX5 : Cond) ∈ TB := t_1 (List.mem_of_getElem? (i := 8) rfl) rfl
theorem qI_X3 : (.initialized RX3 : Cond) ∈ TB := t_1 (List.mem_of_getElem? (i := 9) rfl) rfl
theorem qI_X0 : (.initialized RX0 : Cond) ∈ TB := t_1 (List.mem_of_getElem? (i := 10) rfl) rfl
theorem qI_X10 : (.initialized RX10 : Cond) ∈ TB := t_1 (List.mem_of_getElem? (i := 11) rfl) rfl
theorem qI_J9 : (.initialized RJ9 : Cond) ∈ TB := t_1 (List.mem_of_getElem? (i := 12) rfl) rfl
theorem qI_J10 : (.initialized RJ10 : Cond) ∈ TB := t_1 (List.mem_of_getElem? (i := 13) rfl) rfl
theorem qI_J7 : (.initialized RJ7 : Cond) ∈ TB := t_1 (List.mem_of_getElem? (i := 14) rfl) rfl
theorem qC_L_7 : (.classLink RL 7 RX9 : Cond) ∈ TB := t_1 (List.mem_of_getElem? (i := 15) rfl) rfl
theorem qT_X9 : (.instantiable RX9 5 : Cond) ∈ TB := t_1 (List.mem_of_getElem? (i := 16) rfl) rfl
theorem qM_L_9 : (.methodLink RL 9 yX9_init : Cond) ∈ TB := t_1 (List.mem_of_getElem? (i := 17) rfl) rfl
theorem qV_X9_init : (.instanceMethod yX9_init : Cond) ∈ TB := t_1 (List.mem_of_getElem? (i := 18) rfl) rfl
theorem qD_X9_init : (.code yX9_init cX9_init 1 none : Cond) ∈ TB := t_1 (List.mem_of_getElem? (i := 19) rfl) rfl
theorem qM_X9_1 : (.methodLink RX9 1 objectInit : Cond) ∈ TB := t_1 (List.mem_of_getElem? (i := 20) rfl) rfl
theorem qV_objectInit : (.instanceMethod objectInit : Cond) ∈ TB := t_1 (List.mem_of_getElem? (i := 21) rfl) rfl
theorem qD_objectInit : (.code objectInit ⟨#[0xb1]⟩ 1 none : Cond) ∈ TB := t_1 (List.mem_of_getElem? (i := 22) rfl) rfl
theorem qC_X9_7 : (.classLink RX9 7 RX8 : Cond) ∈ TB := t_1 (List.mem_of_getElem? (i := 23) rfl) rfl
theorem qT_X8 : (.instantiable RX8 8 : Cond) ∈ TB := t_1 (List.mem_of_getElem? (i := 24) rfl) rfl
theorem qM_X9_9 : (.methodLink RX9 9 yX8_init : Cond) ∈ TB := t_1 (List.mem_of_getElem? (i := 25) rfl) rfl
theorem qV_X8_init : (.instanceMethod yX8_init : Cond) ∈ TB := t_1 (List.mem_of_getElem? (i := 26) rfl) rfl
theorem qD_X8_init : (.code yX8_init cX8_init 2 none : Cond) ∈ TB := t_1 (List.mem_of_getElem? (i := 27) rfl) rfl
theorem qM_X8_3 : (.methodLink RX8 3 objectInit : Cond) ∈ TB := t_1 (List.mem_of_getElem? (i := 28) rfl) rfl
theorem qC_X8_9 : (.classLink RX8 9 RX6 : Cond) ∈ TB := t_1 (List.mem_of_getElem? (i := 29) rfl) rfl
theorem qT_X6 : (.instantiable RX6 10 : Cond) ∈ TB := t_1 (List.mem_of_getElem? (i := 30) rfl) rfl
theorem qN_X8_11 : (.methodLinkNest RX8 11 yX6_init RX9 : Cond) ∈ lw_tbl := List.mem_append_right (k2_sels lw_privs) (show _ ∈ tables_1 from (List.mem_append_left _ (List.mem_of_getElem? (i := 31) rfl)))
theorem qV_X6_init : (.instanceMethod yX6_init : Cond) ∈ TB := t_1 (List.mem_of_getElem? (i := 32) rfl) rfl
theorem qD_X6_init : (.code yX6_init cX6_init 1 none : Cond) ∈ TB := t_1 (List.mem_of_getElem? (i := 33) rfl) rfl
theorem qM_X6_3 : (.methodLink RX6 3 objectInit : Cond) ∈ TB := t_1 (List.mem_of_getElem? (i := 34) rfl) rfl
theorem qC_X6_9 : (.classLink RX6 9 RX1 : Cond) ∈ TB := t_1 (List.mem_of_getElem? (i := 35) rfl) rfl
theorem qT_X1 : (.instantiable RX1 13 : Cond) ∈ TB := t_1 (List.mem_of_getElem? (i := 36) rfl) rfl
theorem qN_X6_11 : (.methodLinkNest RX6 11 yX1_init RX9 : Cond) ∈ lw_tbl := List.mem_append_right (k2_sels lw_privs) (show _ ∈ tables_1 from (List.mem_append_left _ (List.mem_of_getElem? (i := 37) rfl)))
theorem qV_X1_init : (.instanceMethod yX1_init : Cond) ∈ TB := t_1 (List.mem_of_getElem? (i := 38) rfl) rfl
theorem qD_X1_init : (.code yX1_init cX1_init 1 none : Cond) ∈ TB := t_1 (List.mem_of_getElem? (i := 39) rfl) rfl
theorem qM_X1_3 : (.methodLink RX1 3 objectInit : Cond) ∈ TB := t_1 (List.mem_of_getElem? (i := 40) rfl) rfl
theorem qF_X1_9 : (.fieldLink RX1 9 "TwinOrders$Entries" "keys" "[I" : Cond) ∈ TB := t_1 (List.mem_of_getElem? (i := 41) rfl) rfl
theorem qF_X6_105 : (.fieldLink RX6 105 "TwinOrders$Entries" "keys" "[I" : Cond) ∈ TB := t_1 (List.mem_of_getElem? (i := 42) rfl) rfl
theorem qF_X0_118 : (.fieldLink RX0 118 "TwinOrders$Entries" "keys" "[I" : Cond) ∈ TB := t_1 (List.mem_of_getElem? (i := 43) rfl) rfl
theorem qF_X1_15 : (.fieldLink RX1 15 "TwinOrders$Entries" "values" "[I" : Cond) ∈ TB := t_1 (List.mem_of_getElem? (i := 44) rfl) rfl
theorem qF_X6_116 : (.fieldLink RX6 116 "TwinOrders$Entries" "values" "[I" : Cond) ∈ TB := t_1 (List.mem_of_getElem? (i := 45) rfl) rfl
theorem qF_X9_127 : (.fieldLink RX9 127 "TwinOrders$Entries" "values" "[I" : Cond) ∈ TB := t_1 (List.mem_of_getElem? (i := 46) rfl) rfl
theorem qF_X1_18 : (.fieldLink RX1 18 "TwinOrders$Entries" "weights" "[I" : Cond) ∈ TB := t_1 (List.mem_of_getElem? (i := 47) rfl) rfl
theorem qF_X6_119 : (.fieldLink RX6 119 "TwinOrders$Entries" "weights" "[I" : Cond) ∈ TB := t_1 (List.mem_of_getElem? (i := 48) rfl) rfl
theorem qF_X9_130 : (.fieldLink RX9 130 "TwinOrders$Entries" "weights" "[I" : Cond) ∈ TB := t_1 (List.mem_of_getElem? (i := 49) rfl) rfl
theorem qF_X1_21 : (.fieldLink RX1 21 "TwinOrders$Entries" "counts" "[I" : Cond) ∈ TB := t_1 (List.mem_of_getElem? (i := 50) rfl) rfl
theorem qF_X9_133 : (.fieldLink RX9 133 "TwinOrders$Entries" "counts" "[I" : Cond) ∈ TB := t_1 (List.mem_of_getElem? (i := 51) rfl) rfl
theorem qF_X1_24 : (.fieldLink RX1 24 "TwinOrders$Entries" "lasts" "[I" : Cond) ∈ TB := t_1 (List.mem_of_getElem? (i := 52) rfl) rfl
theorem qF_X0_111 : (.fieldLink RX0 111 "TwinOrders$Entries" "lasts" "[I" : Cond) ∈ TB := t_1 (List.mem_of_getElem? (i := 53) rfl) rfl
theorem qF_X9_136 : (.fieldLink RX9 136 "TwinOrders$Entries" "lasts" "[I" : Cond) ∈ TB := t_1 (List.mem_of_getElem? (i := 54) rfl) rfl
theorem qF_X1_27 : (.fieldLink RX1 27 "TwinOrders$Entries" "tills" "[I" : Cond) ∈ TB := t_1 (List.mem_of_getElem? (i := 55) rfl) rfl
theorem qF_X9_139 : (.fieldLink RX9 139 "TwinOrders$Entries" "tills" "[I" : Cond) ∈ TB := t_1 (List.mem_of_getElem? (i := 56) rfl) rfl
theorem qF_X1_30 : (.fieldLink RX1 30 "TwinOrders$Entries" "pinned" "[Z" : Cond) ∈ TB := t_1 (List.mem_of_getElem? (i := 57) rfl) rfl
theorem qF_X6_131 : (.fieldLink RX6 131 "TwinOrders$Entries" "pinned" "[Z" : Cond) ∈ TB := t_1 (List.mem_of_getElem? (i := 58) rfl) rfl
theorem qF_X9_142 : (.fieldLink RX9 142 "TwinOrders$Entries" "pinned" "[Z" : Cond) ∈ TB := t_1 (List.mem_of_getElem? (i := 59) rfl) rfl
theorem qF_X1_44 : (.fieldLink RX1 44 "TwinOrders$Entries" "size" "I" : Cond) ∈ TB := t_1 (List.mem_of_getElem? (i := 60) rfl) rfl
theorem qF_X6_135 : (.fieldLink RX6 135 "TwinOrders$Entries" "size" "I" : Cond) ∈ TB := t_1 (List.mem_of_getElem? (i := 61) rfl) rfl
theorem qF_X0_114 : (.fieldLink RX0 114 "TwinOrders$Entries" "size" "I" : Cond) ∈ TB := t_1 (List.mem_of_getElem? (i := 62) rfl) rfl
theorem qF_X9_121 : (.fieldLink RX9 121 "TwinOrders$Entries" "size" "I" : Cond) ∈ TB := t_1 (List.mem_of_getElem? (i := 63) rfl) rfl
theorem qF_X1_47 : (.fieldLink RX1 47 "TwinOrders$Entries" "load" "I" : Cond) ∈ TB := t_1 (List.mem_of_getElem? (i := 64) rfl) rfl
theorem qF_X6_136 : (.fieldLink RX6 136 "TwinOrders$Entries" "load" "I" : Cond) ∈ TB := t_1 (List.mem_of_getElem? (i := 65) rfl) rfl
theorem qF_X9_255 : (.fieldLink RX9 255 "TwinOrders$Entries" "load" "I" : Cond) ∈ TB := t_1 (List.mem_of_getElem? (i := 66) rfl) rfl
theorem qF_X1_50 : (.fieldLink RX1 50 "TwinOrders$Entries" "pinnedLoad" "I" : Cond) ∈ TB := t_1 (List.mem_of_getElem? (i := 67) rfl) rfl
theorem qF_X6_128 : (.fieldLink RX6 128 "TwinOrders$Entries" "pinnedLoad" "I" : Cond) ∈ TB := t_1 (List.mem_of_getElem? (i := 68) rfl) rfl
theorem qF_X9_247 : (.fieldLink RX9 247 "TwinOrders$Entries" "pinnedLoad" "I" : Cond) ∈ TB := t_1 (List.mem_of_getElem? (i := 69) rfl) rfl
theorem qF_X1_53 : (.fieldLink RX1 53 "TwinOrders$Entries" "uses" "I" : Cond) ∈ TB := t_1 (List.mem_of_getElem? (i := 70) rfl) rfl
theorem qF_X9_363 : (.fieldLink RX9 363 "TwinOrders$Entries" "uses" "I" : Cond) ∈ TB := t_1 (List.mem_of_getElem? (i := 71) rfl) rfl
theorem qF_X1_34 : (.fieldLink RX1 34 "TwinOrders$Entries" "aging" "I" : Cond) ∈ TB := t_1 (List.mem_of_getElem? (i := 72) rfl) rfl
theorem qF_X9_77 : (.fieldLink RX9 77 "TwinOrders$Entries" "aging" "I" : Cond) ∈ TB := t_1 (List.mem_of_getElem? (i := 73) rfl) rfl
theorem qF_X1_56 : (.fieldLink RX1 56 "TwinOrders$Entries" "halvings" "I" : Cond) ∈ TB := t_1 (List.mem_of_getElem? (i := 74) rfl) rfl
theorem qF_X9_286 : (.fieldLink RX9 286 "TwinOrders$Entries" "halvings" "I" : Cond) ∈ TB := t_1 (List.mem_of_getElem? (i := 75) rfl) rfl
theorem qA_I : (.arrayClass .int : Cond) ∈ TB := t_1 (List.mem_of_getElem? (i := 103) rfl) rfl
theorem qA_Z : (.arrayClass .boolean : Cond) ∈ TB := t_1 (List.mem_of_getElem? (i := 104) rfl) rfl
theorem qC_X6_18 : (.classLink RX6 18 RX2 : Cond) ∈ TB := t_1 (List.mem_of_getElem? (i := 105) rfl) rfl
theorem qT_X2 : (.instantiable RX2 2 : Cond) ∈ TB := t_1 (List.mem_of_getElem? (i := 106) rfl) rfl
theorem qN_X6_20 : (.methodLinkNest RX6 20 yX2_init RX9 : Cond) ∈ lw_tbl := List.mem_append_right (k2_sels lw_privs) (show _ ∈ tables_1 from (List.mem_append_left _ (List.mem_of_getElem? (i := 107) rfl)))
theorem qV_X2_init : (.instanceMethod yX2_init : Cond) ∈ TB := t_1 (List.mem_of_getElem? (i := 108) rfl) rfl
theorem qD_X2_init : (.code yX2_init cX2_init 1 none : Cond) ∈ TB := t_1 (List.mem_of_getElem? (i := 109) rfl) rfl
theorem qM_X2_3 : (.methodLink RX2 3 objectInit : Cond) ∈ TB := t_1 (List.mem_of_getElem? (i := 110) rfl) rfl
theorem qF_X2_9 : (.fieldLink RX2 9 "TwinOrders$Ghosts" "keys" "[I" : Cond) ∈ TB := t_1 (List.mem_of_getElem? (i := 111) rfl) rfl
theorem qF_X2_21 : (.fieldLink RX2 21 "TwinOrders$Ghosts" "size" "I" : Cond) ∈ TB := t_1 (List.mem_of_getElem? (i := 112) rfl) rfl
theorem qF_X6_72 : (.fieldLink RX6 72 "TwinOrders$Ghosts" "size" "I" : Cond) ∈ TB := t_1 (List.mem_of_getElem? (i := 113) rfl) rfl
theorem qC_X6_28 : (.classLink RX6 28 RX7 : Cond) ∈ TB := t_1 (List.mem_of_getElem? (i := 119) rfl) rfl
theorem qT_X7 : (.instantiable RX7 8 : Cond) ∈ TB := t_1 (List.mem_of_getElem? (i := 120) rfl) rfl
theorem qN_X6_30 : (.methodLinkNest RX6 30 yX7_init RX9 : Cond) ∈ lw_tbl := List.mem_append_right (k2_sels lw_privs) (show _ ∈ tables_1 from (List.mem_append_left _ (List.mem_of_getElem? (i := 121) rfl)))
theorem qV_X7_init : (.instanceMethod yX7_init : Cond) ∈ TB := t_1 (List.mem_of_getElem? (i := 122) rfl) rfl
theorem qD_X7_init : (.code yX7_init cX7_init 1 none : Cond) ∈ TB := t_1 (List.mem_of_getElem? (i := 123) rfl) rfl
theorem qM_X7_3 : (.methodLink RX7 3 objectInit : Cond) ∈ TB := t_1 (List.mem_of_getElem? (i := 124) rfl) rfl
theorem qF_X7_9 : (.fieldLink RX7 9 "TwinOrders$Waiting" "kinds" "[I" : Cond) ∈ TB := t_1 (List.mem_of_getElem? (i := 125) rfl) rfl
theorem qF_X8_115 : (.fieldLink RX8 115 "TwinOrders$Waiting" "kinds" "[I" : Cond) ∈ TB := t_1 (List.mem_of_getElem? (i := 126) rfl) rfl
theorem qF_X0_107 : (.fieldLink RX0 107 "TwinOrders$Waiting" "kinds" "[I" : Cond) ∈ TB := t_1 (List.mem_of_getElem? (i := 127) rfl) rfl
theorem qF_X9_284 : (.fieldLink RX9 284 "TwinOrders$Waiting" "kinds" "[I" : Cond) ∈ TB := t_1 (List.mem_of_getElem? (i := 128) rfl) rfl
theorem qF_X7_15 : (.fieldLink RX7 15 "TwinOrders$Waiting" "keys" "[I" : Cond) ∈ TB := t_1 (List.mem_of_getElem? (i := 129) rfl) rfl
theorem qF_X8_118 : (.fieldLink RX8 118 "TwinOrders$Waiting" "keys" "[I" : Cond) ∈ TB := t_1 (List.mem_of_getElem? (i := 130) rfl) rfl
theorem qF_X0_110 : (.fieldLink RX0 110 "TwinOrders$Waiting" "keys" "[I" : Cond) ∈ TB := t_1 (List.mem_of_getElem? (i := 131) rfl) rfl
theorem qF_X9_243 : (.fieldLink RX9 243 "TwinOrders$Waiting" "keys" "[I" : Cond) ∈ TB := t_1 (List.mem_of_getElem? (i := 132) rfl) rfl
theorem qF_X7_18 : (.fieldLink RX7 18 "TwinOrders$Waiting" "values" "[I" : Cond) ∈ TB := t_1 (List.mem_of_getElem? (i := 133) rfl) rfl
theorem qF_X8_144 : (.fieldLink RX8 144 "TwinOrders$Waiting" "values" "[I" : Cond) ∈ TB := t_1 (List.mem_of_getElem? (i := 134) rfl) rfl
theorem qF_X7_21 : (.fieldLink RX7 21 "TwinOrders$Waiting" "weights" "[I" : Cond) ∈ TB := t_1 (List.mem_of_getElem? (i := 135) rfl) rfl
theorem qF_X8_155 : (.fieldLink RX8 155 "TwinOrders$Waiting" "weights" "[I" : Cond) ∈ TB := t_1 (List.mem_of_getElem? (i := 136) rfl) rfl
theorem qF_X7_24 : (.fieldLink RX7 24 "TwinOrders$Waiting" "depths" "[I" : Cond) ∈ TB := t_1 (List.mem_of_getElem? (i := 137) rfl) rfl
theorem qF_X8_121 : (.fieldLink RX8 121 "TwinOrders$Waiting" "depths" "[I" : Cond) ∈ TB := t_1 (List.mem_of_getElem? (i := 138) rfl) rfl
theorem qF_X9_285 : (.fieldLink RX9 285 "TwinOrders$Waiting" "depths" "[I" : Cond) ∈ TB := t_1 (List.mem_of_getElem? (i := 139) rfl) rfl
theorem qF_X7_27 : (.fieldLink RX7 27 "TwinOrders$Waiting" "size" "I" : Cond) ∈ TB := t_1 (List.mem_of_getElem? (i := 140) rfl) rfl
theorem qF_X8_112 : (.fieldLink RX8 112 "TwinOrders$Waiting" "size" "I" : Cond) ∈ TB := t_1 (List.mem_of_getElem? (i := 141) rfl) rfl
theorem qF_X0_106 : (.fieldLink RX0 106 "TwinOrders$Waiting" "size" "I" : Cond) ∈ TB := t_1 (List.mem_of_getElem? (i := 142) rfl) rfl
theorem qF_X9_240 : (.fieldLink RX9 240 "TwinOrders$Waiting" "size" "I" : Cond) ∈ TB := t_1 (List.mem_of_getElem? (i := 143) rfl) rfl
theorem qF_X7_31 : (.fieldLink RX7 31 "TwinOrders$Waiting" "lost" "I" : Cond) ∈ TB := t_1 (List.mem_of_getElem? (i := 144) rfl) rfl
theorem qF_X8_167 : (.fieldLink RX8 167 "TwinOrders$Waiting" "lost" "I" : Cond) ∈ TB := t_1 (List.mem_of_getElem? (i := 145) rfl) rfl
theorem qF_X9_281 : (.fieldLink RX9 281 "TwinOrders$Waiting" "lost" "I" : Cond) ∈ TB := t_1 (List.mem_of_getElem? (i := 146) rfl) rfl
theorem qF_X7_34 : (.fieldLink RX7 34 "TwinOrders$Waiting" "depth" "I" : Cond) ∈ TB := t_1 (List.mem_of_getElem? (i := 147) rfl) rfl
theorem qF_X8_124 : (.fieldLink RX8 124 "TwinOrders$Waiting" "depth" "I" : Cond) ∈ TB := t_1 (List.mem_of_getElem? (i := 148) rfl) rfl
theorem qF_X6_12 : (.fieldLink RX6 12 "TwinOrders$Store" "entries" "LTwinOrders$Entries;" : Cond) ∈ TB := t_1 (List.mem_of_getElem? (i := 166) rfl) rfl
theorem qF_X9_73 : (.fieldLink RX9 73 "TwinOrders$Store" "entries" "LTwinOrders$Entries;" : Cond) ∈ TB := t_1 (List.mem_of_getElem? (i := 167) rfl) rfl
theorem qF_X8_99 : (.fieldLink RX8 99 "TwinOrders$Store" "entries" "LTwinOrders$Entries;" : Cond) ∈ TB := t_1 (List.mem_of_getElem? (i := 168) rfl) rfl
theorem qF_X0_78 : (.fieldLink RX0 78 "TwinOrders$Store" "entries" "LTwinOrders$Entries;" : Cond) ∈ TB := t_1 (List.mem_of_getElem? (i := 169) rfl) rfl
theorem qF_X6_21 : (.fieldLink RX6 21 "TwinOrders$Store" "young" "LTwinOrders$Ghosts;" : Cond) ∈ TB := t_1 (List.mem_of_getElem? (i := 170) rfl) rfl
theorem qF_X9_155 : (.fieldLink RX9 155 "TwinOrders$Store" "young" "LTwinOrders$Ghosts;" : Cond) ∈ TB := t_1 (List.mem_of_getElem? (i := 171) rfl) rfl
theorem qF_X6_25 : (.fieldLink RX6 25 "TwinOrders$Store" "old" "LTwinOrders$Ghosts;" : Cond) ∈ TB := t_1 (List.mem_of_getElem? (i := 172) rfl) rfl
theorem qF_X9_163 : (.fieldLink RX9 163 "TwinOrders$Store" "old" "LTwinOrders$Ghosts;" : Cond) ∈ TB := t_1 (List.mem_of_getElem? (i := 173) rfl) rfl
theorem qF_X6_31 : (.fieldLink RX6 31 "TwinOrders$Store" "waiting" "LTwinOrders$Waiting;" : Cond) ∈ TB := t_1 (List.mem_of_getElem? (i := 174) rfl) rfl
theorem qF_X8_69 : (.fieldLink RX8 69 "TwinOrders$Store" "waiting" "LTwinOrders$Waiting;" : Cond) ∈ TB := t_1 (List.mem_of_getElem? (i := 175) rfl) rfl
theorem qF_X0_69 : (.fieldLink RX0 69 "TwinOrders$Store" "waiting" "LTwinOrders$Waiting;" : Cond) ∈ TB := t_1 (List.mem_of_getElem? (i := 176) rfl) rfl
theorem qF_X9_236 : (.fieldLink RX9 236 "TwinOrders$Store" "waiting" "LTwinOrders$Waiting;" : Cond) ∈ TB := t_1 (List.mem_of_getElem? (i := 177) rfl) rfl
theorem qF_X6_35 : (.fieldLink RX6 35 "TwinOrders$Store" "happened" "[I" : Cond) ∈ TB := t_1 (List.mem_of_getElem? (i := 178) rfl) rfl
theorem qF_X8_95 : (.fieldLink RX8 95 "TwinOrders$Store" "happened" "[I" : Cond) ∈ TB := t_1 (List.mem_of_getElem? (i := 179) rfl) rfl
theorem qF_X9_347 : (.fieldLink RX9 347 "TwinOrders$Store" "happened" "[I" : Cond) ∈ TB := t_1 (List.mem_of_getElem? (i := 180) rfl) rfl
theorem qF_X6_59 : (.fieldLink RX6 59 "TwinOrders$Store" "got" "I" : Cond) ∈ TB := t_1 (List.mem_of_getElem? (i := 181) rfl) rfl
theorem qF_X9_369 : (.fieldLink RX9 369 "TwinOrders$Store" "got" "I" : Cond) ∈ TB := t_1 (List.mem_of_getElem? (i := 182) rfl) rfl
theorem qF_X6_39 : (.fieldLink RX6 39 "TwinOrders$Store" "cap" "I" : Cond) ∈ TB := t_1 (List.mem_of_getElem? (i := 183) rfl) rfl
theorem qF_X8_180 : (.fieldLink RX8 180 "TwinOrders$Store" "cap" "I" : Cond) ∈ TB := t_1 (List.mem_of_getElem? (i := 184) rfl) rfl
theorem qF_X9_244 : (.fieldLink RX9 244 "TwinOrders$Store" "cap" "I" : Cond) ∈ TB := t_1 (List.mem_of_getElem? (i := 185) rfl) rfl
theorem qF_X6_43 : (.fieldLink RX6 43 "TwinOrders$Store" "way" "I" : Cond) ∈ TB := t_1 (List.mem_of_getElem? (i := 186) rfl) rfl
theorem qF_X9_69 : (.fieldLink RX9 69 "TwinOrders$Store" "way" "I" : Cond) ∈ TB := t_1 (List.mem_of_getElem? (i := 187) rfl) rfl
theorem qF_X6_62 : (.fieldLink RX6 62 "TwinOrders$Store" "balance" "I" : Cond) ∈ TB := t_1 (List.mem_of_getElem? (i := 188) rfl) rfl
theorem qF_X9_360 : (.fieldLink RX9 360 "TwinOrders$Store" "balance" "I" : Cond) ∈ TB := t_1 (List.mem_of_getElem? (i := 189) rfl) rfl
theorem qF_X6_65 : (.fieldLink RX6 65 "TwinOrders$Store" "wentByTurns" "I" : Cond) ∈ TB := t_1 (List.mem_of_getElem? (i := 190) rfl) rfl
theorem qF_X9_373 : (.fieldLink RX9 373 "TwinOrders$Store" "wentByTurns" "I" : Cond) ∈ TB := t_1 (List.mem_of_getElem? (i := 191) rfl) rfl
theorem qC_X8_18 : (.classLink RX8 18 RX3 : Cond) ∈ TB := t_1 (List.mem_of_getElem? (i := 213) rfl) rfl
theorem qO_X3 : (.arrayOver (.object RX3) : Cond) ∈ lw_tbl := List.mem_append_right (k2_sels lw_privs) (show _ ∈ tables_1 from (List.mem_append_left _ (List.mem_of_getElem? (i := 214) rfl)))
theorem qC_X8_24 : (.classLink RX8 24 RX4 : Cond) ∈ TB := t_1 (List.mem_of_getElem? (i := 215) rfl) rfl
theorem qT_X4 : (.instantiable RX4 7 : Cond) ∈ TB := t_1 (List.mem_of_getElem? (i := 216) rfl) rfl
theorem qN_X8_26 : (.methodLinkNest RX8 26 yX4_init RX9 : Cond) ∈ lw_tbl := List.mem_append_right (k2_sels lw_privs) (show _ ∈ tables_1 from (List.mem_append_left _ (List.mem_of_getElem? (i := 217) rfl)))
theorem qV_X4_init : (.instanceMethod yX4_init : Cond) ∈ TB := t_1 (List.mem_of_getElem? (i := 218) rfl) rfl
theorem qD_X4_init : (.code yX4_init cX4_init 1 none : Cond) ∈ TB := t_1 (List.mem_of_getElem? (i := 219) rfl) rfl
theorem qM_X4_3 : (.methodLink RX4 3 objectInit : Cond) ∈ TB := t_1 (List.mem_of_getElem? (i := 220) rfl) rfl
theorem qF_X4_9 : (.fieldLink RX4 9 "TwinOrders$Log" "kinds" "[I" : Cond) ∈ TB := t_1 (List.mem_of_getElem? (i := 221) rfl) rfl
theorem qF_X9_194 : (.fieldLink RX9 194 "TwinOrders$Log" "kinds" "[I" : Cond) ∈ TB := t_1 (List.mem_of_getElem? (i := 222) rfl) rfl
theorem qF_X4_15 : (.fieldLink RX4 15 "TwinOrders$Log" "keys" "[I" : Cond) ∈ TB := t_1 (List.mem_of_getElem? (i := 223) rfl) rfl
theorem qF_X9_197 : (.fieldLink RX9 197 "TwinOrders$Log" "keys" "[I" : Cond) ∈ TB := t_1 (List.mem_of_getElem? (i := 224) rfl) rfl
theorem qF_X4_18 : (.fieldLink RX4 18 "TwinOrders$Log" "depths" "[I" : Cond) ∈ TB := t_1 (List.mem_of_getElem? (i := 225) rfl) rfl
theorem qF_X9_200 : (.fieldLink RX9 200 "TwinOrders$Log" "depths" "[I" : Cond) ∈ TB := t_1 (List.mem_of_getElem? (i := 226) rfl) rfl
theorem qF_X4_21 : (.fieldLink RX4 21 "TwinOrders$Log" "weights" "[I" : Cond) ∈ TB := t_1 (List.mem_of_getElem? (i := 227) rfl) rfl
theorem qF_X9_203 : (.fieldLink RX9 203 "TwinOrders$Log" "weights" "[I" : Cond) ∈ TB := t_1 (List.mem_of_getElem? (i := 228) rfl) rfl
theorem qF_X4_24 : (.fieldLink RX4 24 "TwinOrders$Log" "hearers" "[I" : Cond) ∈ TB := t_1 (List.mem_of_getElem? (i := 229) rfl) rfl
theorem qF_X9_204 : (.fieldLink RX9 204 "TwinOrders$Log" "hearers" "[I" : Cond) ∈ TB := t_1 (List.mem_of_getElem? (i := 230) rfl) rfl
theorem qF_X4_33 : (.fieldLink RX4 33 "TwinOrders$Log" "size" "I" : Cond) ∈ TB := t_1 (List.mem_of_getElem? (i := 231) rfl) rfl
theorem qF_X4_37 : (.fieldLink RX4 37 "TwinOrders$Log" "next" "I" : Cond) ∈ TB := t_1 (List.mem_of_getElem? (i := 232) rfl) rfl
theorem qC_X8_31 : (.classLink RX8 31 RX5 : Cond) ∈ TB := t_2 (List.mem_of_getElem? (i := 8) rfl) rfl
theorem qT_X5 : (.instantiable RX5 2 : Cond) ∈ TB := t_2 (List.mem_of_getElem? (i := 9) rfl) rfl
theorem qN_X8_33 : (.methodLinkNest RX8 33 yX5_init RX9 : Cond) ∈ lw_tbl := List.mem_append_right (k2_sels lw_privs) (show _ ∈ tables_1 from (List.mem_append_right _ (List.mem_append_left _ (List.mem_of_getElem? (i := 10) rfl))))
theorem qV_X5_init : (.instanceMethod yX5_init : Cond) ∈ TB := t_2 (List.mem_of_getElem? (i := 11) rfl) rfl
theorem qD_X5_init : (.code yX5_init cX5_init 1 none : Cond) ∈ TB := t_2 (List.mem_of_getElem? (i := 12) rfl) rfl
theorem qM_X5_3 : (.methodLink RX5 3 objectInit : Cond) ∈ TB := t_2 (List.mem_of_getElem? (i := 13) rfl) rfl
theorem qF_X5_9 : (.fieldLink RX5 9 "TwinOrders$Requests" "keys" "[I" : Cond) ∈ TB := t_2 (List.mem_of_getElem? (i := 14) rfl) rfl
theorem qF_X0_41 : (.fieldLink RX0 41 "TwinOrders$Requests" "keys" "[I" : Cond) ∈ TB := t_2 (List.mem_of_getElem? (i := 15) rfl) rfl
theorem qF_X9_214 : (.fieldLink RX9 214 "TwinOrders$Requests" "keys" "[I" : Cond) ∈ TB := t_2 (List.mem_of_getElem? (i := 16) rfl) rfl
theorem qF_X0_34 : (.fieldLink RX0 34 "TwinOrders$Requests" "size" "I" : Cond) ∈ TB := t_2 (List.mem_of_getElem? (i := 17) rfl) rfl
theorem qF_X5_21 : (.fieldLink RX5 21 "TwinOrders$Requests" "size" "I" : Cond) ∈ TB := t_2 (List.mem_of_getElem? (i := 18) rfl) rfl
theorem qF_X9_211 : (.fieldLink RX9 211 "TwinOrders$Requests" "size" "I" : Cond) ∈ TB := t_2 (List.mem_of_getElem? (i := 19) rfl) rfl
theorem qT_X3 : (.instantiable RX3 9 : Cond) ∈ TB := t_2 (List.mem_of_getElem? (i := 25) rfl) rfl
theorem qN_X8_38 : (.methodLinkNest RX8 38 yX3_init RX9 : Cond) ∈ lw_tbl := List.mem_append_right (k2_sels lw_privs) (show _ ∈ tables_1 from (List.mem_append_right _ (List.mem_append_left _ (List.mem_of_getElem? (i := 26) rfl))))
theorem qV_X3_init : (.instanceMethod yX3_init : Cond) ∈ TB := t_2 (List.mem_of_getElem? (i := 27) rfl) rfl
theorem qD_X3_init : (.code yX3_init cX3_init 1 none : Cond) ∈ TB := t_2 (List.mem_of_getElem? (i := 28) rfl) rfl
theorem qM_X3_3 : (.methodLink RX3 3 objectInit : Cond) ∈ TB := t_2 (List.mem_of_getElem? (i := 29) rfl) rfl
theorem qF_X3_15 : (.fieldLink RX3 15 "TwinOrders$Listener" "kind" "I" : Cond) ∈ TB := t_2 (List.mem_of_getElem? (i := 30) rfl) rfl
theorem qF_X3_9 : (.fieldLink RX3 9 "TwinOrders$Listener" "divisor" "I" : Cond) ∈ TB := t_2 (List.mem_of_getElem? (i := 31) rfl) rfl
theorem qF_X3_18 : (.fieldLink RX3 18 "TwinOrders$Listener" "rest" "I" : Cond) ∈ TB := t_2 (List.mem_of_getElem? (i := 32) rfl) rfl
theorem qF_X3_21 : (.fieldLink RX3 21 "TwinOrders$Listener" "act" "I" : Cond) ∈ TB := t_2 (List.mem_of_getElem? (i := 33) rfl) rfl
theorem qF_X8_171 : (.fieldLink RX8 171 "TwinOrders$Listener" "act" "I" : Cond) ∈ TB := t_2 (List.mem_of_getElem? (i := 34) rfl) rfl
theorem qF_X3_24 : (.fieldLink RX3 24 "TwinOrders$Listener" "shift" "I" : Cond) ∈ TB := t_2 (List.mem_of_getElem? (i := 35) rfl) rfl
theorem qF_X8_183 : (.fieldLink RX8 183 "TwinOrders$Listener" "shift" "I" : Cond) ∈ TB := t_2 (List.mem_of_getElem? (i := 36) rfl) rfl
theorem qF_X3_27 : (.fieldLink RX3 27 "TwinOrders$Listener" "weight" "I" : Cond) ∈ TB := t_2 (List.mem_of_getElem? (i := 37) rfl) rfl
theorem qF_X8_173 : (.fieldLink RX8 173 "TwinOrders$Listener" "weight" "I" : Cond) ∈ TB := t_2 (List.mem_of_getElem? (i := 38) rfl) rfl
theorem qF_X3_30 : (.fieldLink RX3 30 "TwinOrders$Listener" "on" "Z" : Cond) ∈ TB := t_2 (List.mem_of_getElem? (i := 39) rfl) rfl
theorem qF_X8_127 : (.fieldLink RX8 127 "TwinOrders$Listener" "on" "Z" : Cond) ∈ TB := t_2 (List.mem_of_getElem? (i := 40) rfl) rfl
theorem qF_X9_102 : (.fieldLink RX9 102 "TwinOrders$Listener" "on" "Z" : Cond) ∈ TB := t_2 (List.mem_of_getElem? (i := 41) rfl) rfl
theorem qF_X3_34 : (.fieldLink RX3 34 "TwinOrders$Listener" "heardSoFar" "I" : Cond) ∈ TB := t_2 (List.mem_of_getElem? (i := 42) rfl) rfl
theorem qF_X8_138 : (.fieldLink RX8 138 "TwinOrders$Listener" "heardSoFar" "I" : Cond) ∈ TB := t_2 (List.mem_of_getElem? (i := 43) rfl) rfl
theorem qF_X9_179 : (.fieldLink RX9 179 "TwinOrders$Listener" "heardSoFar" "I" : Cond) ∈ TB := t_2 (List.mem_of_getElem? (i := 44) rfl) rfl
theorem qF_X3_37 : (.fieldLink RX3 37 "TwinOrders$Listener" "didSoFar" "I" : Cond) ∈ TB := t_2 (List.mem_of_getElem? (i := 45) rfl) rfl
theorem qF_X8_141 : (.fieldLink RX8 141 "TwinOrders$Listener" "didSoFar" "I" : Cond) ∈ TB := t_2 (List.mem_of_getElem? (i := 46) rfl) rfl
theorem qF_X9_182 : (.fieldLink RX9 182 "TwinOrders$Listener" "didSoFar" "I" : Cond) ∈ TB := t_2 (List.mem_of_getElem? (i := 47) rfl) rfl
theorem qF_X8_12 : (.fieldLink RX8 12 "TwinOrders$World" "store" "LTwinOrders$Store;" : Cond) ∈ TB := t_2 (List.mem_of_getElem? (i := 67) rfl) rfl
theorem qF_X9_56 : (.fieldLink RX9 56 "TwinOrders$World" "store" "LTwinOrders$Store;" : Cond) ∈ TB := t_2 (List.mem_of_getElem? (i := 68) rfl) rfl
theorem qF_X8_20 : (.fieldLink RX8 20 "TwinOrders$World" "listeners" "[LTwinOrders$Listener;" : Cond) ∈ TB := t_2 (List.mem_of_getElem? (i := 69) rfl) rfl
theorem qF_X9_88 : (.fieldLink RX9 88 "TwinOrders$World" "listeners" "[LTwinOrders$Listener;" : Cond) ∈ TB := t_2 (List.mem_of_getElem? (i := 70) rfl) rfl
theorem qF_X8_27 : (.fieldLink RX8 27 "TwinOrders$World" "log" "LTwinOrders$Log;" : Cond) ∈ TB := t_2 (List.mem_of_getElem? (i := 71) rfl) rfl
theorem qF_X9_185 : (.fieldLink RX9 185 "TwinOrders$World" "log" "LTwinOrders$Log;" : Cond) ∈ TB := t_2 (List.mem_of_getElem? (i := 72) rfl) rfl
theorem qF_X8_34 : (.fieldLink RX8 34 "TwinOrders$World" "requests" "LTwinOrders$Requests;" : Cond) ∈ TB := t_2 (List.mem_of_getElem? (i := 73) rfl) rfl
theorem qF_X9_207 : (.fieldLink RX9 207 "TwinOrders$World" "requests" "LTwinOrders$Requests;" : Cond) ∈ TB := t_2 (List.mem_of_getElem? (i := 74) rfl) rfl
theorem qF_X8_52 : (.fieldLink RX8 52 "TwinOrders$World" "listenerCount" "I" : Cond) ∈ TB := t_2 (List.mem_of_getElem? (i := 75) rfl) rfl
theorem qF_X9_85 : (.fieldLink RX9 85 "TwinOrders$World" "listenerCount" "I" : Cond) ∈ TB := t_2 (List.mem_of_getElem? (i := 76) rfl) rfl
theorem qF_X8_56 : (.fieldLink RX8 56 "TwinOrders$World" "ticks" "I" : Cond) ∈ TB := t_2 (List.mem_of_getElem? (i := 77) rfl) rfl
theorem qF_X9_366 : (.fieldLink RX9 366 "TwinOrders$World" "ticks" "I" : Cond) ∈ TB := t_2 (List.mem_of_getElem? (i := 78) rfl) rfl
theorem qF_X8_59 : (.fieldLink RX8 59 "TwinOrders$World" "lost" "I" : Cond) ∈ TB := t_2 (List.mem_of_getElem? (i := 79) rfl) rfl
theorem qF_X9_372 : (.fieldLink RX9 372 "TwinOrders$World" "lost" "I" : Cond) ∈ TB := t_2 (List.mem_of_getElem? (i := 80) rfl) rfl
theorem qF_X8_62 : (.fieldLink RX8 62 "TwinOrders$World" "deepest" "I" : Cond) ∈ TB := t_2 (List.mem_of_getElem? (i := 81) rfl) rfl
theorem qF_X9_376 : (.fieldLink RX9 376 "TwinOrders$World" "deepest" "I" : Cond) ∈ TB := t_2 (List.mem_of_getElem? (i := 82) rfl) rfl
theorem qO_X8 : (.arrayOver (.object RX8) : Cond) ∈ lw_tbl := List.mem_append_right (k2_sels lw_privs) (show _ ∈ tables_1 from (List.mem_append_right _ (List.mem_append_left _ (List.mem_of_getElem? (i := 100) rfl))))
theorem qC_X9_23 : (.classLink RX9 23 RX0 : Cond) ∈ TB := t_2 (List.mem_of_getElem? (i := 101) rfl) rfl
theorem qT_X0 : (.instantiable RX0 9 : Cond) ∈ TB := t_2 (List.mem_of_getElem? (i := 102) rfl) rfl
theorem qN_X9_25 : (.methodLinkNest RX9 25 yX0_init RX9 : Cond) ∈ lw_tbl := List.mem_append_right (k2_sels lw_privs) (show _ ∈ tables_1 from (List.mem_append_right _ (List.mem_append_left _ (List.mem_of_getElem? (i := 103) rfl))))
theorem qV_X0_init : (.instanceMethod yX0_init : Cond) ∈ TB := t_2 (List.mem_of_getElem? (i := 104) rfl) rfl
theorem qD_X0_init : (.code yX0_init cX0_init 1 none : Cond) ∈ TB := t_2 (List.mem_of_getElem? (i := 105) rfl) rfl
theorem qM_X0_3 : (.methodLink RX0 3 objectInit : Cond) ∈ TB := t_2 (List.mem_of_getElem? (i := 106) rfl) rfl
theorem qC_X0_9 : (.classLink RX0 9 RX6 : Cond) ∈ TB := t_2 (List.mem_of_getElem? (i := 107) rfl) rfl
theorem qN_X0_11 : (.methodLinkNest RX0 11 yX6_init RX9 : Cond) ∈ lw_tbl := List.mem_append_right (k2_sels lw_privs) (show _ ∈ tables_1 from (List.mem_append_right _ (List.mem_append_left _ (List.mem_of_getElem? (i := 108) rfl))))
theorem qF_X0_12 : (.fieldLink RX0 12 "TwinOrders$Anew" "store" "LTwinOrders$Store;" : Cond) ∈ TB := t_2 (List.mem_of_getElem? (i := 109) rfl) rfl
theorem qF_X9_346 : (.fieldLink RX9 346 "TwinOrders$Anew" "store" "LTwinOrders$Store;" : Cond) ∈ TB := t_2 (List.mem_of_getElem? (i := 110) rfl) rfl
theorem qF_X0_18 : (.fieldLink RX0 18 "TwinOrders$Anew" "keys" "[I" : Cond) ∈ TB := t_2 (List.mem_of_getElem? (i := 111) rfl) rfl
theorem qF_X9_314 : (.fieldLink RX9 314 "TwinOrders$Anew" "keys" "[I" : Cond) ∈ TB := t_2 (List.mem_of_getElem? (i := 112) rfl) rfl
theorem qF_X0_22 : (.fieldLink RX0 22 "TwinOrders$Anew" "nexts" "[I" : Cond) ∈ TB := t_2 (List.mem_of_getElem? (i := 113) rfl) rfl
theorem qF_X0_25 : (.fieldLink RX0 25 "TwinOrders$Anew" "often" "[I" : Cond) ∈ TB := t_2 (List.mem_of_getElem? (i := 114) rfl) rfl
theorem qF_X9_315 : (.fieldLink RX9 315 "TwinOrders$Anew" "often" "[I" : Cond) ∈ TB := t_2 (List.mem_of_getElem? (i := 115) rfl) rfl
theorem qF_X0_28 : (.fieldLink RX0 28 "TwinOrders$Anew" "gone" "[I" : Cond) ∈ TB := t_2 (List.mem_of_getElem? (i := 116) rfl) rfl
theorem qF_X0_31 : (.fieldLink RX0 31 "TwinOrders$Anew" "shared" "[I" : Cond) ∈ TB := t_2 (List.mem_of_getElem? (i := 117) rfl) rfl
theorem qF_X9_331 : (.fieldLink RX9 331 "TwinOrders$Anew" "shared" "[I" : Cond) ∈ TB := t_2 (List.mem_of_getElem? (i := 118) rfl) rfl
theorem qF_X0_40 : (.fieldLink RX0 40 "TwinOrders$Anew" "size" "I" : Cond) ∈ TB := t_2 (List.mem_of_getElem? (i := 119) rfl) rfl
theorem qF_X9_318 : (.fieldLink RX9 318 "TwinOrders$Anew" "size" "I" : Cond) ∈ TB := t_2 (List.mem_of_getElem? (i := 120) rfl) rfl
theorem qF_X0_66 : (.fieldLink RX0 66 "TwinOrders$Anew" "hits" "I" : Cond) ∈ TB := t_2 (List.mem_of_getElem? (i := 121) rfl) rfl
theorem qF_X9_343 : (.fieldLink RX9 343 "TwinOrders$Anew" "hits" "I" : Cond) ∈ TB := t_2 (List.mem_of_getElem? (i := 122) rfl) rfl
theorem qF_X0_128 : (.fieldLink RX0 128 "TwinOrders$Anew" "sharedSize" "I" : Cond) ∈ TB := t_2 (List.mem_of_getElem? (i := 123) rfl) rfl
theorem qF_X9_328 : (.fieldLink RX9 328 "TwinOrders$Anew" "sharedSize" "I" : Cond) ∈ TB := t_2 (List.mem_of_getElem? (i := 124) rfl) rfl
theorem qF_X9_10 : (.fieldLink RX9 10 "TwinOrders" "now" "LTwinOrders$World;" : Cond) ∈ TB := t_2 (List.mem_of_getElem? (i := 144) rfl) rfl
theorem qF_X9_16 : (.fieldLink RX9 16 "TwinOrders" "paper" "LTwinOrders$World;" : Cond) ∈ TB := t_2 (List.mem_of_getElem? (i := 145) rfl) rfl
theorem qF_X9_19 : (.fieldLink RX9 19 "TwinOrders" "images" "[LTwinOrders$World;" : Cond) ∈ TB := t_2 (List.mem_of_getElem? (i := 146) rfl) rfl
theorem qF_X9_26 : (.fieldLink RX9 26 "TwinOrders" "anew" "LTwinOrders$Anew;" : Cond) ∈ TB := t_2 (List.mem_of_getElem? (i := 147) rfl) rfl
theorem qF_X9_30 : (.fieldLink RX9 30 "TwinOrders" "packed" "[I" : Cond) ∈ TB := t_2 (List.mem_of_getElem? (i := 148) rfl) rfl
theorem qM_L_13 : (.methodLink RL 13 yX9_put : Cond) ∈ TB := t_2 (List.mem_of_getElem? (i := 160) rfl) rfl
theorem qV_X9_put : (.instanceMethod yX9_put : Cond) ∈ TB := t_2 (List.mem_of_getElem? (i := 161) rfl) rfl
theorem qL_X9_put : (.selects RX9 yX9_put yX9_put : Cond) ∈ TB := t_2 (List.mem_of_getElem? (i := 162) rfl) rfl
theorem qD_X9_put : (.code yX9_put cX9_put 5 (some .int) : Cond) ∈ TB := t_2 (List.mem_of_getElem? (i := 163) rfl) rfl
theorem qM_X9_34 : (.methodLink RX9 34 yX9_isKey : Cond) ∈ TB := t_2 (List.mem_of_getElem? (i := 164) rfl) rfl
theorem qS_X9_isKey : (.static yX9_isKey : Cond) ∈ TB := t_2 (List.mem_of_getElem? (i := 165) rfl) rfl
theorem qD_X9_isKey : (.code yX9_isKey cX9_isKey 1 (some .boolean) : Cond) ∈ TB := t_2 (List.mem_of_getElem? (i := 166) rfl) rfl
theorem qM_X9_41 : (.methodLink RX9 41 yX9_within : Cond) ∈ TB := t_2 (List.mem_of_getElem? (i := 167) rfl) rfl
theorem qS_X9_within : (.static yX9_within : Cond) ∈ TB := t_2 (List.mem_of_getElem? (i := 168) rfl) rfl
theorem qD_X9_within : (.code yX9_within cX9_within 3 (some .boolean) : Cond) ∈ TB := t_2 (List.mem_of_getElem? (i := 169) rfl) rfl
theorem qM_X9_38 : (.methodLink RX9 38 yX9_isWeight : Cond) ∈ TB := t_2 (List.mem_of_getElem? (i := 170) rfl) rfl
theorem qS_X9_isWeight : (.static yX9_isWeight : Cond) ∈ TB := t_2 (List.mem_of_getElem? (i := 171) rfl) rfl
theorem qD_X9_isWeight : (.code yX9_isWeight cX9_isWeight 1 (some .boolean) : Cond) ∈ TB := t_2 (List.mem_of_getElem? (i := 172) rfl) rfl
theorem qM_X9_45 : (.methodLink RX9 45 yX8_callPut : Cond) ∈ TB := t_2 (List.mem_of_getElem? (i := 173) rfl) rfl
theorem qV_X8_callPut : (.instanceMethod yX8_callPut : Cond) ∈ TB := t_2 (List.mem_of_getElem? (i := 174) rfl) rfl
theorem qL_X8_callPut : (.selects RX8 yX8_callPut yX8_callPut : Cond) ∈ TB := t_2 (List.mem_of_getElem? (i := 175) rfl) rfl
theorem qD_X8_callPut : (.code yX8_callPut cX8_callPut 6 (some .int) : Cond) ∈ TB := t_2 (List.mem_of_getElem? (i := 176) rfl) rfl
theorem qM_X8_65 : (.methodLink RX8 65 yX5_add : Cond) ∈ TB := t_2 (List.mem_of_getElem? (i := 177) rfl) rfl
theorem qV_X5_add : (.instanceMethod yX5_add : Cond) ∈ TB := t_2 (List.mem_of_getElem? (i := 178) rfl) rfl
theorem qL_X5_add : (.selects RX5 yX5_add yX5_add : Cond) ∈ TB := t_2 (List.mem_of_getElem? (i := 179) rfl) rfl
theorem qD_X5_add : (.code yX5_add cX5_add 3 none : Cond) ∈ TB := t_2 (List.mem_of_getElem? (i := 180) rfl) rfl
theorem qM_X8_73 : (.methodLink RX8 73 yX7_open : Cond) ∈ TB := t_2 (List.mem_of_getElem? (i := 181) rfl) rfl
theorem qV_X7_open : (.instanceMethod yX7_open : Cond) ∈ TB := t_2 (List.mem_of_getElem? (i := 182) rfl) rfl
theorem qL_X7_open : (.selects RX7 yX7_open yX7_open : Cond) ∈ TB := t_2 (List.mem_of_getElem? (i := 183) rfl) rfl
theorem qD_X7_open : (.code yX7_open cX7_open 1 none : Cond) ∈ TB := t_2 (List.mem_of_getElem? (i := 184) rfl) rfl
theorem qM_X8_78 : (.methodLink RX8 78 yX6_bring : Cond) ∈ TB := t_2 (List.mem_of_getElem? (i := 185) rfl) rfl
theorem qV_X6_bring : (.instanceMethod yX6_bring : Cond) ∈ TB := t_2 (List.mem_of_getElem? (i := 186) rfl) rfl
theorem qL_X6_bring : (.selects RX6 yX6_bring yX6_bring : Cond) ∈ TB := t_2 (List.mem_of_getElem? (i := 187) rfl) rfl
theorem qD_X6_bring : (.code yX6_bring cX6_bring 7 (some .int) : Cond) ∈ TB := t_2 (List.mem_of_getElem? (i := 188) rfl) rfl
theorem qM_X6_147 : (.methodLink RX6 147 yX1_find : Cond) ∈ TB := t_2 (List.mem_of_getElem? (i := 189) rfl) rfl
theorem qV_X1_find : (.instanceMethod yX1_find : Cond) ∈ TB := t_2 (List.mem_of_getElem? (i := 190) rfl) rfl
theorem qL_X1_find : (.selects RX1 yX1_find yX1_find : Cond) ∈ TB := t_2 (List.mem_of_getElem? (i := 191) rfl) rfl
theorem qD_X1_find : (.code yX1_find cX1_find 3 (some .int) : Cond) ∈ TB := t_2 (List.mem_of_getElem? (i := 192) rfl) rfl
theorem qM_X6_150 : (.methodLink RX6 150 yX6_rejects : Cond) ∈ TB := t_2 (List.mem_of_getElem? (i := 193) rfl) rfl
theorem qV_X6_rejects : (.instanceMethod yX6_rejects : Cond) ∈ TB := t_2 (List.mem_of_getElem? (i := 194) rfl) rfl
theorem qL_X6_rejects : (.selects RX6 yX6_rejects yX6_rejects : Cond) ∈ TB := t_2 (List.mem_of_getElem? (i := 195) rfl) rfl
theorem qD_X6_rejects : (.code yX6_rejects cX6_rejects 4 (some .boolean) : Cond) ∈ TB := t_2 (List.mem_of_getElem? (i := 196) rfl) rfl
theorem qM_X6_101 : (.methodLink RX6 101 yX1_has : Cond) ∈ TB := t_2 (List.mem_of_getElem? (i := 197) rfl) rfl
theorem qV_X1_has : (.instanceMethod yX1_has : Cond) ∈ TB := t_2 (List.mem_of_getElem? (i := 198) rfl) rfl
theorem qL_X1_has : (.selects RX1 yX1_has yX1_has : Cond) ∈ TB := t_2 (List.mem_of_getElem? (i := 199) rfl) rfl
theorem qD_X1_has : (.code yX1_has cX1_has 2 (some .boolean) : Cond) ∈ TB := t_2 (List.mem_of_getElem? (i := 200) rfl) rfl
theorem qM_X6_85 : (.methodLink RX6 85 yX1_first : Cond) ∈ TB := t_2 (List.mem_of_getElem? (i := 201) rfl) rfl
theorem qV_X1_first : (.instanceMethod yX1_first : Cond) ∈ TB := t_2 (List.mem_of_getElem? (i := 202) rfl) rfl
theorem qL_X1_first : (.selects RX1 yX1_first yX1_first : Cond) ∈ TB := t_2 (List.mem_of_getElem? (i := 203) rfl) rfl
theorem qD_X1_first : (.code yX1_first cX1_first 5 (some .int) : Cond) ∈ TB := t_2 (List.mem_of_getElem? (i := 204) rfl) rfl
theorem qM_X1_83 : (.methodLink RX1 83 yX1_mayGo : Cond) ∈ TB := t_2 (List.mem_of_getElem? (i := 205) rfl) rfl
theorem qV_X1_mayGo : (.instanceMethod yX1_mayGo : Cond) ∈ TB := t_2 (List.mem_of_getElem? (i := 207) rfl) rfl
theorem qD_X1_mayGo : (.code yX1_mayGo cX1_mayGo 3 (some .boolean) : Cond) ∈ TB := t_2 (List.mem_of_getElem? (i := 208) rfl) rfl
theorem qM_X1_76 : (.methodLink RX1 76 yX1_precedes : Cond) ∈ TB := t_2 (List.mem_of_getElem? (i := 209) rfl) rfl
theorem qV_X1_precedes : (.instanceMethod yX1_precedes : Cond) ∈ TB := t_2 (List.mem_of_getElem? (i := 211) rfl) rfl
theorem qD_X1_precedes : (.code yX1_precedes cX1_precedes 4 (some .boolean) : Cond) ∈ TB := t_2 (List.mem_of_getElem? (i := 212) rfl) rfl
theorem qM_X6_122 : (.methodLink RX6 122 yX6_tell : Cond) ∈ TB := t_2 (List.mem_of_getElem? (i := 213) rfl) rfl
theorem qV_X6_tell : (.instanceMethod yX6_tell : Cond) ∈ TB := t_2 (List.mem_of_getElem? (i := 215) rfl) rfl
theorem qD_X6_tell : (.code yX6_tell cX6_tell 5 none : Cond) ∈ TB := t_2 (List.mem_of_getElem? (i := 216) rfl) rfl
theorem qM_X6_81 : (.methodLink RX6 81 yX7_add : Cond) ∈ TB := t_2 (List.mem_of_getElem? (i := 217) rfl) rfl
theorem qV_X7_add : (.instanceMethod yX7_add : Cond) ∈ TB := t_2 (List.mem_of_getElem? (i := 218) rfl) rfl
theorem qL_X7_add : (.selects RX7 yX7_add yX7_add : Cond) ∈ TB := t_2 (List.mem_of_getElem? (i := 219) rfl) rfl
theorem qD_X7_add : (.code yX7_add cX7_add 5 none : Cond) ∈ TB := t_2 (List.mem_of_getElem? (i := 220) rfl) rfl
theorem qM_X6_154 : (.methodLink RX6 154 yX6_heedGhost : Cond) ∈ TB := t_2 (List.mem_of_getElem? (i := 221) rfl) rfl
theorem qV_X6_heedGhost : (.instanceMethod yX6_heedGhost : Cond) ∈ TB := t_2 (List.mem_of_getElem? (i := 223) rfl) rfl
theorem qD_X6_heedGhost : (.code yX6_heedGhost cX6_heedGhost 3 none : Cond) ∈ TB := t_2 (List.mem_of_getElem? (i := 224) rfl) rfl
theorem qM_X6_108 : (.methodLink RX6 108 yX2_forget : Cond) ∈ TB := t_2 (List.mem_of_getElem? (i := 225) rfl) rfl
theorem qV_X2_forget : (.instanceMethod yX2_forget : Cond) ∈ TB := t_2 (List.mem_of_getElem? (i := 226) rfl) rfl
theorem qL_X2_forget : (.selects RX2 yX2_forget yX2_forget : Cond) ∈ TB := t_2 (List.mem_of_getElem? (i := 227) rfl) rfl
theorem qD_X2_forget : (.code yX2_forget cX2_forget 4 (some .boolean) : Cond) ∈ TB := t_2 (List.mem_of_getElem? (i := 228) rfl) rfl
theorem qM_X6_139 : (.methodLink RX6 139 yJ9_min_7cf53 : Cond) ∈ TB := t_2 (List.mem_of_getElem? (i := 229) rfl) rfl
theorem qS_J9_min_7cf53 : (.static yJ9_min_7cf53 : Cond) ∈ TB := t_2 (List.mem_of_getElem? (i := 230) rfl) rfl
theorem qD_J9_min_7cf53 : (.code yJ9_min_7cf53 cJ9_min_7cf53 2 (some .int) : Cond) ∈ TB := t_2 (List.mem_of_getElem? (i := 231) rfl) rfl
theorem qM_X6_144 : (.methodLink RX6 144 yJ9_max_7cf53 : Cond) ∈ TB := t_2 (List.mem_of_getElem? (i := 232) rfl) rfl
theorem qS_J9_max_7cf53 : (.static yJ9_max_7cf53 : Cond) ∈ TB := t_2 (List.mem_of_getElem? (i := 233) rfl) rfl
theorem qD_J9_max_7cf53 : (.code yJ9_max_7cf53 cJ9_max_7cf53 2 (some .int) : Cond) ∈ TB := t_2 (List.mem_of_getElem? (i := 234) rfl) rfl
theorem qM_X6_158 : (.methodLink RX6 158 yX6_isTight : Cond) ∈ TB := t_2 (List.mem_of_getElem? (i := 235) rfl) rfl
theorem qV_X6_isTight : (.instanceMethod yX6_isTight : Cond) ∈ TB := t_2 (List.mem_of_getElem? (i := 236) rfl) rfl
theorem qL_X6_isTight : (.selects RX6 yX6_isTight yX6_isTight : Cond) ∈ TB := t_2 (List.mem_of_getElem? (i := 237) rfl) rfl
theorem qD_X6_isTight : (.code yX6_isTight cX6_isTight 2 (some .boolean) : Cond) ∈ TB := t_2 (List.mem_of_getElem? (i := 238) rfl) rfl
theorem qM_X6_161 : (.methodLink RX6 161 yX6_choose : Cond) ∈ TB := t_2 (List.mem_of_getElem? (i := 239) rfl) rfl
theorem qV_X6_choose : (.instanceMethod yX6_choose : Cond) ∈ TB := t_3 (List.mem_of_getElem? (i := 0) rfl) rfl
theorem qL_X6_choose : (.selects RX6 yX6_choose yX6_choose : Cond) ∈ TB := t_3 (List.mem_of_getElem? (i := 1) rfl) rfl
theorem qD_X6_choose : (.code yX6_choose cX6_choose 5 (some .int) : Cond) ∈ TB := t_3 (List.mem_of_getElem? (i := 2) rfl) rfl
theorem qM_X6_89 : (.methodLink RX6 89 yX1_heaviest : Cond) ∈ TB := t_3 (List.mem_of_getElem? (i := 3) rfl) rfl
theorem qV_X1_heaviest : (.instanceMethod yX1_heaviest : Cond) ∈ TB := t_3 (List.mem_of_getElem? (i := 4) rfl) rfl
theorem qL_X1_heaviest : (.selects RX1 yX1_heaviest yX1_heaviest : Cond) ∈ TB := t_3 (List.mem_of_getElem? (i := 5) rfl) rfl
theorem qD_X1_heaviest : (.code yX1_heaviest cX1_heaviest 4 (some .int) : Cond) ∈ TB := t_3 (List.mem_of_getElem? (i := 6) rfl) rfl
theorem qM_X6_93 : (.methodLink RX6 93 yX1_youngLoad : Cond) ∈ TB := t_3 (List.mem_of_getElem? (i := 7) rfl) rfl
theorem qV_X1_youngLoad : (.instanceMethod yX1_youngLoad : Cond) ∈ TB := t_3 (List.mem_of_getElem? (i := 8) rfl) rfl
theorem qL_X1_youngLoad : (.selects RX1 yX1_youngLoad yX1_youngLoad : Cond) ∈ TB := t_3 (List.mem_of_getElem? (i := 9) rfl) rfl
theorem qD_X1_youngLoad : (.code yX1_youngLoad cX1_youngLoad 1 (some .int) : Cond) ∈ TB := t_3 (List.mem_of_getElem? (i := 10) rfl) rfl
theorem qM_X1_90 : (.methodLink RX1 90 yX1_weightsOf : Cond) ∈ TB := t_3 (List.mem_of_getElem? (i := 11) rfl) rfl
theorem qV_X1_weightsOf : (.instanceMethod yX1_weightsOf : Cond) ∈ TB := t_3 (List.mem_of_getElem? (i := 12) rfl) rfl
theorem qL_X1_weightsOf : (.selects RX1 yX1_weightsOf yX1_weightsOf : Cond) ∈ TB := t_3 (List.mem_of_getElem? (i := 13) rfl) rfl
theorem qD_X1_weightsOf : (.code yX1_weightsOf cX1_weightsOf 4 (some .int) : Cond) ∈ TB := t_3 (List.mem_of_getElem? (i := 14) rfl) rfl
theorem qM_X6_97 : (.methodLink RX6 97 yX1_firstOfAge : Cond) ∈ TB := t_3 (List.mem_of_getElem? (i := 15) rfl) rfl
theorem qV_X1_firstOfAge : (.instanceMethod yX1_firstOfAge : Cond) ∈ TB := t_3 (List.mem_of_getElem? (i := 16) rfl) rfl
theorem qL_X1_firstOfAge : (.selects RX1 yX1_firstOfAge yX1_firstOfAge : Cond) ∈ TB := t_3 (List.mem_of_getElem? (i := 17) rfl) rfl
theorem qD_X1_firstOfAge : (.code yX1_firstOfAge cX1_firstOfAge 5 (some .int) : Cond) ∈ TB := t_3 (List.mem_of_getElem? (i := 18) rfl) rfl
theorem qM_X1_87 : (.methodLink RX1 87 yX1_isYoung : Cond) ∈ TB := t_3 (List.mem_of_getElem? (i := 19) rfl) rfl
theorem qV_X1_isYoung : (.instanceMethod yX1_isYoung : Cond) ∈ TB := t_3 (List.mem_of_getElem? (i := 20) rfl) rfl
theorem qL_X1_isYoung : (.selects RX1 yX1_isYoung yX1_isYoung : Cond) ∈ TB := t_3 (List.mem_of_getElem? (i := 21) rfl) rfl
theorem qD_X1_isYoung : (.code yX1_isYoung cX1_isYoung 2 (some .boolean) : Cond) ∈ TB := t_3 (List.mem_of_getElem? (i := 22) rfl) rfl
theorem qM_X6_164 : (.methodLink RX6 164 yX6_evict : Cond) ∈ TB := t_3 (List.mem_of_getElem? (i := 23) rfl) rfl
theorem qV_X6_evict : (.instanceMethod yX6_evict : Cond) ∈ TB := t_3 (List.mem_of_getElem? (i := 24) rfl) rfl
theorem qL_X6_evict : (.selects RX6 yX6_evict yX6_evict : Cond) ∈ TB := t_3 (List.mem_of_getElem? (i := 25) rfl) rfl
theorem qD_X6_evict : (.code yX6_evict cX6_evict 3 none : Cond) ∈ TB := t_3 (List.mem_of_getElem? (i := 26) rfl) rfl
theorem qM_X6_111 : (.methodLink RX6 111 yX1_isYoung : Cond) ∈ TB := t_3 (List.mem_of_getElem? (i := 27) rfl) rfl
theorem qM_X6_114 : (.methodLink RX6 114 yX2_add : Cond) ∈ TB := t_3 (List.mem_of_getElem? (i := 28) rfl) rfl
theorem qV_X2_add : (.instanceMethod yX2_add : Cond) ∈ TB := t_3 (List.mem_of_getElem? (i := 29) rfl) rfl
theorem qL_X2_add : (.selects RX2 yX2_add yX2_add : Cond) ∈ TB := t_3 (List.mem_of_getElem? (i := 30) rfl) rfl
theorem qD_X2_add : (.code yX2_add cX2_add 3 none : Cond) ∈ TB := t_3 (List.mem_of_getElem? (i := 31) rfl) rfl
theorem qM_X6_125 : (.methodLink RX6 125 yX1_drop : Cond) ∈ TB := t_3 (List.mem_of_getElem? (i := 32) rfl) rfl
theorem qV_X1_drop : (.instanceMethod yX1_drop : Cond) ∈ TB := t_3 (List.mem_of_getElem? (i := 33) rfl) rfl
theorem qL_X1_drop : (.selects RX1 yX1_drop yX1_drop : Cond) ∈ TB := t_3 (List.mem_of_getElem? (i := 34) rfl) rfl
theorem qD_X1_drop : (.code yX1_drop cX1_drop 2 none : Cond) ∈ TB := t_3 (List.mem_of_getElem? (i := 35) rfl) rfl
theorem qM_X1_59 : (.methodLink RX1 59 yX1_has : Cond) ∈ TB := t_3 (List.mem_of_getElem? (i := 36) rfl) rfl
theorem qM_X6_167 : (.methodLink RX6 167 yX1_add : Cond) ∈ TB := t_3 (List.mem_of_getElem? (i := 37) rfl) rfl
theorem qV_X1_add : (.instanceMethod yX1_add : Cond) ∈ TB := t_3 (List.mem_of_getElem? (i := 38) rfl) rfl
theorem qL_X1_add : (.selects RX1 yX1_add yX1_add : Cond) ∈ TB := t_3 (List.mem_of_getElem? (i := 39) rfl) rfl
theorem qD_X1_add : (.code yX1_add cX1_add 5 none : Cond) ∈ TB := t_3 (List.mem_of_getElem? (i := 40) rfl) rfl
theorem qM_X6_168 : (.methodLink RX6 168 yX1_change : Cond) ∈ TB := t_3 (List.mem_of_getElem? (i := 41) rfl) rfl
theorem qV_X1_change : (.instanceMethod yX1_change : Cond) ∈ TB := t_3 (List.mem_of_getElem? (i := 42) rfl) rfl
theorem qL_X1_change : (.selects RX1 yX1_change yX1_change : Cond) ∈ TB := t_3 (List.mem_of_getElem? (i := 43) rfl) rfl
theorem qD_X1_change : (.code yX1_change cX1_change 6 none : Cond) ∈ TB := t_3 (List.mem_of_getElem? (i := 44) rfl) rfl
theorem qM_X6_171 : (.methodLink RX6 171 yX1_use : Cond) ∈ TB := t_3 (List.mem_of_getElem? (i := 45) rfl) rfl
theorem qV_X1_use : (.instanceMethod yX1_use : Cond) ∈ TB := t_3 (List.mem_of_getElem? (i := 46) rfl) rfl
theorem qL_X1_use : (.selects RX1 yX1_use yX1_use : Cond) ∈ TB := t_3 (List.mem_of_getElem? (i := 47) rfl) rfl
theorem qD_X1_use : (.code yX1_use cX1_use 2 none : Cond) ∈ TB := t_3 (List.mem_of_getElem? (i := 48) rfl) rfl
theorem qK_X1_63 : (.constant RX1 63 (999999) : Cond) ∈ TB := t_3 (List.mem_of_getElem? (i := 49) rfl) rfl
theorem qM_X1_64 : (.methodLink RX1 64 yJ9_min_7cf53 : Cond) ∈ TB := t_3 (List.mem_of_getElem? (i := 50) rfl) rfl
theorem qM_X1_70 : (.methodLink RX1 70 yX1_halve : Cond) ∈ TB := t_3 (List.mem_of_getElem? (i := 51) rfl) rfl
theorem qV_X1_halve : (.instanceMethod yX1_halve : Cond) ∈ TB := t_3 (List.mem_of_getElem? (i := 53) rfl) rfl
theorem qD_X1_halve : (.code yX1_halve cX1_halve 2 none : Cond) ∈ TB := t_3 (List.mem_of_getElem? (i := 54) rfl) rfl
theorem qM_X1_73 : (.methodLink RX1 73 yJ9_max_7cf53 : Cond) ∈ TB := t_3 (List.mem_of_getElem? (i := 55) rfl) rfl
theorem qM_X8_82 : (.methodLink RX8 82 yX8_hear : Cond) ∈ TB := t_3 (List.mem_of_getElem? (i := 56) rfl) rfl
theorem qV_X8_hear : (.instanceMethod yX8_hear : Cond) ∈ TB := t_3 (List.mem_of_getElem? (i := 58) rfl) rfl
theorem qD_X8_hear : (.code yX8_hear cX8_hear 9 none : Cond) ∈ TB := t_3 (List.mem_of_getElem? (i := 59) rfl) rfl
theorem qM_X8_131 : (.methodLink RX8 131 yX3_hearsKind : Cond) ∈ TB := t_3 (List.mem_of_getElem? (i := 60) rfl) rfl
theorem qV_X3_hearsKind : (.instanceMethod yX3_hearsKind : Cond) ∈ TB := t_3 (List.mem_of_getElem? (i := 61) rfl) rfl
theorem qL_X3_hearsKind : (.selects RX3 yX3_hearsKind yX3_hearsKind : Cond) ∈ TB := t_3 (List.mem_of_getElem? (i := 62) rfl) rfl
theorem qD_X3_hearsKind : (.code yX3_hearsKind cX3_hearsKind 2 (some .boolean) : Cond) ∈ TB := t_3 (List.mem_of_getElem? (i := 63) rfl) rfl
theorem qM_X8_135 : (.methodLink RX8 135 yX3_hearsKey : Cond) ∈ TB := t_3 (List.mem_of_getElem? (i := 64) rfl) rfl
theorem qV_X3_hearsKey : (.instanceMethod yX3_hearsKey : Cond) ∈ TB := t_3 (List.mem_of_getElem? (i := 65) rfl) rfl
theorem qL_X3_hearsKey : (.selects RX3 yX3_hearsKey yX3_hearsKey : Cond) ∈ TB := t_3 (List.mem_of_getElem? (i := 66) rfl) rfl
theorem qD_X3_hearsKey : (.code yX3_hearsKey cX3_hearsKey 2 (some .boolean) : Cond) ∈ TB := t_3 (List.mem_of_getElem? (i := 67) rfl) rfl
theorem qM_X8_147 : (.methodLink RX8 147 yX8_act : Cond) ∈ TB := t_3 (List.mem_of_getElem? (i := 68) rfl) rfl
theorem qV_X8_act : (.instanceMethod yX8_act : Cond) ∈ TB := t_3 (List.mem_of_getElem? (i := 70) rfl) rfl
theorem qD_X8_act : (.code yX8_act cX8_act 5 (some .boolean) : Cond) ∈ TB := t_3 (List.mem_of_getElem? (i := 71) rfl) rfl
theorem qM_X8_168 : (.methodLink RX8 168 yX3_keyFor : Cond) ∈ TB := t_3 (List.mem_of_getElem? (i := 72) rfl) rfl
theorem qV_X3_keyFor : (.instanceMethod yX3_keyFor : Cond) ∈ TB := t_3 (List.mem_of_getElem? (i := 73) rfl) rfl
theorem qL_X3_keyFor : (.selects RX3 yX3_keyFor yX3_keyFor : Cond) ∈ TB := t_3 (List.mem_of_getElem? (i := 74) rfl) rfl
theorem qD_X3_keyFor : (.code yX3_keyFor cX3_keyFor 2 (some .int) : Cond) ∈ TB := t_3 (List.mem_of_getElem? (i := 75) rfl) rfl
theorem qM_X3_40 : (.methodLink RX3 40 yJ9_floorMod_7cf53 : Cond) ∈ TB := t_3 (List.mem_of_getElem? (i := 76) rfl) rfl
theorem qS_J9_floorMod_7cf53 : (.static yJ9_floorMod_7cf53 : Cond) ∈ TB := t_3 (List.mem_of_getElem? (i := 77) rfl) rfl
theorem qD_J9_floorMod_7cf53 : (.code yJ9_floorMod_7cf53 cJ9_floorMod_7cf53 3 (some .int) : Cond) ∈ TB := t_3 (List.mem_of_getElem? (i := 78) rfl) rfl
theorem qM_X8_85 : (.methodLink RX8 85 yX6_fetch : Cond) ∈ TB := t_3 (List.mem_of_getElem? (i := 79) rfl) rfl
theorem qV_X6_fetch : (.instanceMethod yX6_fetch : Cond) ∈ TB := t_3 (List.mem_of_getElem? (i := 80) rfl) rfl
theorem qL_X6_fetch : (.selects RX6 yX6_fetch yX6_fetch : Cond) ∈ TB := t_3 (List.mem_of_getElem? (i := 81) rfl) rfl
theorem qD_X6_fetch : (.code yX6_fetch cX6_fetch 3 (some .int) : Cond) ∈ TB := t_3 (List.mem_of_getElem? (i := 82) rfl) rfl
theorem qM_X8_89 : (.methodLink RX8 89 yX6_takeOut : Cond) ∈ TB := t_3 (List.mem_of_getElem? (i := 83) rfl) rfl
theorem qV_X6_takeOut : (.instanceMethod yX6_takeOut : Cond) ∈ TB := t_3 (List.mem_of_getElem? (i := 84) rfl) rfl
theorem qL_X6_takeOut : (.selects RX6 yX6_takeOut yX6_takeOut : Cond) ∈ TB := t_3 (List.mem_of_getElem? (i := 85) rfl) rfl
theorem qD_X6_takeOut : (.code yX6_takeOut cX6_takeOut 4 (some .int) : Cond) ∈ TB := t_3 (List.mem_of_getElem? (i := 86) rfl) rfl
theorem qM_X6_174 : (.methodLink RX6 174 yX6_lose : Cond) ∈ TB := t_3 (List.mem_of_getElem? (i := 87) rfl) rfl
theorem qV_X6_lose : (.instanceMethod yX6_lose : Cond) ∈ TB := t_3 (List.mem_of_getElem? (i := 88) rfl) rfl
theorem qL_X6_lose : (.selects RX6 yX6_lose yX6_lose : Cond) ∈ TB := t_3 (List.mem_of_getElem? (i := 89) rfl) rfl
theorem qD_X6_lose : (.code yX6_lose cX6_lose 3 none : Cond) ∈ TB := t_3 (List.mem_of_getElem? (i := 90) rfl) rfl
theorem qM_X8_176 : (.methodLink RX8 176 yX6_fasten : Cond) ∈ TB := t_3 (List.mem_of_getElem? (i := 91) rfl) rfl
theorem qV_X6_fasten : (.instanceMethod yX6_fasten : Cond) ∈ TB := t_3 (List.mem_of_getElem? (i := 92) rfl) rfl
theorem qL_X6_fasten : (.selects RX6 yX6_fasten yX6_fasten : Cond) ∈ TB := t_3 (List.mem_of_getElem? (i := 93) rfl) rfl
theorem qD_X6_fasten : (.code yX6_fasten cX6_fasten 4 (some .int) : Cond) ∈ TB := t_3 (List.mem_of_getElem? (i := 94) rfl) rfl
theorem qM_X6_177 : (.methodLink RX6 177 yX1_fasten : Cond) ∈ TB := t_3 (List.mem_of_getElem? (i := 95) rfl) rfl
theorem qV_X1_fasten : (.instanceMethod yX1_fasten : Cond) ∈ TB := t_3 (List.mem_of_getElem? (i := 96) rfl) rfl
theorem qL_X1_fasten : (.selects RX1 yX1_fasten yX1_fasten : Cond) ∈ TB := t_3 (List.mem_of_getElem? (i := 97) rfl) rfl
theorem qD_X1_fasten : (.code yX1_fasten cX1_fasten 3 (some .boolean) : Cond) ∈ TB := t_3 (List.mem_of_getElem? (i := 98) rfl) rfl
theorem qN_X6_181 : (.methodLinkNest RX6 181 yX9_asInt RX9 : Cond) ∈ lw_tbl := List.mem_append_right (k2_sels lw_privs) (show _ ∈ tables_1 from (List.mem_append_right _ (List.mem_append_right _ (List.mem_append_left _ (List.mem_of_getElem? (i := 99) rfl)))))
theorem qS_X9_asInt : (.static yX9_asInt : Cond) ∈ TB := t_3 (List.mem_of_getElem? (i := 100) rfl) rfl
theorem qD_X9_asInt : (.code yX9_asInt cX9_asInt 1 (some .int) : Cond) ∈ TB := t_3 (List.mem_of_getElem? (i := 101) rfl) rfl
theorem qM_X8_92 : (.methodLink RX8 92 yX6_recap : Cond) ∈ TB := t_3 (List.mem_of_getElem? (i := 102) rfl) rfl
theorem qV_X6_recap : (.instanceMethod yX6_recap : Cond) ∈ TB := t_3 (List.mem_of_getElem? (i := 103) rfl) rfl
theorem qL_X6_recap : (.selects RX6 yX6_recap yX6_recap : Cond) ∈ TB := t_3 (List.mem_of_getElem? (i := 104) rfl) rfl
theorem qD_X6_recap : (.code yX6_recap cX6_recap 4 (some .int) : Cond) ∈ TB := t_3 (List.mem_of_getElem? (i := 105) rfl) rfl
theorem qN_X6_185 : (.methodLinkNest RX6 185 yX9_isCap RX9 : Cond) ∈ lw_tbl := List.mem_append_right (k2_sels lw_privs) (show _ ∈ tables_1 from (List.mem_append_right _ (List.mem_append_right _ (List.mem_append_left _ (List.mem_of_getElem? (i := 106) rfl)))))
theorem qS_X9_isCap : (.static yX9_isCap : Cond) ∈ TB := t_3 (List.mem_of_getElem? (i := 107) rfl) rfl
theorem qD_X9_isCap : (.code yX9_isCap cX9_isCap 1 (some .boolean) : Cond) ∈ TB := t_3 (List.mem_of_getElem? (i := 108) rfl) rfl
theorem qN_X8_151 : (.methodLinkNest RX8 151 yX9_asInt RX9 : Cond) ∈ lw_tbl := List.mem_append_right (k2_sels lw_privs) (show _ ∈ tables_1 from (List.mem_append_right _ (List.mem_append_right _ (List.mem_append_left _ (List.mem_of_getElem? (i := 109) rfl)))))
theorem qM_X8_158 : (.methodLink RX8 158 yX4_add : Cond) ∈ TB := t_3 (List.mem_of_getElem? (i := 110) rfl) rfl
theorem qV_X4_add : (.instanceMethod yX4_add : Cond) ∈ TB := t_3 (List.mem_of_getElem? (i := 111) rfl) rfl
theorem qL_X4_add : (.selects RX4 yX4_add yX4_add : Cond) ∈ TB := t_3 (List.mem_of_getElem? (i := 112) rfl) rfl
theorem qD_X4_add : (.code yX4_add cX4_add 6 none : Cond) ∈ TB := t_3 (List.mem_of_getElem? (i := 113) rfl) rfl
theorem qM_X4_40 : (.methodLink RX4 40 yJ9_min_7cf53 : Cond) ∈ TB := t_3 (List.mem_of_getElem? (i := 114) rfl) rfl
theorem qM_X8_161 : (.methodLink RX8 161 yJ9_max_7cf53 : Cond) ∈ TB := t_3 (List.mem_of_getElem? (i := 115) rfl) rfl
theorem qM_L_18 : (.methodLink RL 18 yX9_get : Cond) ∈ TB := t_3 (List.mem_of_getElem? (i := 116) rfl) rfl
theorem qV_X9_get : (.instanceMethod yX9_get : Cond) ∈ TB := t_3 (List.mem_of_getElem? (i := 117) rfl) rfl
theorem qL_X9_get : (.selects RX9 yX9_get yX9_get : Cond) ∈ TB := t_3 (List.mem_of_getElem? (i := 118) rfl) rfl
theorem qD_X9_get : (.code yX9_get cX9_get 2 (some .int) : Cond) ∈ TB := t_3 (List.mem_of_getElem? (i := 119) rfl) rfl
theorem qM_X9_49 : (.methodLink RX9 49 yX8_callGet : Cond) ∈ TB := t_3 (List.mem_of_getElem? (i := 120) rfl) rfl
theorem qV_X8_callGet : (.instanceMethod yX8_callGet : Cond) ∈ TB := t_3 (List.mem_of_getElem? (i := 121) rfl) rfl
theorem qL_X8_callGet : (.selects RX8 yX8_callGet yX8_callGet : Cond) ∈ TB := t_3 (List.mem_of_getElem? (i := 122) rfl) rfl
theorem qD_X8_callGet : (.code yX8_callGet cX8_callGet 3 (some .int) : Cond) ∈ TB := t_3 (List.mem_of_getElem? (i := 123) rfl) rfl
theorem qM_L_23 : (.methodLink RL 23 yX9_remove : Cond) ∈ TB := t_3 (List.mem_of_getElem? (i := 124) rfl) rfl
theorem qV_X9_remove : (.instanceMethod yX9_remove : Cond) ∈ TB := t_3 (List.mem_of_getElem? (i := 125) rfl) rfl
theorem qL_X9_remove : (.selects RX9 yX9_remove yX9_remove : Cond) ∈ TB := t_3 (List.mem_of_getElem? (i := 126) rfl) rfl
theorem qD_X9_remove : (.code yX9_remove cX9_remove 2 (some .int) : Cond) ∈ TB := t_3 (List.mem_of_getElem? (i := 127) rfl) rfl
theorem qM_X9_53 : (.methodLink RX9 53 yX8_callRemove : Cond) ∈ TB := t_3 (List.mem_of_getElem? (i := 128) rfl) rfl
theorem qV_X8_callRemove : (.instanceMethod yX8_callRemove : Cond) ∈ TB := t_3 (List.mem_of_getElem? (i := 129) rfl) rfl
theorem qL_X8_callRemove : (.selects RX8 yX8_callRemove yX8_callRemove : Cond) ∈ TB := t_3 (List.mem_of_getElem? (i := 130) rfl) rfl
theorem qD_X8_callRemove : (.code yX8_callRemove cX8_callRemove 3 (some .int) : Cond) ∈ TB := t_3 (List.mem_of_getElem? (i := 131) rfl) rfl
theorem qM_L_27 : (.methodLink RL 27 yX9_pin : Cond) ∈ TB := t_3 (List.mem_of_getElem? (i := 132) rfl) rfl
theorem qV_X9_pin : (.instanceMethod yX9_pin : Cond) ∈ TB := t_3 (List.mem_of_getElem? (i := 133) rfl) rfl
theorem qL_X9_pin : (.selects RX9 yX9_pin yX9_pin : Cond) ∈ TB := t_3 (List.mem_of_getElem? (i := 134) rfl) rfl
theorem qD_X9_pin : (.code yX9_pin cX9_pin 3 (some .int) : Cond) ∈ TB := t_3 (List.mem_of_getElem? (i := 135) rfl) rfl
theorem qM_X9_60 : (.methodLink RX9 60 yX6_fasten : Cond) ∈ TB := t_3 (List.mem_of_getElem? (i := 136) rfl) rfl
theorem qM_L_32 : (.methodLink RL 32 yX9_resize : Cond) ∈ TB := t_3 (List.mem_of_getElem? (i := 137) rfl) rfl
theorem qV_X9_resize : (.instanceMethod yX9_resize : Cond) ∈ TB := t_3 (List.mem_of_getElem? (i := 138) rfl) rfl
theorem qL_X9_resize : (.selects RX9 yX9_resize yX9_resize : Cond) ∈ TB := t_3 (List.mem_of_getElem? (i := 139) rfl) rfl
theorem qD_X9_resize : (.code yX9_resize cX9_resize 2 (some .int) : Cond) ∈ TB := t_3 (List.mem_of_getElem? (i := 140) rfl) rfl
theorem qM_X9_66 : (.methodLink RX9 66 yX8_callResize : Cond) ∈ TB := t_3 (List.mem_of_getElem? (i := 141) rfl) rfl
theorem qV_X8_callResize : (.instanceMethod yX8_callResize : Cond) ∈ TB := t_3 (List.mem_of_getElem? (i := 142) rfl) rfl
theorem qL_X8_callResize : (.selects RX8 yX8_callResize yX8_callResize : Cond) ∈ TB := t_3 (List.mem_of_getElem? (i := 143) rfl) rfl
theorem qD_X8_callResize : (.code yX8_callResize cX8_callResize 3 (some .int) : Cond) ∈ TB := t_3 (List.mem_of_getElem? (i := 144) rfl) rfl
theorem qM_L_36 : (.methodLink RL 36 yX9_way : Cond) ∈ TB := t_3 (List.mem_of_getElem? (i := 145) rfl) rfl
theorem qV_X9_way : (.instanceMethod yX9_way : Cond) ∈ TB := t_3 (List.mem_of_getElem? (i := 146) rfl) rfl
theorem qL_X9_way : (.selects RX9 yX9_way yX9_way : Cond) ∈ TB := t_3 (List.mem_of_getElem? (i := 147) rfl) rfl
theorem qD_X9_way : (.code yX9_way cX9_way 3 (some .int) : Cond) ∈ TB := t_3 (List.mem_of_getElem? (i := 148) rfl) rfl
theorem qM_L_40 : (.methodLink RL 40 yX9_aging : Cond) ∈ TB := t_3 (List.mem_of_getElem? (i := 149) rfl) rfl
theorem qV_X9_aging : (.instanceMethod yX9_aging : Cond) ∈ TB := t_3 (List.mem_of_getElem? (i := 150) rfl) rfl
theorem qL_X9_aging : (.selects RX9 yX9_aging yX9_aging : Cond) ∈ TB := t_3 (List.mem_of_getElem? (i := 151) rfl) rfl
theorem qD_X9_aging : (.code yX9_aging cX9_aging 3 (some .int) : Cond) ∈ TB := t_3 (List.mem_of_getElem? (i := 152) rfl) rfl
theorem qM_L_44 : (.methodLink RL 44 yX9_tick : Cond) ∈ TB := t_3 (List.mem_of_getElem? (i := 153) rfl) rfl
theorem qV_X9_tick : (.instanceMethod yX9_tick : Cond) ∈ TB := t_3 (List.mem_of_getElem? (i := 154) rfl) rfl
theorem qL_X9_tick : (.selects RX9 yX9_tick yX9_tick : Cond) ∈ TB := t_3 (List.mem_of_getElem? (i := 155) rfl) rfl
theorem qD_X9_tick : (.code yX9_tick cX9_tick 2 (some .int) : Cond) ∈ TB := t_3 (List.mem_of_getElem? (i := 156) rfl) rfl
theorem qM_X9_82 : (.methodLink RX9 82 yX8_callTick : Cond) ∈ TB := t_3 (List.mem_of_getElem? (i := 157) rfl) rfl
theorem qV_X8_callTick : (.instanceMethod yX8_callTick : Cond) ∈ TB := t_3 (List.mem_of_getElem? (i := 158) rfl) rfl
theorem qL_X8_callTick : (.selects RX8 yX8_callTick yX8_callTick : Cond) ∈ TB := t_3 (List.mem_of_getElem? (i := 159) rfl) rfl
theorem qD_X8_callTick : (.code yX8_callTick cX8_callTick 4 (some .int) : Cond) ∈ TB := t_3 (List.mem_of_getElem? (i := 160) rfl) rfl
theorem qM_X8_103 : (.methodLink RX8 103 yX1_soonest : Cond) ∈ TB := t_3 (List.mem_of_getElem? (i := 161) rfl) rfl
theorem qV_X1_soonest : (.instanceMethod yX1_soonest : Cond) ∈ TB := t_3 (List.mem_of_getElem? (i := 162) rfl) rfl
theorem qL_X1_soonest : (.selects RX1 yX1_soonest yX1_soonest : Cond) ∈ TB := t_3 (List.mem_of_getElem? (i := 163) rfl) rfl
theorem qD_X1_soonest : (.code yX1_soonest cX1_soonest 4 (some .int) : Cond) ∈ TB := t_3 (List.mem_of_getElem? (i := 164) rfl) rfl
theorem qM_X8_108 : (.methodLink RX8 108 yX6_lose : Cond) ∈ TB := t_3 (List.mem_of_getElem? (i := 165) rfl) rfl
theorem qM_L_48 : (.methodLink RL 48 yX9_listen : Cond) ∈ TB := t_3 (List.mem_of_getElem? (i := 166) rfl) rfl
theorem qV_X9_listen : (.instanceMethod yX9_listen : Cond) ∈ TB := t_3 (List.mem_of_getElem? (i := 167) rfl) rfl
theorem qL_X9_listen : (.selects RX9 yX9_listen yX9_listen : Cond) ∈ TB := t_3 (List.mem_of_getElem? (i := 168) rfl) rfl
theorem qD_X9_listen : (.code yX9_listen cX9_listen 8 (some .int) : Cond) ∈ TB := t_3 (List.mem_of_getElem? (i := 169) rfl) rfl
theorem qM_X9_92 : (.methodLink RX9 92 yX3_begin : Cond) ∈ TB := t_3 (List.mem_of_getElem? (i := 170) rfl) rfl
theorem qV_X3_begin : (.instanceMethod yX3_begin : Cond) ∈ TB := t_3 (List.mem_of_getElem? (i := 171) rfl) rfl
theorem qL_X3_begin : (.selects RX3 yX3_begin yX3_begin : Cond) ∈ TB := t_3 (List.mem_of_getElem? (i := 172) rfl) rfl
theorem qD_X3_begin : (.code yX3_begin cX3_begin 7 none : Cond) ∈ TB := t_3 (List.mem_of_getElem? (i := 173) rfl) rfl
theorem qM_L_53 : (.methodLink RL 53 yX9_turn : Cond) ∈ TB := t_3 (List.mem_of_getElem? (i := 174) rfl) rfl
theorem qV_X9_turn : (.instanceMethod yX9_turn : Cond) ∈ TB := t_3 (List.mem_of_getElem? (i := 175) rfl) rfl
theorem qL_X9_turn : (.selects RX9 yX9_turn yX9_turn : Cond) ∈ TB := t_3 (List.mem_of_getElem? (i := 176) rfl) rfl
theorem qD_X9_turn : (.code yX9_turn cX9_turn 5 (some .int) : Cond) ∈ TB := t_3 (List.mem_of_getElem? (i := 177) rfl) rfl
theorem qM_X9_98 : (.methodLink RX9 98 yX8_listenerAt : Cond) ∈ TB := t_3 (List.mem_of_getElem? (i := 178) rfl) rfl
theorem qV_X8_listenerAt : (.instanceMethod yX8_listenerAt : Cond) ∈ TB := t_3 (List.mem_of_getElem? (i := 179) rfl) rfl
theorem qL_X8_listenerAt : (.selects RX8 yX8_listenerAt yX8_listenerAt : Cond) ∈ TB := t_3 (List.mem_of_getElem? (i := 180) rfl) rfl
theorem qD_X8_listenerAt : (.code yX8_listenerAt cX8_listenerAt 2 (some (.object "TwinOrders$Listener")) : Cond) ∈ TB := t_3 (List.mem_of_getElem? (i := 181) rfl) rfl
theorem qM_X9_106 : (.methodLink RX9 106 yX9_asInt : Cond) ∈ TB := t_3 (List.mem_of_getElem? (i := 182) rfl) rfl
theorem qM_L_57 : (.methodLink RL 57 yX9_chance : Cond) ∈ TB := t_3 (List.mem_of_getElem? (i := 183) rfl) rfl
theorem qV_X9_chance : (.instanceMethod yX9_chance : Cond) ∈ TB := t_3 (List.mem_of_getElem? (i := 184) rfl) rfl
theorem qL_X9_chance : (.selects RX9 yX9_chance yX9_chance : Cond) ∈ TB := t_3 (List.mem_of_getElem? (i := 185) rfl) rfl
theorem qD_X9_chance : (.code yX9_chance cX9_chance 9 (some .int) : Cond) ∈ TB := t_3 (List.mem_of_getElem? (i := 186) rfl) rfl
theorem qM_X9_110 : (.methodLink RX9 110 yX9_nextDraw : Cond) ∈ TB := t_3 (List.mem_of_getElem? (i := 187) rfl) rfl
theorem qS_X9_nextDraw : (.static yX9_nextDraw : Cond) ∈ TB := t_3 (List.mem_of_getElem? (i := 188) rfl) rfl
theorem qD_X9_nextDraw : (.code yX9_nextDraw cX9_nextDraw 1 (some .int) : Cond) ∈ TB := t_3 (List.mem_of_getElem? (i := 189) rfl) rfl
theorem qJ_X9_378 : (.constantLong RX9 378 (1103515245) : Cond) ∈ TB := t_3 (List.mem_of_getElem? (i := 190) rfl) rfl
theorem qJ_X9_380 : (.constantLong RX9 380 (12345) : Cond) ∈ TB := t_3 (List.mem_of_getElem? (i := 191) rfl) rfl
theorem qJ_X9_382 : (.constantLong RX9 382 (2147483647) : Cond) ∈ TB := t_3 (List.mem_of_getElem? (i := 192) rfl) rfl
theorem qM_X9_113 : (.methodLink RX9 113 yX9_drawn : Cond) ∈ TB := t_3 (List.mem_of_getElem? (i := 193) rfl) rfl
theorem qS_X9_drawn : (.static yX9_drawn : Cond) ∈ TB := t_3 (List.mem_of_getElem? (i := 194) rfl) rfl
theorem qD_X9_drawn : (.code yX9_drawn cX9_drawn 2 (some .int) : Cond) ∈ TB := t_3 (List.mem_of_getElem? (i := 195) rfl) rfl
theorem qM_L_62 : (.methodLink RL 62 yX9_keep : Cond) ∈ TB := t_3 (List.mem_of_getElem? (i := 196) rfl) rfl
theorem qV_X9_keep : (.instanceMethod yX9_keep : Cond) ∈ TB := t_3 (List.mem_of_getElem? (i := 197) rfl) rfl
theorem qL_X9_keep : (.selects RX9 yX9_keep yX9_keep : Cond) ∈ TB := t_3 (List.mem_of_getElem? (i := 198) rfl) rfl
theorem qD_X9_keep : (.code yX9_keep cX9_keep 3 (some .int) : Cond) ∈ TB := t_3 (List.mem_of_getElem? (i := 199) rfl) rfl
theorem qM_X9_117 : (.methodLink RX9 117 yX8_copyFrom : Cond) ∈ TB := t_3 (List.mem_of_getElem? (i := 200) rfl) rfl
theorem qV_X8_copyFrom : (.instanceMethod yX8_copyFrom : Cond) ∈ TB := t_3 (List.mem_of_getElem? (i := 201) rfl) rfl
theorem qL_X8_copyFrom : (.selects RX8 yX8_copyFrom yX8_copyFrom : Cond) ∈ TB := t_3 (List.mem_of_getElem? (i := 202) rfl) rfl
theorem qD_X8_copyFrom : (.code yX8_copyFrom cX8_copyFrom 3 none : Cond) ∈ TB := t_3 (List.mem_of_getElem? (i := 203) rfl) rfl
theorem qM_X8_39 : (.methodLink RX8 39 yX6_copyFrom : Cond) ∈ TB := t_3 (List.mem_of_getElem? (i := 204) rfl) rfl
theorem qV_X6_copyFrom : (.instanceMethod yX6_copyFrom : Cond) ∈ TB := t_3 (List.mem_of_getElem? (i := 205) rfl) rfl
theorem qL_X6_copyFrom : (.selects RX6 yX6_copyFrom yX6_copyFrom : Cond) ∈ TB := t_3 (List.mem_of_getElem? (i := 206) rfl) rfl
theorem qD_X6_copyFrom : (.code yX6_copyFrom cX6_copyFrom 2 none : Cond) ∈ TB := t_3 (List.mem_of_getElem? (i := 207) rfl) rfl
theorem qM_X6_46 : (.methodLink RX6 46 yX1_copyFrom : Cond) ∈ TB := t_3 (List.mem_of_getElem? (i := 208) rfl) rfl
theorem qV_X1_copyFrom : (.instanceMethod yX1_copyFrom : Cond) ∈ TB := t_3 (List.mem_of_getElem? (i := 209) rfl) rfl
theorem qL_X1_copyFrom : (.selects RX1 yX1_copyFrom yX1_copyFrom : Cond) ∈ TB := t_3 (List.mem_of_getElem? (i := 210) rfl) rfl
theorem qD_X1_copyFrom : (.code yX1_copyFrom cX1_copyFrom 3 none : Cond) ∈ TB := t_3 (List.mem_of_getElem? (i := 211) rfl) rfl
theorem qM_X1_38 : (.methodLink RX1 38 arraycopyName : Cond) ∈ TB := t_3 (List.mem_of_getElem? (i := 212) rfl) rfl
theorem qS_arraycopy : (.static arraycopyName : Cond) ∈ TB := t_3 (List.mem_of_getElem? (i := 213) rfl) rfl
theorem qX_arraycopy : (.native arraycopyName : Cond) ∈ TB := t_3 (List.mem_of_getElem? (i := 214) rfl) rfl
theorem qM_X6_50 : (.methodLink RX6 50 yX2_copyFrom : Cond) ∈ TB := t_3 (List.mem_of_getElem? (i := 215) rfl) rfl
theorem qV_X2_copyFrom : (.instanceMethod yX2_copyFrom : Cond) ∈ TB := t_3 (List.mem_of_getElem? (i := 216) rfl) rfl
theorem qL_X2_copyFrom : (.selects RX2 yX2_copyFrom yX2_copyFrom : Cond) ∈ TB := t_3 (List.mem_of_getElem? (i := 217) rfl) rfl
theorem qD_X2_copyFrom : (.code yX2_copyFrom cX2_copyFrom 2 none : Cond) ∈ TB := t_3 (List.mem_of_getElem? (i := 218) rfl) rfl
theorem qM_X2_15 : (.methodLink RX2 15 arraycopyName : Cond) ∈ TB := t_3 (List.mem_of_getElem? (i := 219) rfl) rfl
theorem qM_X6_53 : (.methodLink RX6 53 arraycopyName : Cond) ∈ TB := t_3 (List.mem_of_getElem? (i := 220) rfl) rfl
theorem qM_X8_43 : (.methodLink RX8 43 yX3_copyFrom : Cond) ∈ TB := t_3 (List.mem_of_getElem? (i := 221) rfl) rfl
theorem qV_X3_copyFrom : (.instanceMethod yX3_copyFrom : Cond) ∈ TB := t_3 (List.mem_of_getElem? (i := 222) rfl) rfl
theorem qL_X3_copyFrom : (.selects RX3 yX3_copyFrom yX3_copyFrom : Cond) ∈ TB := t_3 (List.mem_of_getElem? (i := 223) rfl) rfl
theorem qD_X3_copyFrom : (.code yX3_copyFrom cX3_copyFrom 2 none : Cond) ∈ TB := t_3 (List.mem_of_getElem? (i := 224) rfl) rfl
theorem qM_X8_46 : (.methodLink RX8 46 yX4_copyFrom : Cond) ∈ TB := t_3 (List.mem_of_getElem? (i := 225) rfl) rfl
theorem qV_X4_copyFrom : (.instanceMethod yX4_copyFrom : Cond) ∈ TB := t_3 (List.mem_of_getElem? (i := 226) rfl) rfl
theorem qL_X4_copyFrom : (.selects RX4 yX4_copyFrom yX4_copyFrom : Cond) ∈ TB := t_3 (List.mem_of_getElem? (i := 227) rfl) rfl
theorem qD_X4_copyFrom : (.code yX4_copyFrom cX4_copyFrom 2 none : Cond) ∈ TB := t_3 (List.mem_of_getElem? (i := 228) rfl) rfl
theorem qM_X4_27 : (.methodLink RX4 27 arraycopyName : Cond) ∈ TB := t_3 (List.mem_of_getElem? (i := 229) rfl) rfl
theorem qM_X8_49 : (.methodLink RX8 49 yX5_copyFrom : Cond) ∈ TB := t_3 (List.mem_of_getElem? (i := 230) rfl) rfl
theorem qV_X5_copyFrom : (.instanceMethod yX5_copyFrom : Cond) ∈ TB := t_3 (List.mem_of_getElem? (i := 231) rfl) rfl
theorem qL_X5_copyFrom : (.selects RX5 yX5_copyFrom yX5_copyFrom : Cond) ∈ TB := t_3 (List.mem_of_getElem? (i := 232) rfl) rfl
theorem qD_X5_copyFrom : (.code yX5_copyFrom cX5_copyFrom 2 none : Cond) ∈ TB := t_3 (List.mem_of_getElem? (i := 233) rfl) rfl
theorem qM_X5_15 : (.methodLink RX5 15 arraycopyName : Cond) ∈ TB := t_3 (List.mem_of_getElem? (i := 234) rfl) rfl
theorem qM_L_66 : (.methodLink RL 66 yX9_back : Cond) ∈ TB := t_3 (List.mem_of_getElem? (i := 235) rfl) rfl
theorem qV_X9_back : (.instanceMethod yX9_back : Cond) ∈ TB := t_3 (List.mem_of_getElem? (i := 236) rfl) rfl
theorem qL_X9_back : (.selects RX9 yX9_back yX9_back : Cond) ∈ TB := t_3 (List.mem_of_getElem? (i := 237) rfl) rfl
theorem qD_X9_back : (.code yX9_back cX9_back 3 (some .int) : Cond) ∈ TB := t_3 (List.mem_of_getElem? (i := 238) rfl) rfl
theorem qM_L_70 : (.methodLink RL 70 yX9_entry : Cond) ∈ TB := t_3 (List.mem_of_getElem? (i := 239) rfl) rfl
theorem qV_X9_entry : (.instanceMethod yX9_entry : Cond) ∈ TB := t_4 (List.mem_of_getElem? (i := 0) rfl) rfl
theorem qL_X9_entry : (.selects RX9 yX9_entry yX9_entry : Cond) ∈ TB := t_4 (List.mem_of_getElem? (i := 1) rfl) rfl
theorem qD_X9_entry : (.code yX9_entry cX9_entry 5 (some .int) : Cond) ∈ TB := t_4 (List.mem_of_getElem? (i := 2) rfl) rfl
theorem qM_X9_124 : (.methodLink RX9 124 yX1_find : Cond) ∈ TB := t_4 (List.mem_of_getElem? (i := 3) rfl) rfl
theorem qM_X9_146 : (.methodLink RX9 146 yX1_placeOf : Cond) ∈ TB := t_4 (List.mem_of_getElem? (i := 4) rfl) rfl
theorem qV_X1_placeOf : (.instanceMethod yX1_placeOf : Cond) ∈ TB := t_4 (List.mem_of_getElem? (i := 5) rfl) rfl
theorem qL_X1_placeOf : (.selects RX1 yX1_placeOf yX1_placeOf : Cond) ∈ TB := t_4 (List.mem_of_getElem? (i := 6) rfl) rfl
theorem qD_X1_placeOf : (.code yX1_placeOf cX1_placeOf 5 (some .int) : Cond) ∈ TB := t_4 (List.mem_of_getElem? (i := 7) rfl) rfl
theorem qM_L_74 : (.methodLink RL 74 yX9_order : Cond) ∈ TB := t_4 (List.mem_of_getElem? (i := 8) rfl) rfl
theorem qV_X9_order : (.instanceMethod yX9_order : Cond) ∈ TB := t_4 (List.mem_of_getElem? (i := 9) rfl) rfl
theorem qL_X9_order : (.selects RX9 yX9_order yX9_order : Cond) ∈ TB := t_4 (List.mem_of_getElem? (i := 10) rfl) rfl
theorem qD_X9_order : (.code yX9_order cX9_order 3 (some .int) : Cond) ∈ TB := t_4 (List.mem_of_getElem? (i := 11) rfl) rfl
theorem qM_X9_149 : (.methodLink RX9 149 yX9_isOrder : Cond) ∈ TB := t_4 (List.mem_of_getElem? (i := 12) rfl) rfl
theorem qS_X9_isOrder : (.static yX9_isOrder : Cond) ∈ TB := t_4 (List.mem_of_getElem? (i := 13) rfl) rfl
theorem qD_X9_isOrder : (.code yX9_isOrder cX9_isOrder 1 (some .boolean) : Cond) ∈ TB := t_4 (List.mem_of_getElem? (i := 14) rfl) rfl
theorem qM_X9_152 : (.methodLink RX9 152 yX1_keyAt : Cond) ∈ TB := t_4 (List.mem_of_getElem? (i := 15) rfl) rfl
theorem qV_X1_keyAt : (.instanceMethod yX1_keyAt : Cond) ∈ TB := t_4 (List.mem_of_getElem? (i := 16) rfl) rfl
theorem qL_X1_keyAt : (.selects RX1 yX1_keyAt yX1_keyAt : Cond) ∈ TB := t_4 (List.mem_of_getElem? (i := 17) rfl) rfl
theorem qD_X1_keyAt : (.code yX1_keyAt cX1_keyAt 4 (some .int) : Cond) ∈ TB := t_4 (List.mem_of_getElem? (i := 18) rfl) rfl
theorem qM_X1_80 : (.methodLink RX1 80 yX1_placeOf : Cond) ∈ TB := t_4 (List.mem_of_getElem? (i := 19) rfl) rfl
theorem qM_L_78 : (.methodLink RL 78 yX9_ghost : Cond) ∈ TB := t_4 (List.mem_of_getElem? (i := 20) rfl) rfl
theorem qV_X9_ghost : (.instanceMethod yX9_ghost : Cond) ∈ TB := t_4 (List.mem_of_getElem? (i := 21) rfl) rfl
theorem qL_X9_ghost : (.selects RX9 yX9_ghost yX9_ghost : Cond) ∈ TB := t_4 (List.mem_of_getElem? (i := 22) rfl) rfl
theorem qD_X9_ghost : (.code yX9_ghost cX9_ghost 3 (some .int) : Cond) ∈ TB := t_4 (List.mem_of_getElem? (i := 23) rfl) rfl
theorem qM_X9_159 : (.methodLink RX9 159 yX2_keyAt : Cond) ∈ TB := t_4 (List.mem_of_getElem? (i := 24) rfl) rfl
theorem qV_X2_keyAt : (.instanceMethod yX2_keyAt : Cond) ∈ TB := t_4 (List.mem_of_getElem? (i := 25) rfl) rfl
theorem qL_X2_keyAt : (.selects RX2 yX2_keyAt yX2_keyAt : Cond) ∈ TB := t_4 (List.mem_of_getElem? (i := 26) rfl) rfl
theorem qD_X2_keyAt : (.code yX2_keyAt cX2_keyAt 2 (some .int) : Cond) ∈ TB := t_4 (List.mem_of_getElem? (i := 27) rfl) rfl
theorem qM_L_82 : (.methodLink RL 82 yX9_bucket : Cond) ∈ TB := t_4 (List.mem_of_getElem? (i := 28) rfl) rfl
theorem qV_X9_bucket : (.instanceMethod yX9_bucket : Cond) ∈ TB := t_4 (List.mem_of_getElem? (i := 29) rfl) rfl
theorem qL_X9_bucket : (.selects RX9 yX9_bucket yX9_bucket : Cond) ∈ TB := t_4 (List.mem_of_getElem? (i := 30) rfl) rfl
theorem qD_X9_bucket : (.code yX9_bucket cX9_bucket 5 (some .int) : Cond) ∈ TB := t_4 (List.mem_of_getElem? (i := 31) rfl) rfl
theorem qM_X9_166 : (.methodLink RX9 166 yX1_unlikeCounts : Cond) ∈ TB := t_4 (List.mem_of_getElem? (i := 32) rfl) rfl
theorem qV_X1_unlikeCounts : (.instanceMethod yX1_unlikeCounts : Cond) ∈ TB := t_4 (List.mem_of_getElem? (i := 33) rfl) rfl
theorem qL_X1_unlikeCounts : (.selects RX1 yX1_unlikeCounts yX1_unlikeCounts : Cond) ∈ TB := t_4 (List.mem_of_getElem? (i := 34) rfl) rfl
theorem qD_X1_unlikeCounts : (.code yX1_unlikeCounts cX1_unlikeCounts 4 (some .int) : Cond) ∈ TB := t_4 (List.mem_of_getElem? (i := 35) rfl) rfl
theorem qM_X1_94 : (.methodLink RX1 94 yX1_countAbove : Cond) ∈ TB := t_4 (List.mem_of_getElem? (i := 36) rfl) rfl
theorem qV_X1_countAbove : (.instanceMethod yX1_countAbove : Cond) ∈ TB := t_4 (List.mem_of_getElem? (i := 38) rfl) rfl
theorem qD_X1_countAbove : (.code yX1_countAbove cX1_countAbove 4 (some .int) : Cond) ∈ TB := t_4 (List.mem_of_getElem? (i := 39) rfl) rfl
theorem qM_X9_170 : (.methodLink RX9 170 yX1_countAt : Cond) ∈ TB := t_4 (List.mem_of_getElem? (i := 40) rfl) rfl
theorem qV_X1_countAt : (.instanceMethod yX1_countAt : Cond) ∈ TB := t_4 (List.mem_of_getElem? (i := 41) rfl) rfl
theorem qL_X1_countAt : (.selects RX1 yX1_countAt yX1_countAt : Cond) ∈ TB := t_4 (List.mem_of_getElem? (i := 42) rfl) rfl
theorem qD_X1_countAt : (.code yX1_countAt cX1_countAt 4 (some .int) : Cond) ∈ TB := t_4 (List.mem_of_getElem? (i := 43) rfl) rfl
theorem qM_X9_173 : (.methodLink RX9 173 yX1_howManyOf : Cond) ∈ TB := t_4 (List.mem_of_getElem? (i := 44) rfl) rfl
theorem qV_X1_howManyOf : (.instanceMethod yX1_howManyOf : Cond) ∈ TB := t_4 (List.mem_of_getElem? (i := 45) rfl) rfl
theorem qL_X1_howManyOf : (.selects RX1 yX1_howManyOf yX1_howManyOf : Cond) ∈ TB := t_4 (List.mem_of_getElem? (i := 46) rfl) rfl
theorem qD_X1_howManyOf : (.code yX1_howManyOf cX1_howManyOf 4 (some .int) : Cond) ∈ TB := t_4 (List.mem_of_getElem? (i := 47) rfl) rfl
theorem qM_X9_176 : (.methodLink RX9 176 yX1_weightsOf : Cond) ∈ TB := t_4 (List.mem_of_getElem? (i := 48) rfl) rfl
theorem qM_L_86 : (.methodLink RL 86 yX9_listener : Cond) ∈ TB := t_4 (List.mem_of_getElem? (i := 49) rfl) rfl
theorem qV_X9_listener : (.instanceMethod yX9_listener : Cond) ∈ TB := t_4 (List.mem_of_getElem? (i := 50) rfl) rfl
theorem qL_X9_listener : (.selects RX9 yX9_listener yX9_listener : Cond) ∈ TB := t_4 (List.mem_of_getElem? (i := 51) rfl) rfl
theorem qD_X9_listener : (.code yX9_listener cX9_listener 4 (some .int) : Cond) ∈ TB := t_4 (List.mem_of_getElem? (i := 52) rfl) rfl
theorem qM_L_90 : (.methodLink RL 90 yX9_heard : Cond) ∈ TB := t_4 (List.mem_of_getElem? (i := 53) rfl) rfl
theorem qV_X9_heard : (.instanceMethod yX9_heard : Cond) ∈ TB := t_4 (List.mem_of_getElem? (i := 54) rfl) rfl
theorem qL_X9_heard : (.selects RX9 yX9_heard yX9_heard : Cond) ∈ TB := t_4 (List.mem_of_getElem? (i := 55) rfl) rfl
theorem qD_X9_heard : (.code yX9_heard cX9_heard 5 (some .int) : Cond) ∈ TB := t_4 (List.mem_of_getElem? (i := 56) rfl) rfl
theorem qM_X9_189 : (.methodLink RX9 189 yX4_latest : Cond) ∈ TB := t_4 (List.mem_of_getElem? (i := 57) rfl) rfl
theorem qV_X4_latest : (.instanceMethod yX4_latest : Cond) ∈ TB := t_4 (List.mem_of_getElem? (i := 58) rfl) rfl
theorem qL_X4_latest : (.selects RX4 yX4_latest yX4_latest : Cond) ∈ TB := t_4 (List.mem_of_getElem? (i := 59) rfl) rfl
theorem qD_X4_latest : (.code yX4_latest cX4_latest 2 (some .int) : Cond) ∈ TB := t_4 (List.mem_of_getElem? (i := 60) rfl) rfl
theorem qM_X4_46 : (.methodLink RX4 46 yJ9_floorMod_7cf53 : Cond) ∈ TB := t_4 (List.mem_of_getElem? (i := 61) rfl) rfl
theorem qM_L_94 : (.methodLink RL 94 yX9_request : Cond) ∈ TB := t_4 (List.mem_of_getElem? (i := 62) rfl) rfl
theorem qV_X9_request : (.instanceMethod yX9_request : Cond) ∈ TB := t_4 (List.mem_of_getElem? (i := 63) rfl) rfl
theorem qL_X9_request : (.selects RX9 yX9_request yX9_request : Cond) ∈ TB := t_4 (List.mem_of_getElem? (i := 64) rfl) rfl
theorem qD_X9_request : (.code yX9_request cX9_request 2 (some .int) : Cond) ∈ TB := t_4 (List.mem_of_getElem? (i := 65) rfl) rfl
theorem qM_L_98 : (.methodLink RL 98 yX9_victim : Cond) ∈ TB := t_4 (List.mem_of_getElem? (i := 66) rfl) rfl
theorem qV_X9_victim : (.instanceMethod yX9_victim : Cond) ∈ TB := t_4 (List.mem_of_getElem? (i := 67) rfl) rfl
theorem qL_X9_victim : (.selects RX9 yX9_victim yX9_victim : Cond) ∈ TB := t_4 (List.mem_of_getElem? (i := 68) rfl) rfl
theorem qD_X9_victim : (.code yX9_victim cX9_victim 3 (some .int) : Cond) ∈ TB := t_4 (List.mem_of_getElem? (i := 69) rfl) rfl
theorem qM_X9_215 : (.methodLink RX9 215 yX6_choose : Cond) ∈ TB := t_4 (List.mem_of_getElem? (i := 70) rfl) rfl
theorem qM_X9_218 : (.methodLink RX9 218 yX1_keyOf : Cond) ∈ TB := t_4 (List.mem_of_getElem? (i := 71) rfl) rfl
theorem qV_X1_keyOf : (.instanceMethod yX1_keyOf : Cond) ∈ TB := t_4 (List.mem_of_getElem? (i := 72) rfl) rfl
theorem qL_X1_keyOf : (.selects RX1 yX1_keyOf yX1_keyOf : Cond) ∈ TB := t_4 (List.mem_of_getElem? (i := 73) rfl) rfl
theorem qD_X1_keyOf : (.code yX1_keyOf cX1_keyOf 2 (some .int) : Cond) ∈ TB := t_4 (List.mem_of_getElem? (i := 74) rfl) rfl
theorem qM_L_102 : (.methodLink RL 102 yX9_victims : Cond) ∈ TB := t_4 (List.mem_of_getElem? (i := 75) rfl) rfl
theorem qV_X9_victims : (.instanceMethod yX9_victims : Cond) ∈ TB := t_4 (List.mem_of_getElem? (i := 76) rfl) rfl
theorem qL_X9_victims : (.selects RX9 yX9_victims yX9_victims : Cond) ∈ TB := t_4 (List.mem_of_getElem? (i := 77) rfl) rfl
theorem qD_X9_victims : (.code yX9_victims cX9_victims 5 (some .int) : Cond) ∈ TB := t_4 (List.mem_of_getElem? (i := 78) rfl) rfl
theorem qM_X9_221 : (.methodLink RX9 221 yX6_rejects : Cond) ∈ TB := t_4 (List.mem_of_getElem? (i := 79) rfl) rfl
theorem qM_X9_225 : (.methodLink RX9 225 yX9_layStore : Cond) ∈ TB := t_4 (List.mem_of_getElem? (i := 80) rfl) rfl
theorem qV_X9_layStore : (.instanceMethod yX9_layStore : Cond) ∈ TB := t_4 (List.mem_of_getElem? (i := 82) rfl) rfl
theorem qD_X9_layStore : (.code yX9_layStore cX9_layStore 1 (some (.object "TwinOrders$Store")) : Cond) ∈ TB := t_4 (List.mem_of_getElem? (i := 83) rfl) rfl
theorem qM_X9_384 : (.methodLink RX9 384 yX6_copyFrom : Cond) ∈ TB := t_4 (List.mem_of_getElem? (i := 84) rfl) rfl
theorem qM_X9_387 : (.methodLink RX9 387 yX7_open : Cond) ∈ TB := t_4 (List.mem_of_getElem? (i := 85) rfl) rfl
theorem qM_X9_229 : (.methodLink RX9 229 yX6_isTight : Cond) ∈ TB := t_4 (List.mem_of_getElem? (i := 86) rfl) rfl
theorem qM_X9_232 : (.methodLink RX9 232 yX6_evict : Cond) ∈ TB := t_4 (List.mem_of_getElem? (i := 87) rfl) rfl
theorem qM_L_106 : (.methodLink RL 106 yX9_room : Cond) ∈ TB := t_4 (List.mem_of_getElem? (i := 88) rfl) rfl
theorem qV_X9_room : (.instanceMethod yX9_room : Cond) ∈ TB := t_4 (List.mem_of_getElem? (i := 89) rfl) rfl
theorem qL_X9_room : (.selects RX9 yX9_room yX9_room : Cond) ∈ TB := t_4 (List.mem_of_getElem? (i := 90) rfl) rfl
theorem qD_X9_room : (.code yX9_room cX9_room 5 (some .int) : Cond) ∈ TB := t_4 (List.mem_of_getElem? (i := 91) rfl) rfl
theorem qM_X9_250 : (.methodLink RX9 250 yJ9_min_7cf53 : Cond) ∈ TB := t_4 (List.mem_of_getElem? (i := 92) rfl) rfl
theorem qM_L_110 : (.methodLink RL 110 yX9_kept : Cond) ∈ TB := t_4 (List.mem_of_getElem? (i := 93) rfl) rfl
theorem qV_X9_kept : (.instanceMethod yX9_kept : Cond) ∈ TB := t_4 (List.mem_of_getElem? (i := 94) rfl) rfl
theorem qL_X9_kept : (.selects RX9 yX9_kept yX9_kept : Cond) ∈ TB := t_4 (List.mem_of_getElem? (i := 95) rfl) rfl
theorem qD_X9_kept : (.code yX9_kept cX9_kept 4 (some .int) : Cond) ∈ TB := t_4 (List.mem_of_getElem? (i := 96) rfl) rfl
theorem qM_X9_258 : (.methodLink RX9 258 yX6_recap : Cond) ∈ TB := t_4 (List.mem_of_getElem? (i := 97) rfl) rfl
theorem qM_L_114 : (.methodLink RL 114 yX9_pack : Cond) ∈ TB := t_4 (List.mem_of_getElem? (i := 98) rfl) rfl
theorem qV_X9_pack : (.instanceMethod yX9_pack : Cond) ∈ TB := t_4 (List.mem_of_getElem? (i := 99) rfl) rfl
theorem qL_X9_pack : (.selects RX9 yX9_pack yX9_pack : Cond) ∈ TB := t_4 (List.mem_of_getElem? (i := 100) rfl) rfl
theorem qD_X9_pack : (.code yX9_pack cX9_pack 6 (some .int) : Cond) ∈ TB := t_4 (List.mem_of_getElem? (i := 101) rfl) rfl
theorem qM_X9_261 : (.methodLink RX9 261 yX9_isCap : Cond) ∈ TB := t_4 (List.mem_of_getElem? (i := 102) rfl) rfl
theorem qM_X9_264 : (.methodLink RX9 264 yJ7_fill_fda19 : Cond) ∈ TB := t_4 (List.mem_of_getElem? (i := 103) rfl) rfl
theorem qS_J7_fill_fda19 : (.static yJ7_fill_fda19 : Cond) ∈ TB := t_4 (List.mem_of_getElem? (i := 104) rfl) rfl
theorem qD_J7_fill_fda19 : (.code yJ7_fill_fda19 cJ7_fill_fda19 5 none : Cond) ∈ TB := t_4 (List.mem_of_getElem? (i := 105) rfl) rfl
theorem qM_J7_13 : (.methodLink RJ7 13 yJ7_rangeCheck_23922 : Cond) ∈ TB := t_4 (List.mem_of_getElem? (i := 106) rfl) rfl
theorem qS_J7_rangeCheck_23922 : (.static yJ7_rangeCheck_23922 : Cond) ∈ TB := t_4 (List.mem_of_getElem? (i := 107) rfl) rfl
theorem qD_J7_rangeCheck_23922 : (.code yJ7_rangeCheck_23922 cJ7_rangeCheck_23922 3 none : Cond) ∈ TB := t_4 (List.mem_of_getElem? (i := 108) rfl) rfl
theorem qM_X9_270 : (.methodLink RX9 270 yX9_packOne : Cond) ∈ TB := t_4 (List.mem_of_getElem? (i := 109) rfl) rfl
theorem qV_X9_packOne : (.instanceMethod yX9_packOne : Cond) ∈ TB := t_4 (List.mem_of_getElem? (i := 111) rfl) rfl
theorem qD_X9_packOne : (.code yX9_packOne cX9_packOne 5 none : Cond) ∈ TB := t_4 (List.mem_of_getElem? (i := 112) rfl) rfl
theorem qM_X9_390 : (.methodLink RX9 390 yJ9_max_7cf53 : Cond) ∈ TB := t_4 (List.mem_of_getElem? (i := 113) rfl) rfl
theorem qM_L_118 : (.methodLink RL 118 yX9_wakes : Cond) ∈ TB := t_4 (List.mem_of_getElem? (i := 114) rfl) rfl
theorem qV_X9_wakes : (.instanceMethod yX9_wakes : Cond) ∈ TB := t_4 (List.mem_of_getElem? (i := 115) rfl) rfl
theorem qL_X9_wakes : (.selects RX9 yX9_wakes yX9_wakes : Cond) ∈ TB := t_4 (List.mem_of_getElem? (i := 116) rfl) rfl
theorem qD_X9_wakes : (.code yX9_wakes cX9_wakes 5 (some .int) : Cond) ∈ TB := t_4 (List.mem_of_getElem? (i := 117) rfl) rfl
theorem qM_X9_274 : (.methodLink RX9 274 yX3_rouses : Cond) ∈ TB := t_4 (List.mem_of_getElem? (i := 118) rfl) rfl
theorem qV_X3_rouses : (.instanceMethod yX3_rouses : Cond) ∈ TB := t_4 (List.mem_of_getElem? (i := 119) rfl) rfl
theorem qL_X3_rouses : (.selects RX3 yX3_rouses yX3_rouses : Cond) ∈ TB := t_4 (List.mem_of_getElem? (i := 120) rfl) rfl
theorem qD_X3_rouses : (.code yX3_rouses cX3_rouses 4 (some .boolean) : Cond) ∈ TB := t_4 (List.mem_of_getElem? (i := 121) rfl) rfl
theorem qM_X3_46 : (.methodLink RX3 46 yX3_hearsKind : Cond) ∈ TB := t_4 (List.mem_of_getElem? (i := 122) rfl) rfl
theorem qM_X3_50 : (.methodLink RX3 50 yX3_makesKindFor : Cond) ∈ TB := t_4 (List.mem_of_getElem? (i := 123) rfl) rfl
theorem qV_X3_makesKindFor : (.instanceMethod yX3_makesKindFor : Cond) ∈ TB := t_4 (List.mem_of_getElem? (i := 125) rfl) rfl
theorem qD_X3_makesKindFor : (.code yX3_makesKindFor cX3_makesKindFor 2 (some .boolean) : Cond) ∈ TB := t_4 (List.mem_of_getElem? (i := 126) rfl) rfl
theorem qM_X3_54 : (.methodLink RX3 54 yX3_hearsKey : Cond) ∈ TB := t_4 (List.mem_of_getElem? (i := 127) rfl) rfl
theorem qM_X3_57 : (.methodLink RX3 57 yX3_keyFor : Cond) ∈ TB := t_4 (List.mem_of_getElem? (i := 128) rfl) rfl
theorem qM_L_122 : (.methodLink RL 122 yX9_ring : Cond) ∈ TB := t_4 (List.mem_of_getElem? (i := 129) rfl) rfl
theorem qV_X9_ring : (.instanceMethod yX9_ring : Cond) ∈ TB := t_4 (List.mem_of_getElem? (i := 130) rfl) rfl
theorem qL_X9_ring : (.selects RX9 yX9_ring yX9_ring : Cond) ∈ TB := t_4 (List.mem_of_getElem? (i := 131) rfl) rfl
theorem qD_X9_ring : (.code yX9_ring cX9_ring 2 (some .int) : Cond) ∈ TB := t_4 (List.mem_of_getElem? (i := 132) rfl) rfl
theorem qM_X9_278 : (.methodLink RX9 278 yX8_stepsAround : Cond) ∈ TB := t_4 (List.mem_of_getElem? (i := 133) rfl) rfl
theorem qV_X8_stepsAround : (.instanceMethod yX8_stepsAround : Cond) ∈ TB := t_4 (List.mem_of_getElem? (i := 134) rfl) rfl
theorem qL_X8_stepsAround : (.selects RX8 yX8_stepsAround yX8_stepsAround : Cond) ∈ TB := t_4 (List.mem_of_getElem? (i := 135) rfl) rfl
theorem qD_X8_stepsAround : (.code yX8_stepsAround cX8_stepsAround 7 (some .int) : Cond) ∈ TB := t_4 (List.mem_of_getElem? (i := 136) rfl) rfl
theorem qM_X8_190 : (.methodLink RX8 190 yX8_wokenBy : Cond) ∈ TB := t_4 (List.mem_of_getElem? (i := 137) rfl) rfl
theorem qV_X8_wokenBy : (.instanceMethod yX8_wokenBy : Cond) ∈ TB := t_4 (List.mem_of_getElem? (i := 139) rfl) rfl
theorem qD_X8_wokenBy : (.code yX8_wokenBy cX8_wokenBy 4 (some .int) : Cond) ∈ TB := t_4 (List.mem_of_getElem? (i := 140) rfl) rfl
theorem qM_X8_186 : (.methodLink RX8 186 yX3_rouses : Cond) ∈ TB := t_4 (List.mem_of_getElem? (i := 141) rfl) rfl
theorem qM_L_126 : (.methodLink RL 126 yX9_stir : Cond) ∈ TB := t_4 (List.mem_of_getElem? (i := 142) rfl) rfl
theorem qV_X9_stir : (.instanceMethod yX9_stir : Cond) ∈ TB := t_4 (List.mem_of_getElem? (i := 143) rfl) rfl
theorem qL_X9_stir : (.selects RX9 yX9_stir yX9_stir : Cond) ∈ TB := t_4 (List.mem_of_getElem? (i := 144) rfl) rfl
theorem qD_X9_stir : (.code yX9_stir cX9_stir 6 (some .int) : Cond) ∈ TB := t_4 (List.mem_of_getElem? (i := 145) rfl) rfl
theorem qM_L_130 : (.methodLink RL 130 yX9_behind : Cond) ∈ TB := t_4 (List.mem_of_getElem? (i := 146) rfl) rfl
theorem qV_X9_behind : (.instanceMethod yX9_behind : Cond) ∈ TB := t_4 (List.mem_of_getElem? (i := 147) rfl) rfl
theorem qL_X9_behind : (.selects RX9 yX9_behind yX9_behind : Cond) ∈ TB := t_4 (List.mem_of_getElem? (i := 148) rfl) rfl
theorem qD_X9_behind : (.code yX9_behind cX9_behind 8 (some .int) : Cond) ∈ TB := t_4 (List.mem_of_getElem? (i := 149) rfl) rfl
theorem qM_X9_289 : (.methodLink RX9 289 yX1_use : Cond) ∈ TB := t_4 (List.mem_of_getElem? (i := 150) rfl) rfl
theorem qM_L_135 : (.methodLink RL 135 yX9_turnOf : Cond) ∈ TB := t_4 (List.mem_of_getElem? (i := 151) rfl) rfl
theorem qV_X9_turnOf : (.instanceMethod yX9_turnOf : Cond) ∈ TB := t_4 (List.mem_of_getElem? (i := 152) rfl) rfl
theorem qL_X9_turnOf : (.selects RX9 yX9_turnOf yX9_turnOf : Cond) ∈ TB := t_4 (List.mem_of_getElem? (i := 153) rfl) rfl
theorem qD_X9_turnOf : (.code yX9_turnOf cX9_turnOf 6 (some .int) : Cond) ∈ TB := t_4 (List.mem_of_getElem? (i := 154) rfl) rfl
theorem qM_L_139 : (.methodLink RL 139 yX9_lead : Cond) ∈ TB := t_4 (List.mem_of_getElem? (i := 155) rfl) rfl
theorem qV_X9_lead : (.instanceMethod yX9_lead : Cond) ∈ TB := t_4 (List.mem_of_getElem? (i := 156) rfl) rfl
theorem qL_X9_lead : (.selects RX9 yX9_lead yX9_lead : Cond) ∈ TB := t_4 (List.mem_of_getElem? (i := 157) rfl) rfl
theorem qD_X9_lead : (.code yX9_lead cX9_lead 3 (some .int) : Cond) ∈ TB := t_4 (List.mem_of_getElem? (i := 158) rfl) rfl
theorem qM_X9_292 : (.methodLink RX9 292 yX1_weightsAhead : Cond) ∈ TB := t_4 (List.mem_of_getElem? (i := 159) rfl) rfl
theorem qV_X1_weightsAhead : (.instanceMethod yX1_weightsAhead : Cond) ∈ TB := t_4 (List.mem_of_getElem? (i := 160) rfl) rfl
theorem qL_X1_weightsAhead : (.selects RX1 yX1_weightsAhead yX1_weightsAhead : Cond) ∈ TB := t_4 (List.mem_of_getElem? (i := 161) rfl) rfl
theorem qD_X1_weightsAhead : (.code yX1_weightsAhead cX1_weightsAhead 5 (some .int) : Cond) ∈ TB := t_4 (List.mem_of_getElem? (i := 162) rfl) rfl
theorem qM_L_143 : (.methodLink RL 143 yX9_logged : Cond) ∈ TB := t_4 (List.mem_of_getElem? (i := 163) rfl) rfl
theorem qV_X9_logged : (.instanceMethod yX9_logged : Cond) ∈ TB := t_4 (List.mem_of_getElem? (i := 164) rfl) rfl
theorem qL_X9_logged : (.selects RX9 yX9_logged yX9_logged : Cond) ∈ TB := t_4 (List.mem_of_getElem? (i := 165) rfl) rfl
theorem qD_X9_logged : (.code yX9_logged cX9_logged 3 (some .int) : Cond) ∈ TB := t_4 (List.mem_of_getElem? (i := 166) rfl) rfl
theorem qM_X9_295 : (.methodLink RX9 295 yX4_howMany : Cond) ∈ TB := t_4 (List.mem_of_getElem? (i := 167) rfl) rfl
theorem qV_X4_howMany : (.instanceMethod yX4_howMany : Cond) ∈ TB := t_4 (List.mem_of_getElem? (i := 168) rfl) rfl
theorem qL_X4_howMany : (.selects RX4 yX4_howMany yX4_howMany : Cond) ∈ TB := t_4 (List.mem_of_getElem? (i := 169) rfl) rfl
theorem qD_X4_howMany : (.code yX4_howMany cX4_howMany 4 (some .int) : Cond) ∈ TB := t_4 (List.mem_of_getElem? (i := 170) rfl) rfl
theorem qM_X9_298 : (.methodLink RX9 298 yX4_deepest : Cond) ∈ TB := t_4 (List.mem_of_getElem? (i := 171) rfl) rfl
theorem qV_X4_deepest : (.instanceMethod yX4_deepest : Cond) ∈ TB := t_4 (List.mem_of_getElem? (i := 172) rfl) rfl
theorem qL_X4_deepest : (.selects RX4 yX4_deepest yX4_deepest : Cond) ∈ TB := t_4 (List.mem_of_getElem? (i := 173) rfl) rfl
theorem qD_X4_deepest : (.code yX4_deepest cX4_deepest 4 (some .int) : Cond) ∈ TB := t_4 (List.mem_of_getElem? (i := 174) rfl) rfl
theorem qM_X4_49 : (.methodLink RX4 49 yJ9_max_7cf53 : Cond) ∈ TB := t_4 (List.mem_of_getElem? (i := 175) rfl) rfl
theorem qM_X9_301 : (.methodLink RX9 301 yX4_unheard : Cond) ∈ TB := t_4 (List.mem_of_getElem? (i := 176) rfl) rfl
theorem qV_X4_unheard : (.instanceMethod yX4_unheard : Cond) ∈ TB := t_4 (List.mem_of_getElem? (i := 177) rfl) rfl
theorem qL_X4_unheard : (.selects RX4 yX4_unheard yX4_unheard : Cond) ∈ TB := t_4 (List.mem_of_getElem? (i := 178) rfl) rfl
theorem qD_X4_unheard : (.code yX4_unheard cX4_unheard 4 (some .int) : Cond) ∈ TB := t_4 (List.mem_of_getElem? (i := 179) rfl) rfl
theorem qM_L_147 : (.methodLink RL 147 yX9_hot : Cond) ∈ TB := t_4 (List.mem_of_getElem? (i := 180) rfl) rfl
theorem qV_X9_hot : (.instanceMethod yX9_hot : Cond) ∈ TB := t_4 (List.mem_of_getElem? (i := 181) rfl) rfl
theorem qL_X9_hot : (.selects RX9 yX9_hot yX9_hot : Cond) ∈ TB := t_4 (List.mem_of_getElem? (i := 182) rfl) rfl
theorem qD_X9_hot : (.code yX9_hot cX9_hot 4 (some .int) : Cond) ∈ TB := t_4 (List.mem_of_getElem? (i := 183) rfl) rfl
theorem qM_X9_304 : (.methodLink RX9 304 yX0_read : Cond) ∈ TB := t_4 (List.mem_of_getElem? (i := 184) rfl) rfl
theorem qV_X0_read : (.instanceMethod yX0_read : Cond) ∈ TB := t_4 (List.mem_of_getElem? (i := 185) rfl) rfl
theorem qL_X0_read : (.selects RX0 yX0_read yX0_read : Cond) ∈ TB := t_4 (List.mem_of_getElem? (i := 186) rfl) rfl
theorem qD_X0_read : (.code yX0_read cX0_read 3 none : Cond) ∈ TB := t_4 (List.mem_of_getElem? (i := 187) rfl) rfl
theorem qM_X0_42 : (.methodLink RX0 42 arraycopyName : Cond) ∈ TB := t_4 (List.mem_of_getElem? (i := 188) rfl) rfl
theorem qM_X0_48 : (.methodLink RX0 48 yX0_nextOf : Cond) ∈ TB := t_4 (List.mem_of_getElem? (i := 189) rfl) rfl
theorem qV_X0_nextOf : (.instanceMethod yX0_nextOf : Cond) ∈ TB := t_4 (List.mem_of_getElem? (i := 191) rfl) rfl
theorem qD_X0_nextOf : (.code yX0_nextOf cX0_nextOf 4 (some .int) : Cond) ∈ TB := t_4 (List.mem_of_getElem? (i := 192) rfl) rfl
theorem qM_X9_308 : (.methodLink RX9 308 yX0_unlike : Cond) ∈ TB := t_4 (List.mem_of_getElem? (i := 193) rfl) rfl
theorem qV_X0_unlike : (.instanceMethod yX0_unlike : Cond) ∈ TB := t_4 (List.mem_of_getElem? (i := 194) rfl) rfl
theorem qL_X0_unlike : (.selects RX0 yX0_unlike yX0_unlike : Cond) ∈ TB := t_4 (List.mem_of_getElem? (i := 195) rfl) rfl
theorem qD_X0_unlike : (.code yX0_unlike cX0_unlike 3 (some .int) : Cond) ∈ TB := t_4 (List.mem_of_getElem? (i := 196) rfl) rfl
theorem qM_X9_311 : (.methodLink RX9 311 yX0_hottest : Cond) ∈ TB := t_4 (List.mem_of_getElem? (i := 197) rfl) rfl
theorem qV_X0_hottest : (.instanceMethod yX0_hottest : Cond) ∈ TB := t_4 (List.mem_of_getElem? (i := 198) rfl) rfl
theorem qL_X0_hottest : (.selects RX0 yX0_hottest yX0_hottest : Cond) ∈ TB := t_4 (List.mem_of_getElem? (i := 199) rfl) rfl
theorem qD_X0_hottest : (.code yX0_hottest cX0_hottest 3 (some .int) : Cond) ∈ TB := t_4 (List.mem_of_getElem? (i := 200) rfl) rfl
theorem qM_X0_52 : (.methodLink RX0 52 yX0_countOften : Cond) ∈ TB := t_4 (List.mem_of_getElem? (i := 201) rfl) rfl
theorem qV_X0_countOften : (.instanceMethod yX0_countOften : Cond) ∈ TB := t_4 (List.mem_of_getElem? (i := 203) rfl) rfl
theorem qD_X0_countOften : (.code yX0_countOften cX0_countOften 3 none : Cond) ∈ TB := t_4 (List.mem_of_getElem? (i := 204) rfl) rfl
theorem qM_X0_55 : (.methodLink RX0 55 yX0_hotterThan : Cond) ∈ TB := t_4 (List.mem_of_getElem? (i := 205) rfl) rfl
theorem qV_X0_hotterThan : (.instanceMethod yX0_hotterThan : Cond) ∈ TB := t_4 (List.mem_of_getElem? (i := 207) rfl) rfl
theorem qD_X0_hotterThan : (.code yX0_hotterThan cX0_hotterThan 4 (some .int) : Cond) ∈ TB := t_4 (List.mem_of_getElem? (i := 208) rfl) rfl
theorem qM_L_151 : (.methodLink RL 151 yX9_profile : Cond) ∈ TB := t_4 (List.mem_of_getElem? (i := 209) rfl) rfl
theorem qV_X9_profile : (.instanceMethod yX9_profile : Cond) ∈ TB := t_4 (List.mem_of_getElem? (i := 210) rfl) rfl
theorem qL_X9_profile : (.selects RX9 yX9_profile yX9_profile : Cond) ∈ TB := t_4 (List.mem_of_getElem? (i := 211) rfl) rfl
theorem qD_X9_profile : (.code yX9_profile cX9_profile 4 (some .int) : Cond) ∈ TB := t_4 (List.mem_of_getElem? (i := 212) rfl) rfl
theorem qM_X9_319 : (.methodLink RX9 319 yX0_othersSince : Cond) ∈ TB := t_4 (List.mem_of_getElem? (i := 213) rfl) rfl
theorem qV_X0_othersSince : (.instanceMethod yX0_othersSince : Cond) ∈ TB := t_4 (List.mem_of_getElem? (i := 214) rfl) rfl
theorem qL_X0_othersSince : (.selects RX0 yX0_othersSince yX0_othersSince : Cond) ∈ TB := t_4 (List.mem_of_getElem? (i := 215) rfl) rfl
theorem qD_X0_othersSince : (.code yX0_othersSince cX0_othersSince 5 (some .int) : Cond) ∈ TB := t_4 (List.mem_of_getElem? (i := 216) rfl) rfl
theorem qM_X0_59 : (.methodLink RX0 59 yX0_previousOf : Cond) ∈ TB := t_4 (List.mem_of_getElem? (i := 217) rfl) rfl
theorem qV_X0_previousOf : (.instanceMethod yX0_previousOf : Cond) ∈ TB := t_4 (List.mem_of_getElem? (i := 219) rfl) rfl
theorem qD_X0_previousOf : (.code yX0_previousOf cX0_previousOf 3 (some .int) : Cond) ∈ TB := t_4 (List.mem_of_getElem? (i := 220) rfl) rfl
theorem qM_L_155 : (.methodLink RL 155 yX9_agree : Cond) ∈ TB := t_4 (List.mem_of_getElem? (i := 221) rfl) rfl
theorem qV_X9_agree : (.instanceMethod yX9_agree : Cond) ∈ TB := t_4 (List.mem_of_getElem? (i := 222) rfl) rfl
theorem qL_X9_agree : (.selects RX9 yX9_agree yX9_agree : Cond) ∈ TB := t_4 (List.mem_of_getElem? (i := 223) rfl) rfl
theorem qD_X9_agree : (.code yX9_agree cX9_agree 3 (some .int) : Cond) ∈ TB := t_4 (List.mem_of_getElem? (i := 224) rfl) rfl
theorem qM_X9_322 : (.methodLink RX9 322 yX9_isPaperCap : Cond) ∈ TB := t_4 (List.mem_of_getElem? (i := 225) rfl) rfl
theorem qS_X9_isPaperCap : (.static yX9_isPaperCap : Cond) ∈ TB := t_4 (List.mem_of_getElem? (i := 226) rfl) rfl
theorem qD_X9_isPaperCap : (.code yX9_isPaperCap cX9_isPaperCap 1 (some .boolean) : Cond) ∈ TB := t_4 (List.mem_of_getElem? (i := 227) rfl) rfl
theorem qM_X9_325 : (.methodLink RX9 325 yX0_findShared : Cond) ∈ TB := t_4 (List.mem_of_getElem? (i := 228) rfl) rfl
theorem qV_X0_findShared : (.instanceMethod yX0_findShared : Cond) ∈ TB := t_4 (List.mem_of_getElem? (i := 229) rfl) rfl
theorem qL_X0_findShared : (.selects RX0 yX0_findShared yX0_findShared : Cond) ∈ TB := t_4 (List.mem_of_getElem? (i := 230) rfl) rfl
theorem qD_X0_findShared : (.code yX0_findShared cX0_findShared 3 none : Cond) ∈ TB := t_4 (List.mem_of_getElem? (i := 231) rfl) rfl
theorem qM_X0_125 : (.methodLink RX0 125 yX0_run : Cond) ∈ TB := t_4 (List.mem_of_getElem? (i := 232) rfl) rfl
theorem qV_X0_run : (.instanceMethod yX0_run : Cond) ∈ TB := t_4 (List.mem_of_getElem? (i := 233) rfl) rfl
theorem qL_X0_run : (.selects RX0 yX0_run yX0_run : Cond) ∈ TB := t_4 (List.mem_of_getElem? (i := 234) rfl) rfl
theorem qD_X0_run : (.code yX0_run cX0_run 4 none : Cond) ∈ TB := t_4 (List.mem_of_getElem? (i := 235) rfl) rfl
theorem qM_X0_62 : (.methodLink RX0 62 yX6_empty : Cond) ∈ TB := t_4 (List.mem_of_getElem? (i := 236) rfl) rfl
theorem qV_X6_empty : (.instanceMethod yX6_empty : Cond) ∈ TB := t_4 (List.mem_of_getElem? (i := 237) rfl) rfl
theorem qL_X6_empty : (.selects RX6 yX6_empty yX6_empty : Cond) ∈ TB := t_4 (List.mem_of_getElem? (i := 238) rfl) rfl
theorem qD_X6_empty : (.code yX6_empty cX6_empty 3 none : Cond) ∈ TB := t_4 (List.mem_of_getElem? (i := 239) rfl) rfl
theorem qM_X6_68 : (.methodLink RX6 68 yX1_empty : Cond) ∈ TB := t_5 (List.mem_of_getElem? (i := 0) rfl) rfl
theorem qV_X1_empty : (.instanceMethod yX1_empty : Cond) ∈ TB := t_5 (List.mem_of_getElem? (i := 1) rfl) rfl
theorem qL_X1_empty : (.selects RX1 yX1_empty yX1_empty : Cond) ∈ TB := t_5 (List.mem_of_getElem? (i := 2) rfl) rfl
theorem qD_X1_empty : (.code yX1_empty cX1_empty 2 none : Cond) ∈ TB := t_5 (List.mem_of_getElem? (i := 3) rfl) rfl
theorem qM_X6_75 : (.methodLink RX6 75 yJ7_fill_53178 : Cond) ∈ TB := t_5 (List.mem_of_getElem? (i := 4) rfl) rfl
theorem qS_J7_fill_53178 : (.static yJ7_fill_53178 : Cond) ∈ TB := t_5 (List.mem_of_getElem? (i := 5) rfl) rfl
theorem qD_J7_fill_53178 : (.code yJ7_fill_53178 cJ7_fill_53178 4 none : Cond) ∈ TB := t_5 (List.mem_of_getElem? (i := 6) rfl) rfl
theorem qM_X0_73 : (.methodLink RX0 73 yX7_open : Cond) ∈ TB := t_5 (List.mem_of_getElem? (i := 7) rfl) rfl
theorem qM_X0_82 : (.methodLink RX0 82 yX1_find : Cond) ∈ TB := t_5 (List.mem_of_getElem? (i := 8) rfl) rfl
theorem qM_X0_87 : (.methodLink RX0 87 yX6_isTight : Cond) ∈ TB := t_5 (List.mem_of_getElem? (i := 9) rfl) rfl
theorem qM_X0_91 : (.methodLink RX0 91 yX0_farthest : Cond) ∈ TB := t_5 (List.mem_of_getElem? (i := 10) rfl) rfl
theorem qV_X0_farthest : (.instanceMethod yX0_farthest : Cond) ∈ TB := t_5 (List.mem_of_getElem? (i := 12) rfl) rfl
theorem qD_X0_farthest : (.code yX0_farthest cX0_farthest 6 (some .int) : Cond) ∈ TB := t_5 (List.mem_of_getElem? (i := 13) rfl) rfl
theorem qM_X0_115 : (.methodLink RX0 115 yX0_nextRequest : Cond) ∈ TB := t_5 (List.mem_of_getElem? (i := 14) rfl) rfl
theorem qV_X0_nextRequest : (.instanceMethod yX0_nextRequest : Cond) ∈ TB := t_5 (List.mem_of_getElem? (i := 16) rfl) rfl
theorem qD_X0_nextRequest : (.code yX0_nextRequest cX0_nextRequest 3 (some .int) : Cond) ∈ TB := t_5 (List.mem_of_getElem? (i := 17) rfl) rfl
theorem qM_X0_119 : (.methodLink RX0 119 yX1_keyOf : Cond) ∈ TB := t_5 (List.mem_of_getElem? (i := 18) rfl) rfl
theorem qM_X0_95 : (.methodLink RX0 95 yX6_evict : Cond) ∈ TB := t_5 (List.mem_of_getElem? (i := 19) rfl) rfl
theorem qM_X0_99 : (.methodLink RX0 99 yX6_bring : Cond) ∈ TB := t_5 (List.mem_of_getElem? (i := 20) rfl) rfl
theorem qM_X0_103 : (.methodLink RX0 103 yX0_goneNow : Cond) ∈ TB := t_5 (List.mem_of_getElem? (i := 21) rfl) rfl
theorem qV_X0_goneNow : (.instanceMethod yX0_goneNow : Cond) ∈ TB := t_5 (List.mem_of_getElem? (i := 23) rfl) rfl
theorem qD_X0_goneNow : (.code yX0_goneNow cX0_goneNow 2 (some .int) : Cond) ∈ TB := t_5 (List.mem_of_getElem? (i := 24) rfl) rfl
theorem qM_X0_131 : (.methodLink RX0 131 yX0_insertShared : Cond) ∈ TB := t_5 (List.mem_of_getElem? (i := 25) rfl) rfl
theorem qV_X0_insertShared : (.instanceMethod yX0_insertShared : Cond) ∈ TB := t_5 (List.mem_of_getElem? (i := 27) rfl) rfl
theorem qD_X0_insertShared : (.code yX0_insertShared cX0_insertShared 3 none : Cond) ∈ TB := t_5 (List.mem_of_getElem? (i := 28) rfl) rfl
theorem qM_X0_134 : (.methodLink RX0 134 yX0_retainShared : Cond) ∈ TB := t_5 (List.mem_of_getElem? (i := 29) rfl) rfl
theorem qV_X0_retainShared : (.instanceMethod yX0_retainShared : Cond) ∈ TB := t_5 (List.mem_of_getElem? (i := 31) rfl) rfl
theorem qD_X0_retainShared : (.code yX0_retainShared cX0_retainShared 3 none : Cond) ∈ TB := t_5 (List.mem_of_getElem? (i := 32) rfl) rfl
theorem qM_L_159 : (.methodLink RL 159 yX9_regret : Cond) ∈ TB := t_5 (List.mem_of_getElem? (i := 33) rfl) rfl
theorem qV_X9_regret : (.instanceMethod yX9_regret : Cond) ∈ TB := t_5 (List.mem_of_getElem? (i := 34) rfl) rfl
theorem qL_X9_regret : (.selects RX9 yX9_regret yX9_regret : Cond) ∈ TB := t_5 (List.mem_of_getElem? (i := 35) rfl) rfl
theorem qD_X9_regret : (.code yX9_regret cX9_regret 4 (some .int) : Cond) ∈ TB := t_5 (List.mem_of_getElem? (i := 36) rfl) rfl
theorem qM_X9_334 : (.methodLink RX9 334 yX9_goThrough : Cond) ∈ TB := t_5 (List.mem_of_getElem? (i := 37) rfl) rfl
theorem qV_X9_goThrough : (.instanceMethod yX9_goThrough : Cond) ∈ TB := t_5 (List.mem_of_getElem? (i := 39) rfl) rfl
theorem qD_X9_goThrough : (.code yX9_goThrough cX9_goThrough 3 (some .boolean) : Cond) ∈ TB := t_5 (List.mem_of_getElem? (i := 40) rfl) rfl
theorem qM_X9_350 : (.methodLink RX9 350 yX9_isPaperWay : Cond) ∈ TB := t_5 (List.mem_of_getElem? (i := 41) rfl) rfl
theorem qS_X9_isPaperWay : (.static yX9_isPaperWay : Cond) ∈ TB := t_5 (List.mem_of_getElem? (i := 42) rfl) rfl
theorem qD_X9_isPaperWay : (.code yX9_isPaperWay cX9_isPaperWay 1 (some .boolean) : Cond) ∈ TB := t_5 (List.mem_of_getElem? (i := 43) rfl) rfl
theorem qM_X9_356 : (.methodLink RX9 356 yX0_run : Cond) ∈ TB := t_5 (List.mem_of_getElem? (i := 44) rfl) rfl
theorem qM_X9_337 : (.methodLink RX9 337 yX0_regrets : Cond) ∈ TB := t_5 (List.mem_of_getElem? (i := 45) rfl) rfl
theorem qV_X0_regrets : (.instanceMethod yX0_regrets : Cond) ∈ TB := t_5 (List.mem_of_getElem? (i := 46) rfl) rfl
theorem qL_X0_regrets : (.selects RX0 yX0_regrets yX0_regrets : Cond) ∈ TB := t_5 (List.mem_of_getElem? (i := 47) rfl) rfl
theorem qD_X0_regrets : (.code yX0_regrets cX0_regrets 3 (some .int) : Cond) ∈ TB := t_5 (List.mem_of_getElem? (i := 48) rfl) rfl
theorem qM_X9_340 : (.methodLink RX9 340 yX0_nearestRegret : Cond) ∈ TB := t_5 (List.mem_of_getElem? (i := 49) rfl) rfl
theorem qV_X0_nearestRegret : (.instanceMethod yX0_nearestRegret : Cond) ∈ TB := t_5 (List.mem_of_getElem? (i := 50) rfl) rfl
theorem qL_X0_nearestRegret : (.selects RX0 yX0_nearestRegret yX0_nearestRegret : Cond) ∈ TB := t_5 (List.mem_of_getElem? (i := 51) rfl) rfl
theorem qD_X0_nearestRegret : (.code yX0_nearestRegret cX0_nearestRegret 4 (some .int) : Cond) ∈ TB := t_5 (List.mem_of_getElem? (i := 52) rfl) rfl
theorem qM_L_163 : (.methodLink RL 163 yX9_distance : Cond) ∈ TB := t_5 (List.mem_of_getElem? (i := 53) rfl) rfl
theorem qV_X9_distance : (.instanceMethod yX9_distance : Cond) ∈ TB := t_5 (List.mem_of_getElem? (i := 54) rfl) rfl
theorem qL_X9_distance : (.selects RX9 yX9_distance yX9_distance : Cond) ∈ TB := t_5 (List.mem_of_getElem? (i := 55) rfl) rfl
theorem qD_X9_distance : (.code yX9_distance cX9_distance 2 (some .int) : Cond) ∈ TB := t_5 (List.mem_of_getElem? (i := 56) rfl) rfl
theorem qM_L_167 : (.methodLink RL 167 yX9_replay : Cond) ∈ TB := t_5 (List.mem_of_getElem? (i := 57) rfl) rfl
theorem qV_X9_replay : (.instanceMethod yX9_replay : Cond) ∈ TB := t_5 (List.mem_of_getElem? (i := 58) rfl) rfl
theorem qL_X9_replay : (.selects RX9 yX9_replay yX9_replay : Cond) ∈ TB := t_5 (List.mem_of_getElem? (i := 59) rfl) rfl
theorem qD_X9_replay : (.code yX9_replay cX9_replay 4 (some .int) : Cond) ∈ TB := t_5 (List.mem_of_getElem? (i := 60) rfl) rfl
theorem qM_L_171 : (.methodLink RL 171 yX9_replayed : Cond) ∈ TB := t_5 (List.mem_of_getElem? (i := 61) rfl) rfl
theorem qV_X9_replayed : (.instanceMethod yX9_replayed : Cond) ∈ TB := t_5 (List.mem_of_getElem? (i := 62) rfl) rfl
theorem qL_X9_replayed : (.selects RX9 yX9_replayed yX9_replayed : Cond) ∈ TB := t_5 (List.mem_of_getElem? (i := 63) rfl) rfl
theorem qD_X9_replayed : (.code yX9_replayed cX9_replayed 4 (some .int) : Cond) ∈ TB := t_5 (List.mem_of_getElem? (i := 64) rfl) rfl
theorem qM_L_175 : (.methodLink RL 175 yX9_least : Cond) ∈ TB := t_5 (List.mem_of_getElem? (i := 65) rfl) rfl
theorem qV_X9_least : (.instanceMethod yX9_least : Cond) ∈ TB := t_5 (List.mem_of_getElem? (i := 66) rfl) rfl
theorem qL_X9_least : (.selects RX9 yX9_least yX9_least : Cond) ∈ TB := t_5 (List.mem_of_getElem? (i := 67) rfl) rfl
theorem qD_X9_least : (.code yX9_least cX9_least 3 (some .int) : Cond) ∈ TB := t_5 (List.mem_of_getElem? (i := 68) rfl) rfl
theorem qM_X9_353 : (.methodLink RX9 353 yX0_leastCap : Cond) ∈ TB := t_5 (List.mem_of_getElem? (i := 69) rfl) rfl
theorem qV_X0_leastCap : (.instanceMethod yX0_leastCap : Cond) ∈ TB := t_5 (List.mem_of_getElem? (i := 70) rfl) rfl
theorem qL_X0_leastCap : (.selects RX0 yX0_leastCap yX0_leastCap : Cond) ∈ TB := t_5 (List.mem_of_getElem? (i := 71) rfl) rfl
theorem qD_X0_leastCap : (.code yX0_leastCap cX0_leastCap 4 (some .int) : Cond) ∈ TB := t_5 (List.mem_of_getElem? (i := 72) rfl) rfl
theorem qM_X0_122 : (.methodLink RX0 122 yX0_unlike : Cond) ∈ TB := t_5 (List.mem_of_getElem? (i := 73) rfl) rfl
theorem qM_L_179 : (.methodLink RL 179 yX9_best : Cond) ∈ TB := t_5 (List.mem_of_getElem? (i := 74) rfl) rfl
theorem qV_X9_best : (.instanceMethod yX9_best : Cond) ∈ TB := t_5 (List.mem_of_getElem? (i := 75) rfl) rfl
theorem qL_X9_best : (.selects RX9 yX9_best yX9_best : Cond) ∈ TB := t_5 (List.mem_of_getElem? (i := 76) rfl) rfl
theorem qD_X9_best : (.code yX9_best cX9_best 6 (some .int) : Cond) ∈ TB := t_5 (List.mem_of_getElem? (i := 77) rfl) rfl
theorem qM_L_183 : (.methodLink RL 183 yX9_count : Cond) ∈ TB := t_5 (List.mem_of_getElem? (i := 78) rfl) rfl
theorem qV_X9_count : (.instanceMethod yX9_count : Cond) ∈ TB := t_5 (List.mem_of_getElem? (i := 79) rfl) rfl
theorem qL_X9_count : (.selects RX9 yX9_count yX9_count : Cond) ∈ TB := t_5 (List.mem_of_getElem? (i := 80) rfl) rfl
theorem qD_X9_count : (.code yX9_count cX9_count 3 (some .int) : Cond) ∈ TB := t_5 (List.mem_of_getElem? (i := 81) rfl) rfl
theorem qC_L_10 : (.classLink RL 10 RX10 : Cond) ∈ TB := t_5 (List.mem_of_getElem? (i := 82) rfl) rfl
theorem qT_X10 : (.instantiable RX10 16 : Cond) ∈ TB := t_5 (List.mem_of_getElem? (i := 83) rfl) rfl
theorem qM_L_12 : (.methodLink RL 12 yX10_init : Cond) ∈ TB := t_5 (List.mem_of_getElem? (i := 84) rfl) rfl
theorem qV_X10_init : (.instanceMethod yX10_init : Cond) ∈ TB := t_5 (List.mem_of_getElem? (i := 85) rfl) rfl
theorem qD_X10_init : (.code yX10_init cX10_init 1 none : Cond) ∈ TB := t_5 (List.mem_of_getElem? (i := 86) rfl) rfl
theorem qM_X10_11 : (.methodLink RX10 11 objectInit : Cond) ∈ TB := t_5 (List.mem_of_getElem? (i := 87) rfl) rfl
theorem qM_X10_37 : (.methodLink RX10 37 yX10_begins : Cond) ∈ TB := t_5 (List.mem_of_getElem? (i := 88) rfl) rfl
theorem qV_X10_begins : (.instanceMethod yX10_begins : Cond) ∈ TB := t_5 (List.mem_of_getElem? (i := 90) rfl) rfl
theorem qD_X10_begins : (.code yX10_begins cX10_begins 4 none : Cond) ∈ TB := t_5 (List.mem_of_getElem? (i := 91) rfl) rfl
theorem qF_X10_1 : (.fieldLink RX10 1 "TwinOrdersModel" "thrown" "I" : Cond) ∈ TB := t_5 (List.mem_of_getElem? (i := 92) rfl) rfl
theorem qF_X10_17 : (.fieldLink RX10 17 "TwinOrdersModel" "w" "[I" : Cond) ∈ TB := t_5 (List.mem_of_getElem? (i := 93) rfl) rfl
theorem qF_X10_41 : (.fieldLink RX10 41 "TwinOrdersModel" "o" "I" : Cond) ∈ TB := t_5 (List.mem_of_getElem? (i := 94) rfl) rfl
theorem qF_X10_21 : (.fieldLink RX10 21 "TwinOrdersModel" "isKept" "[Z" : Cond) ∈ TB := t_5 (List.mem_of_getElem? (i := 95) rfl) rfl
theorem qF_X10_25 : (.fieldLink RX10 25 "TwinOrdersModel" "went" "[I" : Cond) ∈ TB := t_5 (List.mem_of_getElem? (i := 96) rfl) rfl
theorem qF_X10_95 : (.fieldLink RX10 95 "TwinOrdersModel" "wentMany" "I" : Cond) ∈ TB := t_5 (List.mem_of_getElem? (i := 97) rfl) rfl
theorem qF_X10_28 : (.fieldLink RX10 28 "TwinOrdersModel" "waiting" "[I" : Cond) ∈ TB := t_5 (List.mem_of_getElem? (i := 98) rfl) rfl
theorem qF_X10_109 : (.fieldLink RX10 109 "TwinOrdersModel" "came" "I" : Cond) ∈ TB := t_5 (List.mem_of_getElem? (i := 99) rfl) rfl
theorem qF_X10_112 : (.fieldLink RX10 112 "TwinOrdersModel" "depth" "I" : Cond) ∈ TB := t_5 (List.mem_of_getElem? (i := 100) rfl) rfl
theorem qF_X10_105 : (.fieldLink RX10 105 "TwinOrdersModel" "isSilent" "Z" : Cond) ∈ TB := t_5 (List.mem_of_getElem? (i := 101) rfl) rfl
theorem qF_X10_227 : (.fieldLink RX10 227 "TwinOrdersModel" "x" "J" : Cond) ∈ TB := t_5 (List.mem_of_getElem? (i := 102) rfl) rfl
theorem qF_X10_31 : (.fieldLink RX10 31 "TwinOrdersModel" "packed" "[I" : Cond) ∈ TB := t_5 (List.mem_of_getElem? (i := 103) rfl) rfl
theorem qF_X10_295 : (.fieldLink RX10 295 "TwinOrdersModel" "hits" "I" : Cond) ∈ TB := t_5 (List.mem_of_getElem? (i := 104) rfl) rfl
theorem qF_X10_289 : (.fieldLink RX10 289 "TwinOrdersModel" "rues" "I" : Cond) ∈ TB := t_5 (List.mem_of_getElem? (i := 105) rfl) rfl
theorem qF_X10_292 : (.fieldLink RX10 292 "TwinOrdersModel" "soonest" "I" : Cond) ∈ TB := t_5 (List.mem_of_getElem? (i := 106) rfl) rfl
theorem qF_X10_34 : (.fieldLink RX10 34 "TwinOrdersModel" "inAll" "[Z" : Cond) ∈ TB := t_5 (List.mem_of_getElem? (i := 107) rfl) rfl
theorem qM_L_17 : (.methodLink RL 17 yX10_put : Cond) ∈ TB := t_5 (List.mem_of_getElem? (i := 141) rfl) rfl
theorem qV_X10_put : (.instanceMethod yX10_put : Cond) ∈ TB := t_5 (List.mem_of_getElem? (i := 142) rfl) rfl
theorem qL_X10_put : (.selects RX10 yX10_put yX10_put : Cond) ∈ TB := t_5 (List.mem_of_getElem? (i := 143) rfl) rfl
theorem qD_X10_put : (.code yX10_put cX10_put 5 (some .int) : Cond) ∈ TB := t_5 (List.mem_of_getElem? (i := 144) rfl) rfl
theorem qM_X10_194 : (.methodLink RX10 194 yX10_isKey : Cond) ∈ TB := t_5 (List.mem_of_getElem? (i := 145) rfl) rfl
theorem qS_X10_isKey : (.static yX10_isKey : Cond) ∈ TB := t_5 (List.mem_of_getElem? (i := 146) rfl) rfl
theorem qD_X10_isKey : (.code yX10_isKey cX10_isKey 1 (some .boolean) : Cond) ∈ TB := t_5 (List.mem_of_getElem? (i := 147) rfl) rfl
theorem qJ_X10_47 : (.constantLong RX10 47 (999) : Cond) ∈ TB := t_5 (List.mem_of_getElem? (i := 148) rfl) rfl
theorem qM_X10_49 : (.methodLink RX10 49 yX10_isIn : Cond) ∈ TB := t_5 (List.mem_of_getElem? (i := 149) rfl) rfl
theorem qS_X10_isIn : (.static yX10_isIn : Cond) ∈ TB := t_5 (List.mem_of_getElem? (i := 150) rfl) rfl
theorem qD_X10_isIn : (.code yX10_isIn cX10_isIn 6 (some .boolean) : Cond) ∈ TB := t_5 (List.mem_of_getElem? (i := 151) rfl) rfl
theorem qJ_X10_197 : (.constantLong RX10 197 (-9999) : Cond) ∈ TB := t_5 (List.mem_of_getElem? (i := 152) rfl) rfl
theorem qJ_X10_199 : (.constantLong RX10 199 (9999) : Cond) ∈ TB := t_5 (List.mem_of_getElem? (i := 153) rfl) rfl
theorem qJ_X10_201 : (.constantLong RX10 201 (99) : Cond) ∈ TB := t_5 (List.mem_of_getElem? (i := 154) rfl) rfl
theorem qM_X10_203 : (.methodLink RX10 203 yX10_putCalled : Cond) ∈ TB := t_5 (List.mem_of_getElem? (i := 155) rfl) rfl
theorem qV_X10_putCalled : (.instanceMethod yX10_putCalled : Cond) ∈ TB := t_5 (List.mem_of_getElem? (i := 157) rfl) rfl
theorem qD_X10_putCalled : (.code yX10_putCalled cX10_putCalled 5 (some .int) : Cond) ∈ TB := t_5 (List.mem_of_getElem? (i := 158) rfl) rfl
theorem qM_X10_185 : (.methodLink RX10 185 yX10_call : Cond) ∈ TB := t_5 (List.mem_of_getElem? (i := 159) rfl) rfl
theorem qV_X10_call : (.instanceMethod yX10_call : Cond) ∈ TB := t_5 (List.mem_of_getElem? (i := 161) rfl) rfl
theorem qD_X10_call : (.code yX10_call cX10_call 1 none : Cond) ∈ TB := t_5 (List.mem_of_getElem? (i := 162) rfl) rfl
theorem qM_X10_188 : (.methodLink RX10 188 yX10_requests : Cond) ∈ TB := t_5 (List.mem_of_getElem? (i := 163) rfl) rfl
theorem qV_X10_requests : (.instanceMethod yX10_requests : Cond) ∈ TB := t_5 (List.mem_of_getElem? (i := 165) rfl) rfl
theorem qD_X10_requests : (.code yX10_requests cX10_requests 3 none : Cond) ∈ TB := t_5 (List.mem_of_getElem? (i := 166) rfl) rfl
theorem qM_X10_133 : (.methodLink RX10 133 yX10_puts : Cond) ∈ TB := t_5 (List.mem_of_getElem? (i := 167) rfl) rfl
theorem qV_X10_puts : (.instanceMethod yX10_puts : Cond) ∈ TB := t_5 (List.mem_of_getElem? (i := 169) rfl) rfl
theorem qD_X10_puts : (.code yX10_puts cX10_puts 7 (some .int) : Cond) ∈ TB := t_5 (List.mem_of_getElem? (i := 170) rfl) rfl
theorem qM_X10_167 : (.methodLink RX10 167 yX10_isRejected : Cond) ∈ TB := t_5 (List.mem_of_getElem? (i := 171) rfl) rfl
theorem qV_X10_isRejected : (.instanceMethod yX10_isRejected : Cond) ∈ TB := t_5 (List.mem_of_getElem? (i := 173) rfl) rfl
theorem qD_X10_isRejected : (.code yX10_isRejected cX10_isRejected 3 (some .boolean) : Cond) ∈ TB := t_5 (List.mem_of_getElem? (i := 174) rfl) rfl
theorem qM_X10_127 : (.methodLink RX10 127 yX10_pinned : Cond) ∈ TB := t_5 (List.mem_of_getElem? (i := 175) rfl) rfl
theorem qV_X10_pinned : (.instanceMethod yX10_pinned : Cond) ∈ TB := t_5 (List.mem_of_getElem? (i := 177) rfl) rfl
theorem qD_X10_pinned : (.code yX10_pinned cX10_pinned 4 (some .int) : Cond) ∈ TB := t_5 (List.mem_of_getElem? (i := 178) rfl) rfl
theorem qM_X10_44 : (.methodLink RX10 44 yX10_of : Cond) ∈ TB := t_5 (List.mem_of_getElem? (i := 179) rfl) rfl
theorem qV_X10_of : (.instanceMethod yX10_of : Cond) ∈ TB := t_5 (List.mem_of_getElem? (i := 181) rfl) rfl
theorem qD_X10_of : (.code yX10_of cX10_of 3 (some .int) : Cond) ∈ TB := t_5 (List.mem_of_getElem? (i := 182) rfl) rfl
theorem qM_X10_160 : (.methodLink RX10 160 yX10_pinnedMany : Cond) ∈ TB := t_5 (List.mem_of_getElem? (i := 183) rfl) rfl
theorem qV_X10_pinnedMany : (.instanceMethod yX10_pinnedMany : Cond) ∈ TB := t_5 (List.mem_of_getElem? (i := 185) rfl) rfl
theorem qD_X10_pinnedMany : (.code yX10_pinnedMany cX10_pinnedMany 3 (some .int) : Cond) ∈ TB := t_5 (List.mem_of_getElem? (i := 186) rfl) rfl
theorem qM_X10_118 : (.methodLink RX10 118 yX10_entryOf : Cond) ∈ TB := t_5 (List.mem_of_getElem? (i := 187) rfl) rfl
theorem qV_X10_entryOf : (.instanceMethod yX10_entryOf : Cond) ∈ TB := t_5 (List.mem_of_getElem? (i := 189) rfl) rfl
theorem qD_X10_entryOf : (.code yX10_entryOf cX10_entryOf 3 (some .int) : Cond) ∈ TB := t_5 (List.mem_of_getElem? (i := 190) rfl) rfl
theorem qM_X10_91 : (.methodLink RX10 91 yX10_tells : Cond) ∈ TB := t_5 (List.mem_of_getElem? (i := 191) rfl) rfl
theorem qV_X10_tells : (.instanceMethod yX10_tells : Cond) ∈ TB := t_5 (List.mem_of_getElem? (i := 193) rfl) rfl
theorem qD_X10_tells : (.code yX10_tells cX10_tells 5 none : Cond) ∈ TB := t_5 (List.mem_of_getElem? (i := 194) rfl) rfl
theorem qM_X10_170 : (.methodLink RX10 170 yX10_learns : Cond) ∈ TB := t_5 (List.mem_of_getElem? (i := 195) rfl) rfl
theorem qV_X10_learns : (.instanceMethod yX10_learns : Cond) ∈ TB := t_5 (List.mem_of_getElem? (i := 197) rfl) rfl
theorem qD_X10_learns : (.code yX10_learns cX10_learns 4 none : Cond) ∈ TB := t_5 (List.mem_of_getElem? (i := 198) rfl) rfl
theorem qM_X10_82 : (.methodLink RX10 82 yX10_ghostOf : Cond) ∈ TB := t_5 (List.mem_of_getElem? (i := 199) rfl) rfl
theorem qV_X10_ghostOf : (.instanceMethod yX10_ghostOf : Cond) ∈ TB := t_5 (List.mem_of_getElem? (i := 201) rfl) rfl
theorem qD_X10_ghostOf : (.code yX10_ghostOf cX10_ghostOf 4 (some .int) : Cond) ∈ TB := t_5 (List.mem_of_getElem? (i := 202) rfl) rfl
theorem qM_X10_79 : (.methodLink RX10 79 yX10_ghostAt : Cond) ∈ TB := t_5 (List.mem_of_getElem? (i := 203) rfl) rfl
theorem qV_X10_ghostAt : (.instanceMethod yX10_ghostAt : Cond) ∈ TB := t_5 (List.mem_of_getElem? (i := 205) rfl) rfl
theorem qD_X10_ghostAt : (.code yX10_ghostAt cX10_ghostAt 3 (some .int) : Cond) ∈ TB := t_5 (List.mem_of_getElem? (i := 206) rfl) rfl
theorem qM_X10_164 : (.methodLink RX10 164 yX10_near : Cond) ∈ TB := t_5 (List.mem_of_getElem? (i := 207) rfl) rfl
theorem qS_X10_near : (.static yX10_near : Cond) ∈ TB := t_5 (List.mem_of_getElem? (i := 208) rfl) rfl
theorem qD_X10_near : (.code yX10_near cX10_near 2 (some .int) : Cond) ∈ TB := t_5 (List.mem_of_getElem? (i := 209) rfl) rfl
theorem qM_X10_7 : (.methodLink RX10 7 yX10_lesser : Cond) ∈ TB := t_5 (List.mem_of_getElem? (i := 210) rfl) rfl
theorem qS_X10_lesser : (.static yX10_lesser : Cond) ∈ TB := t_5 (List.mem_of_getElem? (i := 211) rfl) rfl
theorem qD_X10_lesser : (.code yX10_lesser cX10_lesser 2 (some .int) : Cond) ∈ TB := t_5 (List.mem_of_getElem? (i := 212) rfl) rfl
theorem qM_X10_85 : (.methodLink RX10 85 yX10_noGhost : Cond) ∈ TB := t_5 (List.mem_of_getElem? (i := 213) rfl) rfl
theorem qV_X10_noGhost : (.instanceMethod yX10_noGhost : Cond) ∈ TB := t_5 (List.mem_of_getElem? (i := 215) rfl) rfl
theorem qD_X10_noGhost : (.code yX10_noGhost cX10_noGhost 5 none : Cond) ∈ TB := t_5 (List.mem_of_getElem? (i := 216) rfl) rfl
theorem qM_X10_173 : (.methodLink RX10 173 yX10_evicts : Cond) ∈ TB := t_5 (List.mem_of_getElem? (i := 217) rfl) rfl
theorem qV_X10_evicts : (.instanceMethod yX10_evicts : Cond) ∈ TB := t_5 (List.mem_of_getElem? (i := 219) rfl) rfl
theorem qD_X10_evicts : (.code yX10_evicts cX10_evicts 4 (some .boolean) : Cond) ∈ TB := t_5 (List.mem_of_getElem? (i := 220) rfl) rfl
theorem qM_X10_88 : (.methodLink RX10 88 yX10_chosen : Cond) ∈ TB := t_5 (List.mem_of_getElem? (i := 221) rfl) rfl
theorem qV_X10_chosen : (.instanceMethod yX10_chosen : Cond) ∈ TB := t_5 (List.mem_of_getElem? (i := 223) rfl) rfl
theorem qD_X10_chosen : (.code yX10_chosen cX10_chosen 3 (some .int) : Cond) ∈ TB := t_5 (List.mem_of_getElem? (i := 224) rfl) rfl
theorem qM_X10_68 : (.methodLink RX10 68 yX10_firstOf : Cond) ∈ TB := t_5 (List.mem_of_getElem? (i := 225) rfl) rfl
theorem qV_X10_firstOf : (.instanceMethod yX10_firstOf : Cond) ∈ TB := t_5 (List.mem_of_getElem? (i := 227) rfl) rfl
theorem qD_X10_firstOf : (.code yX10_firstOf cX10_firstOf 6 (some .int) : Cond) ∈ TB := t_5 (List.mem_of_getElem? (i := 228) rfl) rfl
theorem qM_X10_64 : (.methodLink RX10 64 yX10_canGo : Cond) ∈ TB := t_5 (List.mem_of_getElem? (i := 229) rfl) rfl
theorem qV_X10_canGo : (.instanceMethod yX10_canGo : Cond) ∈ TB := t_5 (List.mem_of_getElem? (i := 231) rfl) rfl
theorem qD_X10_canGo : (.code yX10_canGo cX10_canGo 3 (some .boolean) : Cond) ∈ TB := t_5 (List.mem_of_getElem? (i := 232) rfl) rfl
theorem qM_X10_57 : (.methodLink RX10 57 yX10_flag : Cond) ∈ TB := t_5 (List.mem_of_getElem? (i := 233) rfl) rfl
theorem qS_X10_flag : (.static yX10_flag : Cond) ∈ TB := t_5 (List.mem_of_getElem? (i := 234) rfl) rfl
theorem qD_X10_flag : (.code yX10_flag cX10_flag 1 (some .int) : Cond) ∈ TB := t_5 (List.mem_of_getElem? (i := 235) rfl) rfl
theorem qM_X10_53 : (.methodLink RX10 53 yX10_isAhead : Cond) ∈ TB := t_5 (List.mem_of_getElem? (i := 236) rfl) rfl
theorem qV_X10_isAhead : (.instanceMethod yX10_isAhead : Cond) ∈ TB := t_5 (List.mem_of_getElem? (i := 238) rfl) rfl
theorem qD_X10_isAhead : (.code yX10_isAhead cX10_isAhead 4 (some .boolean) : Cond) ∈ TB := t_5 (List.mem_of_getElem? (i := 239) rfl) rfl
theorem qM_X10_72 : (.methodLink RX10 72 yX10_heaviest : Cond) ∈ TB := t_6 (List.mem_of_getElem? (i := 0) rfl) rfl
theorem qV_X10_heaviest : (.instanceMethod yX10_heaviest : Cond) ∈ TB := t_6 (List.mem_of_getElem? (i := 2) rfl) rfl
theorem qD_X10_heaviest : (.code yX10_heaviest cX10_heaviest 4 (some .int) : Cond) ∈ TB := t_6 (List.mem_of_getElem? (i := 3) rfl) rfl
theorem qM_X10_76 : (.methodLink RX10 76 yX10_byBalance : Cond) ∈ TB := t_6 (List.mem_of_getElem? (i := 4) rfl) rfl
theorem qV_X10_byBalance : (.instanceMethod yX10_byBalance : Cond) ∈ TB := t_6 (List.mem_of_getElem? (i := 6) rfl) rfl
theorem qD_X10_byBalance : (.code yX10_byBalance cX10_byBalance 5 (some .int) : Cond) ∈ TB := t_6 (List.mem_of_getElem? (i := 7) rfl) rfl
theorem qM_X10_98 : (.methodLink RX10 98 yX10_isGhost : Cond) ∈ TB := t_6 (List.mem_of_getElem? (i := 8) rfl) rfl
theorem qV_X10_isGhost : (.instanceMethod yX10_isGhost : Cond) ∈ TB := t_6 (List.mem_of_getElem? (i := 10) rfl) rfl
theorem qD_X10_isGhost : (.code yX10_isGhost cX10_isGhost 4 none : Cond) ∈ TB := t_6 (List.mem_of_getElem? (i := 11) rfl) rfl
theorem qM_X10_101 : (.methodLink RX10 101 yX10_goes : Cond) ∈ TB := t_6 (List.mem_of_getElem? (i := 12) rfl) rfl
theorem qV_X10_goes : (.instanceMethod yX10_goes : Cond) ∈ TB := t_6 (List.mem_of_getElem? (i := 14) rfl) rfl
theorem qD_X10_goes : (.code yX10_goes cX10_goes 3 none : Cond) ∈ TB := t_6 (List.mem_of_getElem? (i := 15) rfl) rfl
theorem qM_X10_176 : (.methodLink RX10 176 yX10_tellsAll : Cond) ∈ TB := t_6 (List.mem_of_getElem? (i := 16) rfl) rfl
theorem qV_X10_tellsAll : (.instanceMethod yX10_tellsAll : Cond) ∈ TB := t_6 (List.mem_of_getElem? (i := 18) rfl) rfl
theorem qD_X10_tellsAll : (.code yX10_tellsAll cX10_tellsAll 5 none : Cond) ∈ TB := t_6 (List.mem_of_getElem? (i := 19) rfl) rfl
theorem qM_X10_121 : (.methodLink RX10 121 yX10_sets : Cond) ∈ TB := t_6 (List.mem_of_getElem? (i := 20) rfl) rfl
theorem qV_X10_sets : (.instanceMethod yX10_sets : Cond) ∈ TB := t_6 (List.mem_of_getElem? (i := 22) rfl) rfl
theorem qD_X10_sets : (.code yX10_sets cX10_sets 4 none : Cond) ∈ TB := t_6 (List.mem_of_getElem? (i := 23) rfl) rfl
theorem qM_X10_179 : (.methodLink RX10 179 yX10_load : Cond) ∈ TB := t_6 (List.mem_of_getElem? (i := 24) rfl) rfl
theorem qV_X10_load : (.instanceMethod yX10_load : Cond) ∈ TB := t_6 (List.mem_of_getElem? (i := 26) rfl) rfl
theorem qD_X10_load : (.code yX10_load cX10_load 3 (some .int) : Cond) ∈ TB := t_6 (List.mem_of_getElem? (i := 27) rfl) rfl
theorem qM_X10_182 : (.methodLink RX10 182 yX10_uses : Cond) ∈ TB := t_6 (List.mem_of_getElem? (i := 28) rfl) rfl
theorem qV_X10_uses : (.instanceMethod yX10_uses : Cond) ∈ TB := t_6 (List.mem_of_getElem? (i := 30) rfl) rfl
theorem qD_X10_uses : (.code yX10_uses cX10_uses 3 none : Cond) ∈ TB := t_6 (List.mem_of_getElem? (i := 31) rfl) rfl
theorem qK_X10_159 : (.constant RX10 159 (999999) : Cond) ∈ TB := t_6 (List.mem_of_getElem? (i := 32) rfl) rfl
theorem qM_X10_191 : (.methodLink RX10 191 yX10_done : Cond) ∈ TB := t_6 (List.mem_of_getElem? (i := 33) rfl) rfl
theorem qV_X10_done : (.instanceMethod yX10_done : Cond) ∈ TB := t_6 (List.mem_of_getElem? (i := 35) rfl) rfl
theorem qD_X10_done : (.code yX10_done cX10_done 8 (some .int) : Cond) ∈ TB := t_6 (List.mem_of_getElem? (i := 36) rfl) rfl
theorem qM_X10_150 : (.methodLink RX10 150 yX10_isHeardBy : Cond) ∈ TB := t_6 (List.mem_of_getElem? (i := 37) rfl) rfl
theorem qV_X10_isHeardBy : (.instanceMethod yX10_isHeardBy : Cond) ∈ TB := t_6 (List.mem_of_getElem? (i := 39) rfl) rfl
theorem qD_X10_isHeardBy : (.code yX10_isHeardBy cX10_isHeardBy 5 (some .boolean) : Cond) ∈ TB := t_6 (List.mem_of_getElem? (i := 40) rfl) rfl
theorem qM_X10_115 : (.methodLink RX10 115 yX10_hearerAt : Cond) ∈ TB := t_6 (List.mem_of_getElem? (i := 41) rfl) rfl
theorem qV_X10_hearerAt : (.instanceMethod yX10_hearerAt : Cond) ∈ TB := t_6 (List.mem_of_getElem? (i := 43) rfl) rfl
theorem qD_X10_hearerAt : (.code yX10_hearerAt cX10_hearerAt 2 (some .int) : Cond) ∈ TB := t_6 (List.mem_of_getElem? (i := 44) rfl) rfl
theorem qM_X10_153 : (.methodLink RX10 153 yX10_acts : Cond) ∈ TB := t_6 (List.mem_of_getElem? (i := 45) rfl) rfl
theorem qV_X10_acts : (.instanceMethod yX10_acts : Cond) ∈ TB := t_6 (List.mem_of_getElem? (i := 47) rfl) rfl
theorem qD_X10_acts : (.code yX10_acts cX10_acts 7 (some .boolean) : Cond) ∈ TB := t_6 (List.mem_of_getElem? (i := 48) rfl) rfl
theorem qM_X10_137 : (.methodLink RX10 137 yX10_gets : Cond) ∈ TB := t_6 (List.mem_of_getElem? (i := 49) rfl) rfl
theorem qV_X10_gets : (.instanceMethod yX10_gets : Cond) ∈ TB := t_6 (List.mem_of_getElem? (i := 51) rfl) rfl
theorem qD_X10_gets : (.code yX10_gets cX10_gets 3 (some .boolean) : Cond) ∈ TB := t_6 (List.mem_of_getElem? (i := 52) rfl) rfl
theorem qM_X10_141 : (.methodLink RX10 141 yX10_removes : Cond) ∈ TB := t_6 (List.mem_of_getElem? (i := 53) rfl) rfl
theorem qV_X10_removes : (.instanceMethod yX10_removes : Cond) ∈ TB := t_6 (List.mem_of_getElem? (i := 55) rfl) rfl
theorem qD_X10_removes : (.code yX10_removes cX10_removes 3 (some .boolean) : Cond) ∈ TB := t_6 (List.mem_of_getElem? (i := 56) rfl) rfl
theorem qM_X10_144 : (.methodLink RX10 144 yX10_pins : Cond) ∈ TB := t_6 (List.mem_of_getElem? (i := 57) rfl) rfl
theorem qV_X10_pins : (.instanceMethod yX10_pins : Cond) ∈ TB := t_6 (List.mem_of_getElem? (i := 59) rfl) rfl
theorem qD_X10_pins : (.code yX10_pins cX10_pins 4 (some .boolean) : Cond) ∈ TB := t_6 (List.mem_of_getElem? (i := 60) rfl) rfl
theorem qM_X10_147 : (.methodLink RX10 147 yX10_capsBy : Cond) ∈ TB := t_6 (List.mem_of_getElem? (i := 61) rfl) rfl
theorem qV_X10_capsBy : (.instanceMethod yX10_capsBy : Cond) ∈ TB := t_6 (List.mem_of_getElem? (i := 63) rfl) rfl
theorem qD_X10_capsBy : (.code yX10_capsBy cX10_capsBy 3 (some .boolean) : Cond) ∈ TB := t_6 (List.mem_of_getElem? (i := 64) rfl) rfl
theorem qJ_X10_125 : (.constantLong RX10 125 (5000) : Cond) ∈ TB := t_6 (List.mem_of_getElem? (i := 65) rfl) rfl
theorem qM_X10_130 : (.methodLink RX10 130 yX10_caps : Cond) ∈ TB := t_6 (List.mem_of_getElem? (i := 66) rfl) rfl
theorem qV_X10_caps : (.instanceMethod yX10_caps : Cond) ∈ TB := t_6 (List.mem_of_getElem? (i := 68) rfl) rfl
theorem qD_X10_caps : (.code yX10_caps cX10_caps 3 (some .int) : Cond) ∈ TB := t_6 (List.mem_of_getElem? (i := 69) rfl) rfl
theorem qM_X10_156 : (.methodLink RX10 156 yX10_logs : Cond) ∈ TB := t_6 (List.mem_of_getElem? (i := 70) rfl) rfl
theorem qV_X10_logs : (.instanceMethod yX10_logs : Cond) ∈ TB := t_6 (List.mem_of_getElem? (i := 72) rfl) rfl
theorem qD_X10_logs : (.code yX10_logs cX10_logs 6 none : Cond) ∈ TB := t_6 (List.mem_of_getElem? (i := 73) rfl) rfl
theorem qM_L_22 : (.methodLink RL 22 yX10_get : Cond) ∈ TB := t_6 (List.mem_of_getElem? (i := 74) rfl) rfl
theorem qV_X10_get : (.instanceMethod yX10_get : Cond) ∈ TB := t_6 (List.mem_of_getElem? (i := 75) rfl) rfl
theorem qL_X10_get : (.selects RX10 yX10_get yX10_get : Cond) ∈ TB := t_6 (List.mem_of_getElem? (i := 76) rfl) rfl
theorem qD_X10_get : (.code yX10_get cX10_get 2 (some .int) : Cond) ∈ TB := t_6 (List.mem_of_getElem? (i := 77) rfl) rfl
theorem qM_X10_206 : (.methodLink RX10 206 yX10_getCalled : Cond) ∈ TB := t_6 (List.mem_of_getElem? (i := 78) rfl) rfl
theorem qV_X10_getCalled : (.instanceMethod yX10_getCalled : Cond) ∈ TB := t_6 (List.mem_of_getElem? (i := 80) rfl) rfl
theorem qD_X10_getCalled : (.code yX10_getCalled cX10_getCalled 2 (some .int) : Cond) ∈ TB := t_6 (List.mem_of_getElem? (i := 81) rfl) rfl
theorem qM_L_26 : (.methodLink RL 26 yX10_remove : Cond) ∈ TB := t_6 (List.mem_of_getElem? (i := 82) rfl) rfl
theorem qV_X10_remove : (.instanceMethod yX10_remove : Cond) ∈ TB := t_6 (List.mem_of_getElem? (i := 83) rfl) rfl
theorem qL_X10_remove : (.selects RX10 yX10_remove yX10_remove : Cond) ∈ TB := t_6 (List.mem_of_getElem? (i := 84) rfl) rfl
theorem qD_X10_remove : (.code yX10_remove cX10_remove 4 (some .int) : Cond) ∈ TB := t_6 (List.mem_of_getElem? (i := 85) rfl) rfl
theorem qM_L_31 : (.methodLink RL 31 yX10_pin : Cond) ∈ TB := t_6 (List.mem_of_getElem? (i := 86) rfl) rfl
theorem qV_X10_pin : (.instanceMethod yX10_pin : Cond) ∈ TB := t_6 (List.mem_of_getElem? (i := 87) rfl) rfl
theorem qL_X10_pin : (.selects RX10 yX10_pin yX10_pin : Cond) ∈ TB := t_6 (List.mem_of_getElem? (i := 88) rfl) rfl
theorem qD_X10_pin : (.code yX10_pin cX10_pin 3 (some .int) : Cond) ∈ TB := t_6 (List.mem_of_getElem? (i := 89) rfl) rfl
theorem qM_L_35 : (.methodLink RL 35 yX10_resize : Cond) ∈ TB := t_6 (List.mem_of_getElem? (i := 90) rfl) rfl
theorem qV_X10_resize : (.instanceMethod yX10_resize : Cond) ∈ TB := t_6 (List.mem_of_getElem? (i := 91) rfl) rfl
theorem qL_X10_resize : (.selects RX10 yX10_resize yX10_resize : Cond) ∈ TB := t_6 (List.mem_of_getElem? (i := 92) rfl) rfl
theorem qD_X10_resize : (.code yX10_resize cX10_resize 2 (some .int) : Cond) ∈ TB := t_6 (List.mem_of_getElem? (i := 93) rfl) rfl
theorem qM_L_39 : (.methodLink RL 39 yX10_way : Cond) ∈ TB := t_6 (List.mem_of_getElem? (i := 94) rfl) rfl
theorem qV_X10_way : (.instanceMethod yX10_way : Cond) ∈ TB := t_6 (List.mem_of_getElem? (i := 95) rfl) rfl
theorem qL_X10_way : (.selects RX10 yX10_way yX10_way : Cond) ∈ TB := t_6 (List.mem_of_getElem? (i := 96) rfl) rfl
theorem qD_X10_way : (.code yX10_way cX10_way 3 (some .int) : Cond) ∈ TB := t_6 (List.mem_of_getElem? (i := 97) rfl) rfl
theorem qJ_X10_209 : (.constantLong RX10 209 (4) : Cond) ∈ TB := t_6 (List.mem_of_getElem? (i := 98) rfl) rfl
theorem qM_L_43 : (.methodLink RL 43 yX10_aging : Cond) ∈ TB := t_6 (List.mem_of_getElem? (i := 99) rfl) rfl
theorem qV_X10_aging : (.instanceMethod yX10_aging : Cond) ∈ TB := t_6 (List.mem_of_getElem? (i := 100) rfl) rfl
theorem qL_X10_aging : (.selects RX10 yX10_aging yX10_aging : Cond) ∈ TB := t_6 (List.mem_of_getElem? (i := 101) rfl) rfl
theorem qD_X10_aging : (.code yX10_aging cX10_aging 3 (some .int) : Cond) ∈ TB := t_6 (List.mem_of_getElem? (i := 102) rfl) rfl
theorem qM_L_47 : (.methodLink RL 47 yX10_tick : Cond) ∈ TB := t_6 (List.mem_of_getElem? (i := 103) rfl) rfl
theorem qV_X10_tick : (.instanceMethod yX10_tick : Cond) ∈ TB := t_6 (List.mem_of_getElem? (i := 104) rfl) rfl
theorem qL_X10_tick : (.selects RX10 yX10_tick yX10_tick : Cond) ∈ TB := t_6 (List.mem_of_getElem? (i := 105) rfl) rfl
theorem qD_X10_tick : (.code yX10_tick cX10_tick 5 (some .int) : Cond) ∈ TB := t_6 (List.mem_of_getElem? (i := 106) rfl) rfl
theorem qM_X10_211 : (.methodLink RX10 211 yX10_firstOver : Cond) ∈ TB := t_6 (List.mem_of_getElem? (i := 107) rfl) rfl
theorem qV_X10_firstOver : (.instanceMethod yX10_firstOver : Cond) ∈ TB := t_6 (List.mem_of_getElem? (i := 109) rfl) rfl
theorem qD_X10_firstOver : (.code yX10_firstOver cX10_firstOver 3 (some .int) : Cond) ∈ TB := t_6 (List.mem_of_getElem? (i := 110) rfl) rfl
theorem qM_L_52 : (.methodLink RL 52 yX10_listen : Cond) ∈ TB := t_6 (List.mem_of_getElem? (i := 111) rfl) rfl
theorem qV_X10_listen : (.instanceMethod yX10_listen : Cond) ∈ TB := t_6 (List.mem_of_getElem? (i := 112) rfl) rfl
theorem qL_X10_listen : (.selects RX10 yX10_listen yX10_listen : Cond) ∈ TB := t_6 (List.mem_of_getElem? (i := 113) rfl) rfl
theorem qD_X10_listen : (.code yX10_listen cX10_listen 8 (some .int) : Cond) ∈ TB := t_6 (List.mem_of_getElem? (i := 114) rfl) rfl
theorem qJ_X10_214 : (.constantLong RX10 214 (-1) : Cond) ∈ TB := t_6 (List.mem_of_getElem? (i := 115) rfl) rfl
theorem qJ_X10_216 : (.constantLong RX10 216 (6) : Cond) ∈ TB := t_6 (List.mem_of_getElem? (i := 116) rfl) rfl
theorem qJ_X10_218 : (.constantLong RX10 218 (9) : Cond) ∈ TB := t_6 (List.mem_of_getElem? (i := 117) rfl) rfl
theorem qJ_X10_220 : (.constantLong RX10 220 (-999) : Cond) ∈ TB := t_6 (List.mem_of_getElem? (i := 118) rfl) rfl
theorem qM_L_56 : (.methodLink RL 56 yX10_turn : Cond) ∈ TB := t_6 (List.mem_of_getElem? (i := 119) rfl) rfl
theorem qV_X10_turn : (.instanceMethod yX10_turn : Cond) ∈ TB := t_6 (List.mem_of_getElem? (i := 120) rfl) rfl
theorem qL_X10_turn : (.selects RX10 yX10_turn yX10_turn : Cond) ∈ TB := t_6 (List.mem_of_getElem? (i := 121) rfl) rfl
theorem qD_X10_turn : (.code yX10_turn cX10_turn 5 (some .int) : Cond) ∈ TB := t_6 (List.mem_of_getElem? (i := 122) rfl) rfl
theorem qM_X10_222 : (.methodLink RX10 222 yX10_isHearer : Cond) ∈ TB := t_6 (List.mem_of_getElem? (i := 123) rfl) rfl
theorem qV_X10_isHearer : (.instanceMethod yX10_isHearer : Cond) ∈ TB := t_6 (List.mem_of_getElem? (i := 125) rfl) rfl
theorem qD_X10_isHearer : (.code yX10_isHearer cX10_isHearer 2 (some .boolean) : Cond) ∈ TB := t_6 (List.mem_of_getElem? (i := 126) rfl) rfl
theorem qM_L_61 : (.methodLink RL 61 yX10_chance : Cond) ∈ TB := t_6 (List.mem_of_getElem? (i := 127) rfl) rfl
theorem qV_X10_chance : (.instanceMethod yX10_chance : Cond) ∈ TB := t_6 (List.mem_of_getElem? (i := 128) rfl) rfl
theorem qL_X10_chance : (.selects RX10 yX10_chance yX10_chance : Cond) ∈ TB := t_6 (List.mem_of_getElem? (i := 129) rfl) rfl
theorem qD_X10_chance : (.code yX10_chance cX10_chance 5 (some .int) : Cond) ∈ TB := t_6 (List.mem_of_getElem? (i := 130) rfl) rfl
theorem qJ_X10_240 : (.constantLong RX10 240 (60) : Cond) ∈ TB := t_6 (List.mem_of_getElem? (i := 131) rfl) rfl
theorem qM_X10_242 : (.methodLink RX10 242 yX10_step : Cond) ∈ TB := t_6 (List.mem_of_getElem? (i := 132) rfl) rfl
theorem qV_X10_step : (.instanceMethod yX10_step : Cond) ∈ TB := t_6 (List.mem_of_getElem? (i := 134) rfl) rfl
theorem qD_X10_step : (.code yX10_step cX10_step 4 (some .boolean) : Cond) ∈ TB := t_6 (List.mem_of_getElem? (i := 135) rfl) rfl
theorem qM_X10_237 : (.methodLink RX10 237 yX10_draw : Cond) ∈ TB := t_6 (List.mem_of_getElem? (i := 136) rfl) rfl
theorem qV_X10_draw : (.instanceMethod yX10_draw : Cond) ∈ TB := t_6 (List.mem_of_getElem? (i := 138) rfl) rfl
theorem qD_X10_draw : (.code yX10_draw cX10_draw 2 (some .int) : Cond) ∈ TB := t_6 (List.mem_of_getElem? (i := 139) rfl) rfl
theorem qJ_X10_225 : (.constantLong RX10 225 (1103515245) : Cond) ∈ TB := t_6 (List.mem_of_getElem? (i := 140) rfl) rfl
theorem qJ_X10_231 : (.constantLong RX10 231 (12345) : Cond) ∈ TB := t_6 (List.mem_of_getElem? (i := 141) rfl) rfl
theorem qJ_X10_233 : (.constantLong RX10 233 (2147483648) : Cond) ∈ TB := t_6 (List.mem_of_getElem? (i := 142) rfl) rfl
theorem qJ_X10_235 : (.constantLong RX10 235 (64) : Cond) ∈ TB := t_6 (List.mem_of_getElem? (i := 143) rfl) rfl
theorem qM_L_65 : (.methodLink RL 65 yX10_keep : Cond) ∈ TB := t_6 (List.mem_of_getElem? (i := 144) rfl) rfl
theorem qV_X10_keep : (.instanceMethod yX10_keep : Cond) ∈ TB := t_6 (List.mem_of_getElem? (i := 145) rfl) rfl
theorem qL_X10_keep : (.selects RX10 yX10_keep yX10_keep : Cond) ∈ TB := t_6 (List.mem_of_getElem? (i := 146) rfl) rfl
theorem qD_X10_keep : (.code yX10_keep cX10_keep 2 (some .int) : Cond) ∈ TB := t_6 (List.mem_of_getElem? (i := 147) rfl) rfl
theorem qM_X10_246 : (.methodLink RX10 246 yX10_copies : Cond) ∈ TB := t_6 (List.mem_of_getElem? (i := 148) rfl) rfl
theorem qV_X10_copies : (.instanceMethod yX10_copies : Cond) ∈ TB := t_6 (List.mem_of_getElem? (i := 150) rfl) rfl
theorem qD_X10_copies : (.code yX10_copies cX10_copies 4 none : Cond) ∈ TB := t_6 (List.mem_of_getElem? (i := 151) rfl) rfl
theorem qM_L_69 : (.methodLink RL 69 yX10_back : Cond) ∈ TB := t_6 (List.mem_of_getElem? (i := 152) rfl) rfl
theorem qV_X10_back : (.instanceMethod yX10_back : Cond) ∈ TB := t_6 (List.mem_of_getElem? (i := 153) rfl) rfl
theorem qL_X10_back : (.selects RX10 yX10_back yX10_back : Cond) ∈ TB := t_6 (List.mem_of_getElem? (i := 154) rfl) rfl
theorem qD_X10_back : (.code yX10_back cX10_back 2 (some .int) : Cond) ∈ TB := t_6 (List.mem_of_getElem? (i := 155) rfl) rfl
theorem qM_L_73 : (.methodLink RL 73 yX10_entry : Cond) ∈ TB := t_6 (List.mem_of_getElem? (i := 156) rfl) rfl
theorem qV_X10_entry : (.instanceMethod yX10_entry : Cond) ∈ TB := t_6 (List.mem_of_getElem? (i := 157) rfl) rfl
theorem qL_X10_entry : (.selects RX10 yX10_entry yX10_entry : Cond) ∈ TB := t_6 (List.mem_of_getElem? (i := 158) rfl) rfl
theorem qD_X10_entry : (.code yX10_entry cX10_entry 4 (some .int) : Cond) ∈ TB := t_6 (List.mem_of_getElem? (i := 159) rfl) rfl
theorem qJ_X10_249 : (.constantLong RX10 249 (7) : Cond) ∈ TB := t_6 (List.mem_of_getElem? (i := 160) rfl) rfl
theorem qM_X10_61 : (.methodLink RX10 61 yX10_placeOf : Cond) ∈ TB := t_6 (List.mem_of_getElem? (i := 161) rfl) rfl
theorem qV_X10_placeOf : (.instanceMethod yX10_placeOf : Cond) ∈ TB := t_6 (List.mem_of_getElem? (i := 163) rfl) rfl
theorem qD_X10_placeOf : (.code yX10_placeOf cX10_placeOf 5 (some .int) : Cond) ∈ TB := t_6 (List.mem_of_getElem? (i := 164) rfl) rfl
theorem qM_L_77 : (.methodLink RL 77 yX10_order : Cond) ∈ TB := t_6 (List.mem_of_getElem? (i := 165) rfl) rfl
theorem qV_X10_order : (.instanceMethod yX10_order : Cond) ∈ TB := t_6 (List.mem_of_getElem? (i := 166) rfl) rfl
theorem qL_X10_order : (.selects RX10 yX10_order yX10_order : Cond) ∈ TB := t_6 (List.mem_of_getElem? (i := 167) rfl) rfl
theorem qD_X10_order : (.code yX10_order cX10_order 3 (some .int) : Cond) ∈ TB := t_6 (List.mem_of_getElem? (i := 168) rfl) rfl
theorem qM_X10_251 : (.methodLink RX10 251 yX10_keyAt : Cond) ∈ TB := t_6 (List.mem_of_getElem? (i := 169) rfl) rfl
theorem qV_X10_keyAt : (.instanceMethod yX10_keyAt : Cond) ∈ TB := t_6 (List.mem_of_getElem? (i := 171) rfl) rfl
theorem qD_X10_keyAt : (.code yX10_keyAt cX10_keyAt 4 (some .int) : Cond) ∈ TB := t_6 (List.mem_of_getElem? (i := 172) rfl) rfl
theorem qM_L_81 : (.methodLink RL 81 yX10_ghost : Cond) ∈ TB := t_6 (List.mem_of_getElem? (i := 173) rfl) rfl
theorem qV_X10_ghost : (.instanceMethod yX10_ghost : Cond) ∈ TB := t_6 (List.mem_of_getElem? (i := 174) rfl) rfl
theorem qL_X10_ghost : (.selects RX10 yX10_ghost yX10_ghost : Cond) ∈ TB := t_6 (List.mem_of_getElem? (i := 175) rfl) rfl
theorem qD_X10_ghost : (.code yX10_ghost cX10_ghost 3 (some .int) : Cond) ∈ TB := t_6 (List.mem_of_getElem? (i := 176) rfl) rfl
theorem qM_L_85 : (.methodLink RL 85 yX10_bucket : Cond) ∈ TB := t_6 (List.mem_of_getElem? (i := 177) rfl) rfl
theorem qV_X10_bucket : (.instanceMethod yX10_bucket : Cond) ∈ TB := t_6 (List.mem_of_getElem? (i := 178) rfl) rfl
theorem qL_X10_bucket : (.selects RX10 yX10_bucket yX10_bucket : Cond) ∈ TB := t_6 (List.mem_of_getElem? (i := 179) rfl) rfl
theorem qD_X10_bucket : (.code yX10_bucket cX10_bucket 5 (some .int) : Cond) ∈ TB := t_6 (List.mem_of_getElem? (i := 180) rfl) rfl
theorem qM_X10_257 : (.methodLink RX10 257 yX10_unlike : Cond) ∈ TB := t_6 (List.mem_of_getElem? (i := 181) rfl) rfl
theorem qV_X10_unlike : (.instanceMethod yX10_unlike : Cond) ∈ TB := t_6 (List.mem_of_getElem? (i := 183) rfl) rfl
theorem qD_X10_unlike : (.code yX10_unlike cX10_unlike 3 (some .int) : Cond) ∈ TB := t_6 (List.mem_of_getElem? (i := 184) rfl) rfl
theorem qM_X10_254 : (.methodLink RX10 254 yX10_countAbove : Cond) ∈ TB := t_6 (List.mem_of_getElem? (i := 185) rfl) rfl
theorem qV_X10_countAbove : (.instanceMethod yX10_countAbove : Cond) ∈ TB := t_6 (List.mem_of_getElem? (i := 187) rfl) rfl
theorem qD_X10_countAbove : (.code yX10_countAbove cX10_countAbove 4 (some .int) : Cond) ∈ TB := t_6 (List.mem_of_getElem? (i := 188) rfl) rfl
theorem qJ_X10_260 : (.constantLong RX10 260 (2) : Cond) ∈ TB := t_6 (List.mem_of_getElem? (i := 189) rfl) rfl
theorem qM_X10_262 : (.methodLink RX10 262 yX10_ofCount : Cond) ∈ TB := t_6 (List.mem_of_getElem? (i := 190) rfl) rfl
theorem qV_X10_ofCount : (.instanceMethod yX10_ofCount : Cond) ∈ TB := t_6 (List.mem_of_getElem? (i := 192) rfl) rfl
theorem qD_X10_ofCount : (.code yX10_ofCount cX10_ofCount 5 (some .int) : Cond) ∈ TB := t_6 (List.mem_of_getElem? (i := 193) rfl) rfl
theorem qM_L_89 : (.methodLink RL 89 yX10_listener : Cond) ∈ TB := t_6 (List.mem_of_getElem? (i := 194) rfl) rfl
theorem qV_X10_listener : (.instanceMethod yX10_listener : Cond) ∈ TB := t_6 (List.mem_of_getElem? (i := 195) rfl) rfl
theorem qL_X10_listener : (.selects RX10 yX10_listener yX10_listener : Cond) ∈ TB := t_6 (List.mem_of_getElem? (i := 196) rfl) rfl
theorem qD_X10_listener : (.code yX10_listener cX10_listener 3 (some .int) : Cond) ∈ TB := t_6 (List.mem_of_getElem? (i := 197) rfl) rfl
theorem qM_L_93 : (.methodLink RL 93 yX10_heard : Cond) ∈ TB := t_6 (List.mem_of_getElem? (i := 198) rfl) rfl
theorem qV_X10_heard : (.instanceMethod yX10_heard : Cond) ∈ TB := t_6 (List.mem_of_getElem? (i := 199) rfl) rfl
theorem qL_X10_heard : (.selects RX10 yX10_heard yX10_heard : Cond) ∈ TB := t_6 (List.mem_of_getElem? (i := 200) rfl) rfl
theorem qD_X10_heard : (.code yX10_heard cX10_heard 3 (some .int) : Cond) ∈ TB := t_6 (List.mem_of_getElem? (i := 201) rfl) rfl
theorem qM_L_97 : (.methodLink RL 97 yX10_request : Cond) ∈ TB := t_6 (List.mem_of_getElem? (i := 202) rfl) rfl
theorem qV_X10_request : (.instanceMethod yX10_request : Cond) ∈ TB := t_6 (List.mem_of_getElem? (i := 203) rfl) rfl
theorem qL_X10_request : (.selects RX10 yX10_request yX10_request : Cond) ∈ TB := t_6 (List.mem_of_getElem? (i := 204) rfl) rfl
theorem qD_X10_request : (.code yX10_request cX10_request 2 (some .int) : Cond) ∈ TB := t_6 (List.mem_of_getElem? (i := 205) rfl) rfl
theorem qM_L_101 : (.methodLink RL 101 yX10_victim : Cond) ∈ TB := t_6 (List.mem_of_getElem? (i := 206) rfl) rfl
theorem qV_X10_victim : (.instanceMethod yX10_victim : Cond) ∈ TB := t_6 (List.mem_of_getElem? (i := 207) rfl) rfl
theorem qL_X10_victim : (.selects RX10 yX10_victim yX10_victim : Cond) ∈ TB := t_6 (List.mem_of_getElem? (i := 208) rfl) rfl
theorem qD_X10_victim : (.code yX10_victim cX10_victim 3 (some .int) : Cond) ∈ TB := t_6 (List.mem_of_getElem? (i := 209) rfl) rfl
theorem qM_L_105 : (.methodLink RL 105 yX10_victims : Cond) ∈ TB := t_6 (List.mem_of_getElem? (i := 210) rfl) rfl
theorem qV_X10_victims : (.instanceMethod yX10_victims : Cond) ∈ TB := t_6 (List.mem_of_getElem? (i := 211) rfl) rfl
theorem qL_X10_victims : (.selects RX10 yX10_victims yX10_victims : Cond) ∈ TB := t_6 (List.mem_of_getElem? (i := 212) rfl) rfl
theorem qD_X10_victims : (.code yX10_victims cX10_victims 3 (some .int) : Cond) ∈ TB := t_6 (List.mem_of_getElem? (i := 213) rfl) rfl
theorem qM_X10_271 : (.methodLink RX10 271 yX10_makesRoom : Cond) ∈ TB := t_6 (List.mem_of_getElem? (i := 214) rfl) rfl
theorem qV_X10_makesRoom : (.instanceMethod yX10_makesRoom : Cond) ∈ TB := t_6 (List.mem_of_getElem? (i := 216) rfl) rfl
theorem qD_X10_makesRoom : (.code yX10_makesRoom cX10_makesRoom 2 none : Cond) ∈ TB := t_6 (List.mem_of_getElem? (i := 217) rfl) rfl
theorem qM_X10_265 : (.methodLink RX10 265 yX10_toPaper : Cond) ∈ TB := t_6 (List.mem_of_getElem? (i := 218) rfl) rfl
theorem qV_X10_toPaper : (.instanceMethod yX10_toPaper : Cond) ∈ TB := t_6 (List.mem_of_getElem? (i := 220) rfl) rfl
theorem qD_X10_toPaper : (.code yX10_toPaper cX10_toPaper 1 none : Cond) ∈ TB := t_6 (List.mem_of_getElem? (i := 221) rfl) rfl
theorem qM_X10_268 : (.methodLink RX10 268 yX10_comesBack : Cond) ∈ TB := t_6 (List.mem_of_getElem? (i := 222) rfl) rfl
theorem qV_X10_comesBack : (.instanceMethod yX10_comesBack : Cond) ∈ TB := t_6 (List.mem_of_getElem? (i := 224) rfl) rfl
theorem qD_X10_comesBack : (.code yX10_comesBack cX10_comesBack 1 none : Cond) ∈ TB := t_6 (List.mem_of_getElem? (i := 225) rfl) rfl
theorem qM_L_109 : (.methodLink RL 109 yX10_room : Cond) ∈ TB := t_6 (List.mem_of_getElem? (i := 226) rfl) rfl
theorem qV_X10_room : (.instanceMethod yX10_room : Cond) ∈ TB := t_6 (List.mem_of_getElem? (i := 227) rfl) rfl
theorem qL_X10_room : (.selects RX10 yX10_room yX10_room : Cond) ∈ TB := t_6 (List.mem_of_getElem? (i := 228) rfl) rfl
theorem qD_X10_room : (.code yX10_room cX10_room 2 (some .int) : Cond) ∈ TB := t_6 (List.mem_of_getElem? (i := 229) rfl) rfl
theorem qM_L_113 : (.methodLink RL 113 yX10_kept : Cond) ∈ TB := t_6 (List.mem_of_getElem? (i := 230) rfl) rfl
theorem qV_X10_kept : (.instanceMethod yX10_kept : Cond) ∈ TB := t_6 (List.mem_of_getElem? (i := 231) rfl) rfl
theorem qL_X10_kept : (.selects RX10 yX10_kept yX10_kept : Cond) ∈ TB := t_6 (List.mem_of_getElem? (i := 232) rfl) rfl
theorem qD_X10_kept : (.code yX10_kept cX10_kept 4 (some .int) : Cond) ∈ TB := t_6 (List.mem_of_getElem? (i := 233) rfl) rfl
theorem qM_L_117 : (.methodLink RL 117 yX10_pack : Cond) ∈ TB := t_6 (List.mem_of_getElem? (i := 234) rfl) rfl
theorem qV_X10_pack : (.instanceMethod yX10_pack : Cond) ∈ TB := t_6 (List.mem_of_getElem? (i := 235) rfl) rfl
theorem qL_X10_pack : (.selects RX10 yX10_pack yX10_pack : Cond) ∈ TB := t_6 (List.mem_of_getElem? (i := 236) rfl) rfl
theorem qD_X10_pack : (.code yX10_pack cX10_pack 7 (some .int) : Cond) ∈ TB := t_6 (List.mem_of_getElem? (i := 237) rfl) rfl
theorem qM_L_121 : (.methodLink RL 121 yX10_wakes : Cond) ∈ TB := t_6 (List.mem_of_getElem? (i := 238) rfl) rfl
theorem qV_X10_wakes : (.instanceMethod yX10_wakes : Cond) ∈ TB := t_6 (List.mem_of_getElem? (i := 239) rfl) rfl
theorem qL_X10_wakes : (.selects RX10 yX10_wakes yX10_wakes : Cond) ∈ TB := t_7 (List.mem_of_getElem? (i := 0) rfl) rfl
theorem qD_X10_wakes : (.code yX10_wakes cX10_wakes 3 (some .int) : Cond) ∈ TB := t_7 (List.mem_of_getElem? (i := 1) rfl) rfl
theorem qM_X10_280 : (.methodLink RX10 280 yX10_doesWake : Cond) ∈ TB := t_7 (List.mem_of_getElem? (i := 2) rfl) rfl
theorem qV_X10_doesWake : (.instanceMethod yX10_doesWake : Cond) ∈ TB := t_7 (List.mem_of_getElem? (i := 4) rfl) rfl
theorem qD_X10_doesWake : (.code yX10_doesWake cX10_doesWake 4 (some .boolean) : Cond) ∈ TB := t_7 (List.mem_of_getElem? (i := 5) rfl) rfl
theorem qM_X10_274 : (.methodLink RX10 274 yX10_hearsKind : Cond) ∈ TB := t_7 (List.mem_of_getElem? (i := 6) rfl) rfl
theorem qV_X10_hearsKind : (.instanceMethod yX10_hearsKind : Cond) ∈ TB := t_7 (List.mem_of_getElem? (i := 8) rfl) rfl
theorem qD_X10_hearsKind : (.code yX10_hearsKind cX10_hearsKind 3 (some .boolean) : Cond) ∈ TB := t_7 (List.mem_of_getElem? (i := 9) rfl) rfl
theorem qM_X10_277 : (.methodLink RX10 277 yX10_meets : Cond) ∈ TB := t_7 (List.mem_of_getElem? (i := 10) rfl) rfl
theorem qV_X10_meets : (.instanceMethod yX10_meets : Cond) ∈ TB := t_7 (List.mem_of_getElem? (i := 12) rfl) rfl
theorem qD_X10_meets : (.code yX10_meets cX10_meets 7 (some .boolean) : Cond) ∈ TB := t_7 (List.mem_of_getElem? (i := 13) rfl) rfl
theorem qM_L_125 : (.methodLink RL 125 yX10_ring : Cond) ∈ TB := t_7 (List.mem_of_getElem? (i := 14) rfl) rfl
theorem qV_X10_ring : (.instanceMethod yX10_ring : Cond) ∈ TB := t_7 (List.mem_of_getElem? (i := 15) rfl) rfl
theorem qL_X10_ring : (.selects RX10 yX10_ring yX10_ring : Cond) ∈ TB := t_7 (List.mem_of_getElem? (i := 16) rfl) rfl
theorem qD_X10_ring : (.code yX10_ring cX10_ring 7 (some .int) : Cond) ∈ TB := t_7 (List.mem_of_getElem? (i := 17) rfl) rfl
theorem qM_L_166 : (.methodLink RL 166 yX10_distance : Cond) ∈ TB := t_7 (List.mem_of_getElem? (i := 18) rfl) rfl
theorem qV_X10_distance : (.instanceMethod yX10_distance : Cond) ∈ TB := t_7 (List.mem_of_getElem? (i := 19) rfl) rfl
theorem qL_X10_distance : (.selects RX10 yX10_distance yX10_distance : Cond) ∈ TB := t_7 (List.mem_of_getElem? (i := 20) rfl) rfl
theorem qD_X10_distance : (.code yX10_distance cX10_distance 5 (some .int) : Cond) ∈ TB := t_7 (List.mem_of_getElem? (i := 21) rfl) rfl
theorem qM_X10_283 : (.methodLink RX10 283 yX10_isNewFrom : Cond) ∈ TB := t_7 (List.mem_of_getElem? (i := 22) rfl) rfl
theorem qV_X10_isNewFrom : (.instanceMethod yX10_isNewFrom : Cond) ∈ TB := t_7 (List.mem_of_getElem? (i := 24) rfl) rfl
theorem qD_X10_isNewFrom : (.code yX10_isNewFrom cX10_isNewFrom 4 (some .boolean) : Cond) ∈ TB := t_7 (List.mem_of_getElem? (i := 25) rfl) rfl
theorem qM_L_170 : (.methodLink RL 170 yX10_replay : Cond) ∈ TB := t_7 (List.mem_of_getElem? (i := 26) rfl) rfl
theorem qV_X10_replay : (.instanceMethod yX10_replay : Cond) ∈ TB := t_7 (List.mem_of_getElem? (i := 27) rfl) rfl
theorem qL_X10_replay : (.selects RX10 yX10_replay yX10_replay : Cond) ∈ TB := t_7 (List.mem_of_getElem? (i := 28) rfl) rfl
theorem qD_X10_replay : (.code yX10_replay cX10_replay 5 (some .int) : Cond) ∈ TB := t_7 (List.mem_of_getElem? (i := 29) rfl) rfl
theorem qM_X10_306 : (.methodLink RX10 306 yX10_isWay : Cond) ∈ TB := t_7 (List.mem_of_getElem? (i := 30) rfl) rfl
theorem qS_X10_isWay : (.static yX10_isWay : Cond) ∈ TB := t_7 (List.mem_of_getElem? (i := 31) rfl) rfl
theorem qD_X10_isWay : (.code yX10_isWay cX10_isWay 1 (some .boolean) : Cond) ∈ TB := t_7 (List.mem_of_getElem? (i := 32) rfl) rfl
theorem qJ_X10_304 : (.constantLong RX10 304 (5) : Cond) ∈ TB := t_7 (List.mem_of_getElem? (i := 33) rfl) rfl
theorem qM_X10_309 : (.methodLink RX10 309 yX10_goesThrough : Cond) ∈ TB := t_7 (List.mem_of_getElem? (i := 34) rfl) rfl
theorem qV_X10_goesThrough : (.instanceMethod yX10_goesThrough : Cond) ∈ TB := t_7 (List.mem_of_getElem? (i := 36) rfl) rfl
theorem qD_X10_goesThrough : (.code yX10_goesThrough cX10_goesThrough 8 none : Cond) ∈ TB := t_7 (List.mem_of_getElem? (i := 37) rfl) rfl
theorem qM_X10_298 : (.methodLink RX10 298 yX10_goesFarthest : Cond) ∈ TB := t_7 (List.mem_of_getElem? (i := 38) rfl) rfl
theorem qV_X10_goesFarthest : (.instanceMethod yX10_goesFarthest : Cond) ∈ TB := t_7 (List.mem_of_getElem? (i := 40) rfl) rfl
theorem qD_X10_goesFarthest : (.code yX10_goesFarthest cX10_goesFarthest 6 none : Cond) ∈ TB := t_7 (List.mem_of_getElem? (i := 41) rfl) rfl
theorem qM_X10_286 : (.methodLink RX10 286 yX10_nextOf : Cond) ∈ TB := t_7 (List.mem_of_getElem? (i := 42) rfl) rfl
theorem qV_X10_nextOf : (.instanceMethod yX10_nextOf : Cond) ∈ TB := t_7 (List.mem_of_getElem? (i := 44) rfl) rfl
theorem qD_X10_nextOf : (.code yX10_nextOf cX10_nextOf 4 (some .int) : Cond) ∈ TB := t_7 (List.mem_of_getElem? (i := 45) rfl) rfl
theorem qM_X10_301 : (.methodLink RX10 301 yX10_isRued : Cond) ∈ TB := t_7 (List.mem_of_getElem? (i := 46) rfl) rfl
theorem qV_X10_isRued : (.instanceMethod yX10_isRued : Cond) ∈ TB := t_7 (List.mem_of_getElem? (i := 48) rfl) rfl
theorem qD_X10_isRued : (.code yX10_isRued cX10_isRued 4 none : Cond) ∈ TB := t_7 (List.mem_of_getElem? (i := 49) rfl) rfl
theorem qM_L_174 : (.methodLink RL 174 yX10_replayed : Cond) ∈ TB := t_7 (List.mem_of_getElem? (i := 50) rfl) rfl
theorem qV_X10_replayed : (.instanceMethod yX10_replayed : Cond) ∈ TB := t_7 (List.mem_of_getElem? (i := 51) rfl) rfl
theorem qL_X10_replayed : (.selects RX10 yX10_replayed yX10_replayed : Cond) ∈ TB := t_7 (List.mem_of_getElem? (i := 52) rfl) rfl
theorem qD_X10_replayed : (.code yX10_replayed cX10_replayed 5 (some .int) : Cond) ∈ TB := t_7 (List.mem_of_getElem? (i := 53) rfl) rfl
theorem qM_L_178 : (.methodLink RL 178 yX10_least : Cond) ∈ TB := t_7 (List.mem_of_getElem? (i := 54) rfl) rfl
theorem qV_X10_least : (.instanceMethod yX10_least : Cond) ∈ TB := t_7 (List.mem_of_getElem? (i := 55) rfl) rfl
theorem qL_X10_least : (.selects RX10 yX10_least yX10_least : Cond) ∈ TB := t_7 (List.mem_of_getElem? (i := 56) rfl) rfl
theorem qD_X10_least : (.code yX10_least cX10_least 4 (some .int) : Cond) ∈ TB := t_7 (List.mem_of_getElem? (i := 57) rfl) rfl
theorem qM_X10_312 : (.methodLink RX10 312 yX10_hitsOf : Cond) ∈ TB := t_7 (List.mem_of_getElem? (i := 58) rfl) rfl
theorem qV_X10_hitsOf : (.instanceMethod yX10_hitsOf : Cond) ∈ TB := t_7 (List.mem_of_getElem? (i := 60) rfl) rfl
theorem qD_X10_hitsOf : (.code yX10_hitsOf cX10_hitsOf 3 (some .int) : Cond) ∈ TB := t_7 (List.mem_of_getElem? (i := 61) rfl) rfl
theorem qM_L_182 : (.methodLink RL 182 yX10_best : Cond) ∈ TB := t_7 (List.mem_of_getElem? (i := 62) rfl) rfl
theorem qV_X10_best : (.instanceMethod yX10_best : Cond) ∈ TB := t_7 (List.mem_of_getElem? (i := 63) rfl) rfl
theorem qL_X10_best : (.selects RX10 yX10_best yX10_best : Cond) ∈ TB := t_7 (List.mem_of_getElem? (i := 64) rfl) rfl
theorem qD_X10_best : (.code yX10_best cX10_best 7 (some .int) : Cond) ∈ TB := t_7 (List.mem_of_getElem? (i := 65) rfl) rfl
theorem qM_L_158 : (.methodLink RL 158 yX10_agree : Cond) ∈ TB := t_7 (List.mem_of_getElem? (i := 66) rfl) rfl
theorem qV_X10_agree : (.instanceMethod yX10_agree : Cond) ∈ TB := t_7 (List.mem_of_getElem? (i := 67) rfl) rfl
theorem qL_X10_agree : (.selects RX10 yX10_agree yX10_agree : Cond) ∈ TB := t_7 (List.mem_of_getElem? (i := 68) rfl) rfl
theorem qD_X10_agree : (.code yX10_agree cX10_agree 5 (some .int) : Cond) ∈ TB := t_7 (List.mem_of_getElem? (i := 69) rfl) rfl
theorem qM_X10_315 : (.methodLink RX10 315 yX10_laysAgreed : Cond) ∈ TB := t_7 (List.mem_of_getElem? (i := 70) rfl) rfl
theorem qV_X10_laysAgreed : (.instanceMethod yX10_laysAgreed : Cond) ∈ TB := t_7 (List.mem_of_getElem? (i := 72) rfl) rfl
theorem qD_X10_laysAgreed : (.code yX10_laysAgreed cX10_laysAgreed 4 none : Cond) ∈ TB := t_7 (List.mem_of_getElem? (i := 73) rfl) rfl
theorem qM_L_162 : (.methodLink RL 162 yX10_regret : Cond) ∈ TB := t_7 (List.mem_of_getElem? (i := 74) rfl) rfl
theorem qV_X10_regret : (.instanceMethod yX10_regret : Cond) ∈ TB := t_7 (List.mem_of_getElem? (i := 75) rfl) rfl
theorem qL_X10_regret : (.selects RX10 yX10_regret yX10_regret : Cond) ∈ TB := t_7 (List.mem_of_getElem? (i := 76) rfl) rfl
theorem qD_X10_regret : (.code yX10_regret cX10_regret 4 (some .int) : Cond) ∈ TB := t_7 (List.mem_of_getElem? (i := 77) rfl) rfl
theorem qM_L_150 : (.methodLink RL 150 yX10_hot : Cond) ∈ TB := t_7 (List.mem_of_getElem? (i := 78) rfl) rfl
theorem qV_X10_hot : (.instanceMethod yX10_hot : Cond) ∈ TB := t_7 (List.mem_of_getElem? (i := 79) rfl) rfl
theorem qL_X10_hot : (.selects RX10 yX10_hot yX10_hot : Cond) ∈ TB := t_7 (List.mem_of_getElem? (i := 80) rfl) rfl
theorem qD_X10_hot : (.code yX10_hot cX10_hot 5 (some .int) : Cond) ∈ TB := t_7 (List.mem_of_getElem? (i := 81) rfl) rfl
theorem qM_X10_321 : (.methodLink RX10 321 yX10_hotBehind : Cond) ∈ TB := t_7 (List.mem_of_getElem? (i := 82) rfl) rfl
theorem qV_X10_hotBehind : (.instanceMethod yX10_hotBehind : Cond) ∈ TB := t_7 (List.mem_of_getElem? (i := 84) rfl) rfl
theorem qD_X10_hotBehind : (.code yX10_hotBehind cX10_hotBehind 8 (some .int) : Cond) ∈ TB := t_7 (List.mem_of_getElem? (i := 85) rfl) rfl
theorem qM_X10_318 : (.methodLink RX10 318 yX10_oftenOf : Cond) ∈ TB := t_7 (List.mem_of_getElem? (i := 86) rfl) rfl
theorem qV_X10_oftenOf : (.instanceMethod yX10_oftenOf : Cond) ∈ TB := t_7 (List.mem_of_getElem? (i := 88) rfl) rfl
theorem qD_X10_oftenOf : (.code yX10_oftenOf cX10_oftenOf 4 (some .int) : Cond) ∈ TB := t_7 (List.mem_of_getElem? (i := 89) rfl) rfl
theorem qM_L_154 : (.methodLink RL 154 yX10_profile : Cond) ∈ TB := t_7 (List.mem_of_getElem? (i := 90) rfl) rfl
theorem qV_X10_profile : (.instanceMethod yX10_profile : Cond) ∈ TB := t_7 (List.mem_of_getElem? (i := 91) rfl) rfl
theorem qL_X10_profile : (.selects RX10 yX10_profile yX10_profile : Cond) ∈ TB := t_7 (List.mem_of_getElem? (i := 92) rfl) rfl
theorem qD_X10_profile : (.code yX10_profile cX10_profile 4 (some .int) : Cond) ∈ TB := t_7 (List.mem_of_getElem? (i := 93) rfl) rfl
theorem qM_X10_324 : (.methodLink RX10 324 yX10_distance : Cond) ∈ TB := t_7 (List.mem_of_getElem? (i := 94) rfl) rfl
theorem qM_L_146 : (.methodLink RL 146 yX10_logged : Cond) ∈ TB := t_7 (List.mem_of_getElem? (i := 95) rfl) rfl
theorem qV_X10_logged : (.instanceMethod yX10_logged : Cond) ∈ TB := t_7 (List.mem_of_getElem? (i := 96) rfl) rfl
theorem qL_X10_logged : (.selects RX10 yX10_logged yX10_logged : Cond) ∈ TB := t_7 (List.mem_of_getElem? (i := 97) rfl) rfl
theorem qD_X10_logged : (.code yX10_logged cX10_logged 7 (some .int) : Cond) ∈ TB := t_7 (List.mem_of_getElem? (i := 98) rfl) rfl
theorem qM_L_142 : (.methodLink RL 142 yX10_lead : Cond) ∈ TB := t_7 (List.mem_of_getElem? (i := 99) rfl) rfl
theorem qV_X10_lead : (.instanceMethod yX10_lead : Cond) ∈ TB := t_7 (List.mem_of_getElem? (i := 100) rfl) rfl
theorem qL_X10_lead : (.selects RX10 yX10_lead yX10_lead : Cond) ∈ TB := t_7 (List.mem_of_getElem? (i := 101) rfl) rfl
theorem qD_X10_lead : (.code yX10_lead cX10_lead 5 (some .int) : Cond) ∈ TB := t_7 (List.mem_of_getElem? (i := 102) rfl) rfl
theorem qM_L_138 : (.methodLink RL 138 yX10_turnOf : Cond) ∈ TB := t_7 (List.mem_of_getElem? (i := 103) rfl) rfl
theorem qV_X10_turnOf : (.instanceMethod yX10_turnOf : Cond) ∈ TB := t_7 (List.mem_of_getElem? (i := 104) rfl) rfl
theorem qL_X10_turnOf : (.selects RX10 yX10_turnOf yX10_turnOf : Cond) ∈ TB := t_7 (List.mem_of_getElem? (i := 105) rfl) rfl
theorem qD_X10_turnOf : (.code yX10_turnOf cX10_turnOf 4 (some .int) : Cond) ∈ TB := t_7 (List.mem_of_getElem? (i := 106) rfl) rfl
theorem qM_L_134 : (.methodLink RL 134 yX10_behind : Cond) ∈ TB := t_7 (List.mem_of_getElem? (i := 107) rfl) rfl
theorem qV_X10_behind : (.instanceMethod yX10_behind : Cond) ∈ TB := t_7 (List.mem_of_getElem? (i := 108) rfl) rfl
theorem qL_X10_behind : (.selects RX10 yX10_behind yX10_behind : Cond) ∈ TB := t_7 (List.mem_of_getElem? (i := 109) rfl) rfl
theorem qD_X10_behind : (.code yX10_behind cX10_behind 7 (some .int) : Cond) ∈ TB := t_7 (List.mem_of_getElem? (i := 110) rfl) rfl
theorem qM_L_129 : (.methodLink RL 129 yX10_stir : Cond) ∈ TB := t_7 (List.mem_of_getElem? (i := 111) rfl) rfl
theorem qV_X10_stir : (.instanceMethod yX10_stir : Cond) ∈ TB := t_7 (List.mem_of_getElem? (i := 112) rfl) rfl
theorem qL_X10_stir : (.selects RX10 yX10_stir yX10_stir : Cond) ∈ TB := t_7 (List.mem_of_getElem? (i := 113) rfl) rfl
theorem qD_X10_stir : (.code yX10_stir cX10_stir 5 (some .int) : Cond) ∈ TB := t_7 (List.mem_of_getElem? (i := 114) rfl) rfl
theorem qM_X10_327 : (.methodLink RX10 327 yX10_ofStir : Cond) ∈ TB := t_7 (List.mem_of_getElem? (i := 115) rfl) rfl
theorem qV_X10_ofStir : (.instanceMethod yX10_ofStir : Cond) ∈ TB := t_7 (List.mem_of_getElem? (i := 117) rfl) rfl
theorem qD_X10_ofStir : (.code yX10_ofStir cX10_ofStir 4 (some .int) : Cond) ∈ TB := t_7 (List.mem_of_getElem? (i := 118) rfl) rfl
theorem qM_L_186 : (.methodLink RL 186 yX10_count : Cond) ∈ TB := t_7 (List.mem_of_getElem? (i := 119) rfl) rfl
theorem qV_X10_count : (.instanceMethod yX10_count : Cond) ∈ TB := t_7 (List.mem_of_getElem? (i := 120) rfl) rfl
theorem qL_X10_count : (.selects RX10 yX10_count yX10_count : Cond) ∈ TB := t_7 (List.mem_of_getElem? (i := 121) rfl) rfl
theorem qD_X10_count : (.code yX10_count cX10_count 2 (some .int) : Cond) ∈ TB := t_7 (List.mem_of_getElem? (i := 122) rfl) rfl
theorem qL_X1_mayGo : (.selects RX1 yX1_mayGo yX1_mayGo : Cond) ∈ TB := t_0 (List.mem_of_getElem? (i := 0) rfl) rfl
theorem qL_X1_precedes : (.selects RX1 yX1_precedes yX1_precedes : Cond) ∈ TB := t_0 (List.mem_of_getElem? (i := 1) rfl) rfl
theorem qL_X6_tell : (.selects RX6 yX6_tell yX6_tell : Cond) ∈ TB := t_0 (List.mem_of_getElem? (i := 2) rfl) rfl
theorem qL_X6_heedGhost : (.selects RX6 yX6_heedGhost yX6_heedGhost : Cond) ∈ TB := t_0 (List.mem_of_getElem? (i := 3) rfl) rfl
theorem qL_X1_halve : (.selects RX1 yX1_halve yX1_halve : Cond) ∈ TB := t_0 (List.mem_of_getElem? (i := 4) rfl) rfl
theorem qL_X8_hear : (.selects RX8 yX8_hear yX8_hear : Cond) ∈ TB := t_0 (List.mem_of_getElem? (i := 5) rfl) rfl
theorem qL_X8_act : (.selects RX8 yX8_act yX8_act : Cond) ∈ TB := t_0 (List.mem_of_getElem? (i := 6) rfl) rfl
theorem qL_X1_countAbove : (.selects RX1 yX1_countAbove yX1_countAbove : Cond) ∈ TB := t_0 (List.mem_of_getElem? (i := 7) rfl) rfl
theorem qL_X9_layStore : (.selects RX9 yX9_layStore yX9_layStore : Cond) ∈ TB := t_0 (List.mem_of_getElem? (i := 8) rfl) rfl
theorem qL_X9_packOne : (.selects RX9 yX9_packOne yX9_packOne : Cond) ∈ TB := t_0 (List.mem_of_getElem? (i := 9) rfl) rfl
theorem qL_X3_makesKindFor : (.selects RX3 yX3_makesKindFor yX3_makesKindFor : Cond) ∈ TB := t_0 (List.mem_of_getElem? (i := 10) rfl) rfl
theorem qL_X8_wokenBy : (.selects RX8 yX8_wokenBy yX8_wokenBy : Cond) ∈ TB := t_0 (List.mem_of_getElem? (i := 11) rfl) rfl
theorem qL_X0_nextOf : (.selects RX0 yX0_nextOf yX0_nextOf : Cond) ∈ TB := t_0 (List.mem_of_getElem? (i := 12) rfl) rfl
theorem qL_X0_countOften : (.selects RX0 yX0_countOften yX0_countOften : Cond) ∈ TB := t_0 (List.mem_of_getElem? (i := 13) rfl) rfl
theorem qL_X0_hotterThan : (.selects RX0 yX0_hotterThan yX0_hotterThan : Cond) ∈ TB := t_0 (List.mem_of_getElem? (i := 14) rfl) rfl
theorem qL_X0_previousOf : (.selects RX0 yX0_previousOf yX0_previousOf : Cond) ∈ TB := t_0 (List.mem_of_getElem? (i := 15) rfl) rfl
theorem qL_X0_farthest : (.selects RX0 yX0_farthest yX0_farthest : Cond) ∈ TB := t_0 (List.mem_of_getElem? (i := 16) rfl) rfl
theorem qL_X0_nextRequest : (.selects RX0 yX0_nextRequest yX0_nextRequest : Cond) ∈ TB := t_0 (List.mem_of_getElem? (i := 17) rfl) rfl
theorem qL_X0_goneNow : (.selects RX0 yX0_goneNow yX0_goneNow : Cond) ∈ TB := t_0 (List.mem_of_getElem? (i := 18) rfl) rfl
theorem qL_X0_insertShared : (.selects RX0 yX0_insertShared yX0_insertShared : Cond) ∈ TB := t_0 (List.mem_of_getElem? (i := 19) rfl) rfl
theorem qL_X0_retainShared : (.selects RX0 yX0_retainShared yX0_retainShared : Cond) ∈ TB := t_0 (List.mem_of_getElem? (i := 20) rfl) rfl
theorem qL_X9_goThrough : (.selects RX9 yX9_goThrough yX9_goThrough : Cond) ∈ TB := t_0 (List.mem_of_getElem? (i := 21) rfl) rfl
theorem qL_X10_begins : (.selects RX10 yX10_begins yX10_begins : Cond) ∈ TB := t_0 (List.mem_of_getElem? (i := 22) rfl) rfl
theorem qL_X10_putCalled : (.selects RX10 yX10_putCalled yX10_putCalled : Cond) ∈ TB := t_0 (List.mem_of_getElem? (i := 23) rfl) rfl
theorem qL_X10_call : (.selects RX10 yX10_call yX10_call : Cond) ∈ TB := t_0 (List.mem_of_getElem? (i := 24) rfl) rfl
theorem qL_X10_requests : (.selects RX10 yX10_requests yX10_requests : Cond) ∈ TB := t_0 (List.mem_of_getElem? (i := 25) rfl) rfl
theorem qL_X10_puts : (.selects RX10 yX10_puts yX10_puts : Cond) ∈ TB := t_0 (List.mem_of_getElem? (i := 26) rfl) rfl
theorem qL_X10_isRejected : (.selects RX10 yX10_isRejected yX10_isRejected : Cond) ∈ TB := t_0 (List.mem_of_getElem? (i := 27) rfl) rfl
theorem qL_X10_pinned : (.selects RX10 yX10_pinned yX10_pinned : Cond) ∈ TB := t_0 (List.mem_of_getElem? (i := 28) rfl) rfl
theorem qL_X10_of : (.selects RX10 yX10_of yX10_of : Cond) ∈ TB := t_0 (List.mem_of_getElem? (i := 29) rfl) rfl
theorem qL_X10_pinnedMany : (.selects RX10 yX10_pinnedMany yX10_pinnedMany : Cond) ∈ TB := t_0 (List.mem_of_getElem? (i := 30) rfl) rfl
theorem qL_X10_entryOf : (.selects RX10 yX10_entryOf yX10_entryOf : Cond) ∈ TB := t_0 (List.mem_of_getElem? (i := 31) rfl) rfl
theorem qL_X10_tells : (.selects RX10 yX10_tells yX10_tells : Cond) ∈ TB := t_0 (List.mem_of_getElem? (i := 32) rfl) rfl
theorem qL_X10_learns : (.selects RX10 yX10_learns yX10_learns : Cond) ∈ TB := t_0 (List.mem_of_getElem? (i := 33) rfl) rfl
theorem qL_X10_ghostOf : (.selects RX10 yX10_ghostOf yX10_ghostOf : Cond) ∈ TB := t_0 (List.mem_of_getElem? (i := 34) rfl) rfl
theorem qL_X10_ghostAt : (.selects RX10 yX10_ghostAt yX10_ghostAt : Cond) ∈ TB := t_0 (List.mem_of_getElem? (i := 35) rfl) rfl
theorem qL_X10_noGhost : (.selects RX10 yX10_noGhost yX10_noGhost : Cond) ∈ TB := t_0 (List.mem_of_getElem? (i := 36) rfl) rfl
theorem qL_X10_evicts : (.selects RX10 yX10_evicts yX10_evicts : Cond) ∈ TB := t_0 (List.mem_of_getElem? (i := 37) rfl) rfl
theorem qL_X10_chosen : (.selects RX10 yX10_chosen yX10_chosen : Cond) ∈ TB := t_0 (List.mem_of_getElem? (i := 38) rfl) rfl
theorem qL_X10_firstOf : (.selects RX10 yX10_firstOf yX10_firstOf : Cond) ∈ TB := t_0 (List.mem_of_getElem? (i := 39) rfl) rfl
theorem qL_X10_canGo : (.selects RX10 yX10_canGo yX10_canGo : Cond) ∈ TB := t_0 (List.mem_of_getElem? (i := 40) rfl) rfl
theorem qL_X10_isAhead : (.selects RX10 yX10_isAhead yX10_isAhead : Cond) ∈ TB := t_0 (List.mem_of_getElem? (i := 41) rfl) rfl
theorem qL_X10_heaviest : (.selects RX10 yX10_heaviest yX10_heaviest : Cond) ∈ TB := t_0 (List.mem_of_getElem? (i := 42) rfl) rfl
theorem qL_X10_byBalance : (.selects RX10 yX10_byBalance yX10_byBalance : Cond) ∈ TB := t_0 (List.mem_of_getElem? (i := 43) rfl) rfl
theorem qL_X10_isGhost : (.selects RX10 yX10_isGhost yX10_isGhost : Cond) ∈ TB := t_0 (List.mem_of_getElem? (i := 44) rfl) rfl
theorem qL_X10_goes : (.selects RX10 yX10_goes yX10_goes : Cond) ∈ TB := t_0 (List.mem_of_getElem? (i := 45) rfl) rfl
theorem qL_X10_tellsAll : (.selects RX10 yX10_tellsAll yX10_tellsAll : Cond) ∈ TB := t_0 (List.mem_of_getElem? (i := 46) rfl) rfl
theorem qL_X10_sets : (.selects RX10 yX10_sets yX10_sets : Cond) ∈ TB := t_0 (List.mem_of_getElem? (i := 47) rfl) rfl
theorem qL_X10_load : (.selects RX10 yX10_load yX10_load : Cond) ∈ TB := t_0 (List.mem_of_getElem? (i := 48) rfl) rfl
theorem qL_X10_uses : (.selects RX10 yX10_uses yX10_uses : Cond) ∈ TB := t_0 (List.mem_of_getElem? (i := 49) rfl) rfl
theorem qL_X10_done : (.selects RX10 yX10_done yX10_done : Cond) ∈ TB := t_0 (List.mem_of_getElem? (i := 50) rfl) rfl
theorem qL_X10_isHeardBy : (.selects RX10 yX10_isHeardBy yX10_isHeardBy : Cond) ∈ TB := t_0 (List.mem_of_getElem? (i := 51) rfl) rfl
theorem qL_X10_hearerAt : (.selects RX10 yX10_hearerAt yX10_hearerAt : Cond) ∈ TB := t_0 (List.mem_of_getElem? (i := 52) rfl) rfl
theorem qL_X10_acts : (.selects RX10 yX10_acts yX10_acts : Cond) ∈ TB := t_0 (List.mem_of_getElem? (i := 53) rfl) rfl
theorem qL_X10_gets : (.selects RX10 yX10_gets yX10_gets : Cond) ∈ TB := t_0 (List.mem_of_getElem? (i := 54) rfl) rfl
theorem qL_X10_removes : (.selects RX10 yX10_removes yX10_removes : Cond) ∈ TB := t_0 (List.mem_of_getElem? (i := 55) rfl) rfl
theorem qL_X10_pins : (.selects RX10 yX10_pins yX10_pins : Cond) ∈ TB := t_0 (List.mem_of_getElem? (i := 56) rfl) rfl
theorem qL_X10_capsBy : (.selects RX10 yX10_capsBy yX10_capsBy : Cond) ∈ TB := t_0 (List.mem_of_getElem? (i := 57) rfl) rfl
theorem qL_X10_caps : (.selects RX10 yX10_caps yX10_caps : Cond) ∈ TB := t_0 (List.mem_of_getElem? (i := 58) rfl) rfl
theorem qL_X10_logs : (.selects RX10 yX10_logs yX10_logs : Cond) ∈ TB := t_0 (List.mem_of_getElem? (i := 59) rfl) rfl
theorem qL_X10_getCalled : (.selects RX10 yX10_getCalled yX10_getCalled : Cond) ∈ TB := t_0 (List.mem_of_getElem? (i := 60) rfl) rfl
theorem qL_X10_firstOver : (.selects RX10 yX10_firstOver yX10_firstOver : Cond) ∈ TB := t_0 (List.mem_of_getElem? (i := 61) rfl) rfl
theorem qL_X10_isHearer : (.selects RX10 yX10_isHearer yX10_isHearer : Cond) ∈ TB := t_0 (List.mem_of_getElem? (i := 62) rfl) rfl
theorem qL_X10_step : (.selects RX10 yX10_step yX10_step : Cond) ∈ TB := t_0 (List.mem_of_getElem? (i := 63) rfl) rfl
theorem qL_X10_draw : (.selects RX10 yX10_draw yX10_draw : Cond) ∈ TB := t_0 (List.mem_of_getElem? (i := 64) rfl) rfl
theorem qL_X10_copies : (.selects RX10 yX10_copies yX10_copies : Cond) ∈ TB := t_0 (List.mem_of_getElem? (i := 65) rfl) rfl
theorem qL_X10_placeOf : (.selects RX10 yX10_placeOf yX10_placeOf : Cond) ∈ TB := t_0 (List.mem_of_getElem? (i := 66) rfl) rfl
theorem qL_X10_keyAt : (.selects RX10 yX10_keyAt yX10_keyAt : Cond) ∈ TB := t_0 (List.mem_of_getElem? (i := 67) rfl) rfl
theorem qL_X10_unlike : (.selects RX10 yX10_unlike yX10_unlike : Cond) ∈ TB := t_0 (List.mem_of_getElem? (i := 68) rfl) rfl
theorem qL_X10_countAbove : (.selects RX10 yX10_countAbove yX10_countAbove : Cond) ∈ TB := t_0 (List.mem_of_getElem? (i := 69) rfl) rfl
theorem qL_X10_ofCount : (.selects RX10 yX10_ofCount yX10_ofCount : Cond) ∈ TB := t_0 (List.mem_of_getElem? (i := 70) rfl) rfl
theorem qL_X10_makesRoom : (.selects RX10 yX10_makesRoom yX10_makesRoom : Cond) ∈ TB := t_0 (List.mem_of_getElem? (i := 71) rfl) rfl
theorem qL_X10_toPaper : (.selects RX10 yX10_toPaper yX10_toPaper : Cond) ∈ TB := t_0 (List.mem_of_getElem? (i := 72) rfl) rfl
theorem qL_X10_comesBack : (.selects RX10 yX10_comesBack yX10_comesBack : Cond) ∈ TB := t_0 (List.mem_of_getElem? (i := 73) rfl) rfl
theorem qL_X10_doesWake : (.selects RX10 yX10_doesWake yX10_doesWake : Cond) ∈ TB := t_0 (List.mem_of_getElem? (i := 74) rfl) rfl
theorem qL_X10_hearsKind : (.selects RX10 yX10_hearsKind yX10_hearsKind : Cond) ∈ TB := t_0 (List.mem_of_getElem? (i := 75) rfl) rfl
theorem qL_X10_meets : (.selects RX10 yX10_meets yX10_meets : Cond) ∈ TB := t_0 (List.mem_of_getElem? (i := 76) rfl) rfl
theorem qL_X10_isNewFrom : (.selects RX10 yX10_isNewFrom yX10_isNewFrom : Cond) ∈ TB := t_0 (List.mem_of_getElem? (i := 77) rfl) rfl
theorem qL_X10_goesThrough : (.selects RX10 yX10_goesThrough yX10_goesThrough : Cond) ∈ TB := t_0 (List.mem_of_getElem? (i := 78) rfl) rfl
theorem qL_X10_goesFarthest : (.selects RX10 yX10_goesFarthest yX10_goesFarthest : Cond) ∈ TB := t_0 (List.mem_of_getElem? (i := 79) rfl) rfl
theorem qL_X10_nextOf : (.selects RX10 yX10_nextOf yX10_nextOf : Cond) ∈ TB := t_0 (List.mem_of_getElem? (i := 80) rfl) rfl
theorem qL_X10_isRued : (.selects RX10 yX10_isRued yX10_isRued : Cond) ∈ TB := t_0 (List.mem_of_getElem? (i := 81) rfl) rfl
theorem qL_X10_hitsOf : (.selects RX10 yX10_hitsOf yX10_hitsOf : Cond) ∈ TB := t_0 (List.mem_of_getElem? (i := 82) rfl) rfl
theorem qL_X10_laysAgreed : (.selects RX10 yX10_laysAgreed yX10_laysAgreed : Cond) ∈ TB := t_0 (List.mem_of_getElem? (i := 83) rfl) rfl
theorem qL_X10_hotBehind : (.selects RX10 yX10_hotBehind yX10_hotBehind : Cond) ∈ TB := t_0 (List.mem_of_getElem? (i := 84) rfl) rfl
theorem qL_X10_oftenOf : (.selects RX10 yX10_oftenOf yX10_oftenOf : Cond) ∈ TB := t_0 (List.mem_of_getElem? (i := 85) rfl) rfl
theorem qL_X10_ofStir : (.selects RX10 yX10_ofStir yX10_ofStir : Cond) ∈ TB := t_0 (List.mem_of_getElem? (i := 86) rfl) rfl
def nestW : List Cond := [.methodLinkNest RX8 11 yX6_init RX9, .methodLinkNest RX6 11 yX1_init RX9, .methodLinkNest RX6 20 yX2_init RX9, .methodLinkNest RX6 30 yX7_init RX9, .methodLinkNest RX8 26 yX4_init RX9, .methodLinkNest RX8 33 yX5_init RX9, .methodLinkNest RX8 38 yX3_init RX9, .methodLinkNest RX9 25 yX0_init RX9, .methodLinkNest RX0 11 yX6_init RX9, .methodLinkNest RX6 181 yX9_asInt RX9, .methodLinkNest RX6 185 yX9_isCap RX9, .methodLinkNest RX8 151 yX9_asInt RX9, .arrayOver (.object RX3), .arrayOver (.object RX8)]
