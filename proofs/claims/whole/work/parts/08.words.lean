/-! the words of the tables, one by one (by program out of the Statement) -/
def gW : List Cond := lw_tbl.filter goodWord
theorem gW_good : ∀ w ∈ gW, goodWord w = true := fun w h => (List.mem_filter.mp h).2
theorem gW_tbl : ∀ w ∈ gW, w ∈ lw_tbl := fun w h => (List.mem_filter.mp h).1
theorem gW_in {w : Cond} (h : w ∈ tables_1) (hg : goodWord w = true) : w ∈ gW := List.mem_filter.mpr ⟨List.mem_append_right _ h, hg⟩
theorem gW_se {w : Cond} (h : w ∈ k2_sels lw_privs) (hg : goodWord w = true) : w ∈ gW := List.mem_filter.mpr ⟨List.mem_append_left _ h, hg⟩
set_option maxRecDepth 20000 in
theorem u_ini_L : (.initialized RL : Cond) ∈ gW := gW_in (List.mem_append_left _ (List.mem_of_getElem? (l := tables_1_1) (i := 0) (by decide +kernel))) rfl
set_option maxRecDepth 20000 in
theorem u_ini_X9 : (.initialized RX9 : Cond) ∈ gW := gW_in (List.mem_append_left _ (List.mem_of_getElem? (l := tables_1_1) (i := 1) (by decide +kernel))) rfl
set_option maxRecDepth 20000 in
theorem u_ini_X5 : (.initialized RX5 : Cond) ∈ gW := gW_in (List.mem_append_left _ (List.mem_of_getElem? (l := tables_1_1) (i := 2) (by decide +kernel))) rfl
set_option maxRecDepth 20000 in
theorem u_ini_X4 : (.initialized RX4 : Cond) ∈ gW := gW_in (List.mem_append_left _ (List.mem_of_getElem? (l := tables_1_1) (i := 3) (by decide +kernel))) rfl
set_option maxRecDepth 20000 in
theorem u_ini_X0 : (.initialized RX0 : Cond) ∈ gW := gW_in (List.mem_append_left _ (List.mem_of_getElem? (l := tables_1_1) (i := 4) (by decide +kernel))) rfl
set_option maxRecDepth 20000 in
theorem u_ini_J7 : (.initialized RJ7 : Cond) ∈ gW := gW_in (List.mem_append_left _ (List.mem_of_getElem? (l := tables_1_1) (i := 5) (by decide +kernel))) rfl
set_option maxRecDepth 20000 in
theorem u_ini_X3 : (.initialized RX3 : Cond) ∈ gW := gW_in (List.mem_append_left _ (List.mem_of_getElem? (l := tables_1_1) (i := 6) (by decide +kernel))) rfl
set_option maxRecDepth 20000 in
theorem u_ini_X2 : (.initialized RX2 : Cond) ∈ gW := gW_in (List.mem_append_left _ (List.mem_of_getElem? (l := tables_1_1) (i := 7) (by decide +kernel))) rfl
set_option maxRecDepth 20000 in
theorem u_ini_X7 : (.initialized RX7 : Cond) ∈ gW := gW_in (List.mem_append_left _ (List.mem_of_getElem? (l := tables_1_1) (i := 8) (by decide +kernel))) rfl
set_option maxRecDepth 20000 in
theorem u_ini_X8 : (.initialized RX8 : Cond) ∈ gW := gW_in (List.mem_append_left _ (List.mem_of_getElem? (l := tables_1_1) (i := 9) (by decide +kernel))) rfl
set_option maxRecDepth 20000 in
theorem u_ini_X6 : (.initialized RX6 : Cond) ∈ gW := gW_in (List.mem_append_left _ (List.mem_of_getElem? (l := tables_1_1) (i := 10) (by decide +kernel))) rfl
set_option maxRecDepth 20000 in
theorem u_ini_X1 : (.initialized RX1 : Cond) ∈ gW := gW_in (List.mem_append_left _ (List.mem_of_getElem? (l := tables_1_1) (i := 11) (by decide +kernel))) rfl
set_option maxRecDepth 20000 in
theorem u_ini_X10 : (.initialized RX10 : Cond) ∈ gW := gW_in (List.mem_append_left _ (List.mem_of_getElem? (l := tables_1_1) (i := 12) (by decide +kernel))) rfl
set_option maxRecDepth 20000 in
theorem u_ini_Jxd2413 : (.initialized RJxd2413 : Cond) ∈ gW := gW_in (List.mem_append_left _ (List.mem_of_getElem? (l := tables_1_1) (i := 13) (by decide +kernel))) rfl
set_option maxRecDepth 20000 in
theorem u_ini_J6 : (.initialized RJ6 : Cond) ∈ gW := gW_in (List.mem_append_left _ (List.mem_of_getElem? (l := tables_1_1) (i := 14) (by decide +kernel))) rfl
set_option maxRecDepth 20000 in
theorem u_ini_J10 : (.initialized RJ10 : Cond) ∈ gW := gW_in (List.mem_append_left _ (List.mem_of_getElem? (l := tables_1_1) (i := 15) (by decide +kernel))) rfl
set_option maxRecDepth 20000 in
theorem u_ini_J9 : (.initialized RJ9 : Cond) ∈ gW := gW_in (List.mem_append_left _ (List.mem_of_getElem? (l := tables_1_1) (i := 16) (by decide +kernel))) rfl
set_option maxRecDepth 20000 in
theorem u_ini_J13 : (.initialized RJ13 : Cond) ∈ gW := gW_in (List.mem_append_left _ (List.mem_of_getElem? (l := tables_1_1) (i := 17) (by decide +kernel))) rfl
set_option maxRecDepth 20000 in
theorem u_cl_L_7 : (.classLink RL 7 RX9 : Cond) ∈ gW := gW_in (List.mem_append_left _ (List.mem_of_getElem? (l := tables_1_1) (i := 18) (by decide +kernel))) rfl
set_option maxRecDepth 20000 in
theorem u_ins_X9 : (.instantiable RX9 11 : Cond) ∈ gW := gW_in (List.mem_append_left _ (List.mem_of_getElem? (l := tables_1_1) (i := 19) (by decide +kernel))) rfl
set_option maxRecDepth 20000 in
theorem u_ml_L_9 : (.methodLink RL 9 yX9_init : Cond) ∈ gW := gW_in (List.mem_append_left _ (List.mem_of_getElem? (l := tables_1_1) (i := 20) (by decide +kernel))) rfl
set_option maxRecDepth 20000 in
theorem u_im_X9_init : (.instanceMethod yX9_init : Cond) ∈ gW := gW_in (List.mem_append_left _ (List.mem_of_getElem? (l := tables_1_1) (i := 21) (by decide +kernel))) rfl
set_option maxRecDepth 20000 in
theorem u_co_X9_init : (.code yX9_init cX9_init 2 none : Cond) ∈ gW := gW_in (List.mem_append_left _ (List.mem_of_getElem? (l := tables_1_1) (i := 22) (rfl))) rfl
set_option maxRecDepth 20000 in
theorem u_ml_X9_3 : (.methodLink RX9 3 objectInit : Cond) ∈ gW := gW_in (List.mem_append_left _ (List.mem_of_getElem? (l := tables_1_1) (i := 23) (by decide +kernel))) rfl
set_option maxRecDepth 20000 in
theorem u_im_obj : (.instanceMethod objectInit : Cond) ∈ gW := gW_in (List.mem_append_left _ (List.mem_of_getElem? (l := tables_1_1) (i := 24) (by decide +kernel))) rfl
set_option maxRecDepth 20000 in
theorem u_co_obj : (.code objectInit (⟨#[0xb1]⟩) 1 none : Cond) ∈ gW := gW_in (List.mem_append_left _ (List.mem_of_getElem? (l := tables_1_1) (i := 25) (rfl))) rfl
set_option maxRecDepth 20000 in
theorem u_cl_X9_9 : (.classLink RX9 9 RX5 : Cond) ∈ gW := gW_in (List.mem_append_left _ (List.mem_of_getElem? (l := tables_1_1) (i := 26) (by decide +kernel))) rfl
set_option maxRecDepth 20000 in
theorem u_ins_X5 : (.instantiable RX5 6 : Cond) ∈ gW := gW_in (List.mem_append_left _ (List.mem_of_getElem? (l := tables_1_1) (i := 27) (by decide +kernel))) rfl
set_option maxRecDepth 20000 in
theorem u_im_X5_init : (.instanceMethod yX5_init : Cond) ∈ gW := gW_in (List.mem_append_left _ (List.mem_of_getElem? (l := tables_1_1) (i := 29) (by decide +kernel))) rfl
set_option maxRecDepth 20000 in
theorem u_co_X5_init : (.code yX5_init cX5_init 1 none : Cond) ∈ gW := gW_in (List.mem_append_left _ (List.mem_of_getElem? (l := tables_1_1) (i := 30) (rfl))) rfl
set_option maxRecDepth 20000 in
theorem u_ml_X5_3 : (.methodLink RX5 3 objectInit : Cond) ∈ gW := gW_in (List.mem_append_left _ (List.mem_of_getElem? (l := tables_1_1) (i := 31) (by decide +kernel))) rfl
set_option maxRecDepth 20000 in
theorem u_fl_X5_9 : (.fieldLink RX5 9 "GossipArches$Reader" "letters" "[I" : Cond) ∈ gW := gW_in (List.mem_append_left _ (List.mem_of_getElem? (l := tables_1_1) (i := 32) (by decide +kernel))) rfl
set_option maxRecDepth 20000 in
theorem u_fl_X5_15 : (.fieldLink RX5 15 "GossipArches$Reader" "length" "I" : Cond) ∈ gW := gW_in (List.mem_append_left _ (List.mem_of_getElem? (l := tables_1_1) (i := 33) (by decide +kernel))) rfl
set_option maxRecDepth 20000 in
theorem u_fl_X9_80 : (.fieldLink RX9 80 "GossipArches$Reader" "length" "I" : Cond) ∈ gW := gW_in (List.mem_append_left _ (List.mem_of_getElem? (l := tables_1_1) (i := 34) (by decide +kernel))) rfl
set_option maxRecDepth 20000 in
theorem u_fl_X5_19 : (.fieldLink RX5 19 "GossipArches$Reader" "faultKind" "I" : Cond) ∈ gW := gW_in (List.mem_append_left _ (List.mem_of_getElem? (l := tables_1_1) (i := 35) (by decide +kernel))) rfl
set_option maxRecDepth 20000 in
theorem u_fl_X9_88 : (.fieldLink RX9 88 "GossipArches$Reader" "faultKind" "I" : Cond) ∈ gW := gW_in (List.mem_append_left _ (List.mem_of_getElem? (l := tables_1_1) (i := 36) (by decide +kernel))) rfl
set_option maxRecDepth 20000 in
theorem u_fl_X5_22 : (.fieldLink RX5 22 "GossipArches$Reader" "faultAt" "I" : Cond) ∈ gW := gW_in (List.mem_append_left _ (List.mem_of_getElem? (l := tables_1_1) (i := 37) (by decide +kernel))) rfl
set_option maxRecDepth 20000 in
theorem u_fl_X9_107 : (.fieldLink RX9 107 "GossipArches$Reader" "faultAt" "I" : Cond) ∈ gW := gW_in (List.mem_append_left _ (List.mem_of_getElem? (l := tables_1_1) (i := 38) (by decide +kernel))) rfl
set_option maxRecDepth 20000 in
theorem u_fl_X5_25 : (.fieldLink RX5 25 "GossipArches$Reader" "at" "I" : Cond) ∈ gW := gW_in (List.mem_append_left _ (List.mem_of_getElem? (l := tables_1_1) (i := 39) (by decide +kernel))) rfl
set_option maxRecDepth 20000 in
theorem u_fl_X5_28 : (.fieldLink RX5 28 "GossipArches$Reader" "numberAt" "I" : Cond) ∈ gW := gW_in (List.mem_append_left _ (List.mem_of_getElem? (l := tables_1_1) (i := 40) (by decide +kernel))) rfl
set_option maxRecDepth 20000 in
theorem u_ly_X5_0 : (.laysFinal RX5 "GossipArches$Reader" "letters" "[I" : Cond) ∈ gW := gW_in (List.mem_append_left _ (List.mem_of_getElem? (l := tables_1_1) (i := 41) (by decide +kernel))) rfl
set_option maxRecDepth 20000 in
theorem u_ly_X5_1 : (.lays RX5 "GossipArches$Reader" "length" "I" : Cond) ∈ gW := gW_in (List.mem_append_left _ (List.mem_of_getElem? (l := tables_1_1) (i := 43) (by decide +kernel))) rfl
set_option maxRecDepth 20000 in
theorem u_ly_X5_2 : (.lays RX5 "GossipArches$Reader" "faultKind" "I" : Cond) ∈ gW := gW_in (List.mem_append_left _ (List.mem_of_getElem? (l := tables_1_1) (i := 45) (by decide +kernel))) rfl
set_option maxRecDepth 20000 in
theorem u_ly_X5_3 : (.lays RX5 "GossipArches$Reader" "faultAt" "I" : Cond) ∈ gW := gW_in (List.mem_append_left _ (List.mem_of_getElem? (l := tables_1_1) (i := 47) (by decide +kernel))) rfl
set_option maxRecDepth 20000 in
theorem u_ly_X5_4 : (.lays RX5 "GossipArches$Reader" "at" "I" : Cond) ∈ gW := gW_in (List.mem_append_left _ (List.mem_of_getElem? (l := tables_1_1) (i := 49) (by decide +kernel))) rfl
set_option maxRecDepth 20000 in
theorem u_ly_X5_5 : (.lays RX5 "GossipArches$Reader" "numberAt" "I" : Cond) ∈ gW := gW_in (List.mem_append_left _ (List.mem_of_getElem? (l := tables_1_1) (i := 51) (by decide +kernel))) rfl
set_option maxRecDepth 20000 in
theorem u_ac_int : (.arrayClass .int : Cond) ∈ gW := gW_in (List.mem_append_left _ (List.mem_of_getElem? (l := tables_1_1) (i := 54) (by decide +kernel))) rfl
set_option maxRecDepth 20000 in
theorem u_cl_X9_16 : (.classLink RX9 16 RX4 : Cond) ∈ gW := gW_in (List.mem_append_left _ (List.mem_of_getElem? (l := tables_1_1) (i := 55) (by decide +kernel))) rfl
set_option maxRecDepth 20000 in
theorem u_ins_X4 : (.instantiable RX4 9 : Cond) ∈ gW := gW_in (List.mem_append_left _ (List.mem_of_getElem? (l := tables_1_1) (i := 56) (by decide +kernel))) rfl
set_option maxRecDepth 20000 in
theorem u_im_X4_init : (.instanceMethod yX4_init : Cond) ∈ gW := gW_in (List.mem_append_left _ (List.mem_of_getElem? (l := tables_1_1) (i := 58) (by decide +kernel))) rfl
set_option maxRecDepth 20000 in
theorem u_co_X4_init : (.code yX4_init cX4_init 1 none : Cond) ∈ gW := gW_in (List.mem_append_left _ (List.mem_of_getElem? (l := tables_1_1) (i := 59) (rfl))) rfl
set_option maxRecDepth 20000 in
theorem u_ml_X4_3 : (.methodLink RX4 3 objectInit : Cond) ∈ gW := gW_in (List.mem_append_left _ (List.mem_of_getElem? (l := tables_1_1) (i := 60) (by decide +kernel))) rfl
set_option maxRecDepth 20000 in
theorem u_fl_X4_9 : (.fieldLink RX4 9 "GossipArches$Plan" "room" "I" : Cond) ∈ gW := gW_in (List.mem_append_left _ (List.mem_of_getElem? (l := tables_1_1) (i := 61) (by decide +kernel))) rfl
set_option maxRecDepth 20000 in
theorem u_fl_X5_47 : (.fieldLink RX5 47 "GossipArches$Plan" "room" "I" : Cond) ∈ gW := gW_in (List.mem_append_left _ (List.mem_of_getElem? (l := tables_1_1) (i := 62) (by decide +kernel))) rfl
set_option maxRecDepth 20000 in
theorem u_fl_X0_54 : (.fieldLink RX0 54 "GossipArches$Plan" "room" "I" : Cond) ∈ gW := gW_in (List.mem_append_left _ (List.mem_of_getElem? (l := tables_1_1) (i := 63) (by decide +kernel))) rfl
set_option maxRecDepth 20000 in
theorem u_fl_X9_110 : (.fieldLink RX9 110 "GossipArches$Plan" "room" "I" : Cond) ∈ gW := gW_in (List.mem_append_left _ (List.mem_of_getElem? (l := tables_1_1) (i := 64) (by decide +kernel))) rfl
set_option maxRecDepth 20000 in
theorem u_fl_X4_15 : (.fieldLink RX4 15 "GossipArches$Plan" "places" "I" : Cond) ∈ gW := gW_in (List.mem_append_left _ (List.mem_of_getElem? (l := tables_1_1) (i := 65) (by decide +kernel))) rfl
set_option maxRecDepth 20000 in
theorem u_fl_X8_24 : (.fieldLink RX8 24 "GossipArches$Plan" "places" "I" : Cond) ∈ gW := gW_in (List.mem_append_left _ (List.mem_of_getElem? (l := tables_1_1) (i := 66) (by decide +kernel))) rfl
set_option maxRecDepth 20000 in
theorem u_fl_X7_56 : (.fieldLink RX7 56 "GossipArches$Plan" "places" "I" : Cond) ∈ gW := gW_in (List.mem_append_left _ (List.mem_of_getElem? (l := tables_1_1) (i := 67) (by decide +kernel))) rfl
set_option maxRecDepth 20000 in
theorem u_fl_X9_104 : (.fieldLink RX9 104 "GossipArches$Plan" "places" "I" : Cond) ∈ gW := gW_in (List.mem_append_left _ (List.mem_of_getElem? (l := tables_1_1) (i := 68) (by decide +kernel))) rfl
set_option maxRecDepth 20000 in
theorem u_fl_X5_67 : (.fieldLink RX5 67 "GossipArches$Plan" "places" "I" : Cond) ∈ gW := gW_in (List.mem_append_left _ (List.mem_of_getElem? (l := tables_1_1) (i := 69) (by decide +kernel))) rfl
set_option maxRecDepth 20000 in
theorem u_fl_X0_63 : (.fieldLink RX0 63 "GossipArches$Plan" "places" "I" : Cond) ∈ gW := gW_in (List.mem_append_left _ (List.mem_of_getElem? (l := tables_1_1) (i := 70) (by decide +kernel))) rfl
set_option maxRecDepth 20000 in
theorem u_fl_X4_18 : (.fieldLink RX4 18 "GossipArches$Plan" "channels" "I" : Cond) ∈ gW := gW_in (List.mem_append_left _ (List.mem_of_getElem? (l := tables_1_1) (i := 71) (by decide +kernel))) rfl
set_option maxRecDepth 20000 in
theorem u_fl_X7_28 : (.fieldLink RX7 28 "GossipArches$Plan" "channels" "I" : Cond) ∈ gW := gW_in (List.mem_append_left _ (List.mem_of_getElem? (l := tables_1_1) (i := 72) (by decide +kernel))) rfl
set_option maxRecDepth 20000 in
theorem u_fl_X6_24 : (.fieldLink RX6 24 "GossipArches$Plan" "channels" "I" : Cond) ∈ gW := gW_in (List.mem_append_left _ (List.mem_of_getElem? (l := tables_1_1) (i := 73) (by decide +kernel))) rfl
set_option maxRecDepth 20000 in
theorem u_fl_X8_30 : (.fieldLink RX8 30 "GossipArches$Plan" "channels" "I" : Cond) ∈ gW := gW_in (List.mem_append_left _ (List.mem_of_getElem? (l := tables_1_1) (i := 74) (by decide +kernel))) rfl
set_option maxRecDepth 20000 in
theorem u_fl_X0_49 : (.fieldLink RX0 49 "GossipArches$Plan" "channels" "I" : Cond) ∈ gW := gW_in (List.mem_append_left _ (List.mem_of_getElem? (l := tables_1_1) (i := 75) (by decide +kernel))) rfl
set_option maxRecDepth 20000 in
theorem u_fl_X5_70 : (.fieldLink RX5 70 "GossipArches$Plan" "channels" "I" : Cond) ∈ gW := gW_in (List.mem_append_left _ (List.mem_of_getElem? (l := tables_1_1) (i := 76) (by decide +kernel))) rfl
set_option maxRecDepth 20000 in
theorem u_fl_X9_113 : (.fieldLink RX9 113 "GossipArches$Plan" "channels" "I" : Cond) ∈ gW := gW_in (List.mem_append_left _ (List.mem_of_getElem? (l := tables_1_1) (i := 77) (by decide +kernel))) rfl
set_option maxRecDepth 20000 in
theorem u_fl_X4_21 : (.fieldLink RX4 21 "GossipArches$Plan" "kind" "[I" : Cond) ∈ gW := gW_in (List.mem_append_left _ (List.mem_of_getElem? (l := tables_1_1) (i := 78) (by decide +kernel))) rfl
set_option maxRecDepth 20000 in
theorem u_fl_X9_143 : (.fieldLink RX9 143 "GossipArches$Plan" "kind" "[I" : Cond) ∈ gW := gW_in (List.mem_append_left _ (List.mem_of_getElem? (l := tables_1_1) (i := 79) (by decide +kernel))) rfl
set_option maxRecDepth 20000 in
theorem u_fl_X4_25 : (.fieldLink RX4 25 "GossipArches$Plan" "level" "[I" : Cond) ∈ gW := gW_in (List.mem_append_left _ (List.mem_of_getElem? (l := tables_1_1) (i := 80) (by decide +kernel))) rfl
set_option maxRecDepth 20000 in
theorem u_fl_X9_147 : (.fieldLink RX9 147 "GossipArches$Plan" "level" "[I" : Cond) ∈ gW := gW_in (List.mem_append_left _ (List.mem_of_getElem? (l := tables_1_1) (i := 81) (by decide +kernel))) rfl
set_option maxRecDepth 20000 in
theorem u_fl_X4_28 : (.fieldLink RX4 28 "GossipArches$Plan" "from" "[I" : Cond) ∈ gW := gW_in (List.mem_append_left _ (List.mem_of_getElem? (l := tables_1_1) (i := 82) (by decide +kernel))) rfl
set_option maxRecDepth 20000 in
theorem u_fl_X6_33 : (.fieldLink RX6 33 "GossipArches$Plan" "from" "[I" : Cond) ∈ gW := gW_in (List.mem_append_left _ (List.mem_of_getElem? (l := tables_1_1) (i := 83) (by decide +kernel))) rfl
set_option maxRecDepth 20000 in
theorem u_fl_X8_37 : (.fieldLink RX8 37 "GossipArches$Plan" "from" "[I" : Cond) ∈ gW := gW_in (List.mem_append_left _ (List.mem_of_getElem? (l := tables_1_1) (i := 84) (by decide +kernel))) rfl
set_option maxRecDepth 20000 in
theorem u_fl_X9_156 : (.fieldLink RX9 156 "GossipArches$Plan" "from" "[I" : Cond) ∈ gW := gW_in (List.mem_append_left _ (List.mem_of_getElem? (l := tables_1_1) (i := 85) (by decide +kernel))) rfl
set_option maxRecDepth 20000 in
theorem u_fl_X0_78 : (.fieldLink RX0 78 "GossipArches$Plan" "from" "[I" : Cond) ∈ gW := gW_in (List.mem_append_left _ (List.mem_of_getElem? (l := tables_1_1) (i := 86) (by decide +kernel))) rfl
set_option maxRecDepth 20000 in
theorem u_fl_X4_31 : (.fieldLink RX4 31 "GossipArches$Plan" "to" "[I" : Cond) ∈ gW := gW_in (List.mem_append_left _ (List.mem_of_getElem? (l := tables_1_1) (i := 87) (by decide +kernel))) rfl
set_option maxRecDepth 20000 in
theorem u_fl_X6_36 : (.fieldLink RX6 36 "GossipArches$Plan" "to" "[I" : Cond) ∈ gW := gW_in (List.mem_append_left _ (List.mem_of_getElem? (l := tables_1_1) (i := 88) (by decide +kernel))) rfl
set_option maxRecDepth 20000 in
theorem u_fl_X8_48 : (.fieldLink RX8 48 "GossipArches$Plan" "to" "[I" : Cond) ∈ gW := gW_in (List.mem_append_left _ (List.mem_of_getElem? (l := tables_1_1) (i := 89) (by decide +kernel))) rfl
set_option maxRecDepth 20000 in
theorem u_fl_X9_159 : (.fieldLink RX9 159 "GossipArches$Plan" "to" "[I" : Cond) ∈ gW := gW_in (List.mem_append_left _ (List.mem_of_getElem? (l := tables_1_1) (i := 90) (by decide +kernel))) rfl
set_option maxRecDepth 20000 in
theorem u_fl_X0_85 : (.fieldLink RX0 85 "GossipArches$Plan" "to" "[I" : Cond) ∈ gW := gW_in (List.mem_append_left _ (List.mem_of_getElem? (l := tables_1_1) (i := 91) (by decide +kernel))) rfl
set_option maxRecDepth 20000 in
theorem u_fl_X4_34 : (.fieldLink RX4 34 "GossipArches$Plan" "span" "[I" : Cond) ∈ gW := gW_in (List.mem_append_left _ (List.mem_of_getElem? (l := tables_1_1) (i := 92) (by decide +kernel))) rfl
set_option maxRecDepth 20000 in
theorem u_fl_X6_43 : (.fieldLink RX6 43 "GossipArches$Plan" "span" "[I" : Cond) ∈ gW := gW_in (List.mem_append_left _ (List.mem_of_getElem? (l := tables_1_1) (i := 93) (by decide +kernel))) rfl
set_option maxRecDepth 20000 in
theorem u_fl_X8_51 : (.fieldLink RX8 51 "GossipArches$Plan" "span" "[I" : Cond) ∈ gW := gW_in (List.mem_append_left _ (List.mem_of_getElem? (l := tables_1_1) (i := 94) (by decide +kernel))) rfl
set_option maxRecDepth 20000 in
theorem u_fl_X9_162 : (.fieldLink RX9 162 "GossipArches$Plan" "span" "[I" : Cond) ∈ gW := gW_in (List.mem_append_left _ (List.mem_of_getElem? (l := tables_1_1) (i := 95) (by decide +kernel))) rfl
set_option maxRecDepth 20000 in
theorem u_fl_X0_88 : (.fieldLink RX0 88 "GossipArches$Plan" "span" "[I" : Cond) ∈ gW := gW_in (List.mem_append_left _ (List.mem_of_getElem? (l := tables_1_1) (i := 96) (by decide +kernel))) rfl
set_option maxRecDepth 20000 in
theorem u_fl_X4_37 : (.fieldLink RX4 37 "GossipArches$Plan" "falling" "[I" : Cond) ∈ gW := gW_in (List.mem_append_left _ (List.mem_of_getElem? (l := tables_1_1) (i := 97) (by decide +kernel))) rfl
set_option maxRecDepth 20000 in
theorem u_fl_X6_30 : (.fieldLink RX6 30 "GossipArches$Plan" "falling" "[I" : Cond) ∈ gW := gW_in (List.mem_append_left _ (List.mem_of_getElem? (l := tables_1_1) (i := 98) (by decide +kernel))) rfl
set_option maxRecDepth 20000 in
theorem u_fl_X8_33 : (.fieldLink RX8 33 "GossipArches$Plan" "falling" "[I" : Cond) ∈ gW := gW_in (List.mem_append_left _ (List.mem_of_getElem? (l := tables_1_1) (i := 99) (by decide +kernel))) rfl
set_option maxRecDepth 20000 in
theorem u_ly_X4_0 : (.lays RX4 "GossipArches$Plan" "room" "I" : Cond) ∈ gW := gW_in (List.mem_append_left _ (List.mem_of_getElem? (l := tables_1_1) (i := 100) (by decide +kernel))) rfl
set_option maxRecDepth 20000 in
theorem u_ly_X4_1 : (.lays RX4 "GossipArches$Plan" "places" "I" : Cond) ∈ gW := gW_in (List.mem_append_left _ (List.mem_of_getElem? (l := tables_1_1) (i := 102) (by decide +kernel))) rfl
set_option maxRecDepth 20000 in
theorem u_ly_X4_2 : (.lays RX4 "GossipArches$Plan" "channels" "I" : Cond) ∈ gW := gW_in (List.mem_append_left _ (List.mem_of_getElem? (l := tables_1_1) (i := 104) (by decide +kernel))) rfl
set_option maxRecDepth 20000 in
theorem u_ly_X4_3 : (.laysFinal RX4 "GossipArches$Plan" "kind" "[I" : Cond) ∈ gW := gW_in (List.mem_append_left _ (List.mem_of_getElem? (l := tables_1_1) (i := 106) (by decide +kernel))) rfl
set_option maxRecDepth 20000 in
theorem u_ly_X4_4 : (.laysFinal RX4 "GossipArches$Plan" "level" "[I" : Cond) ∈ gW := gW_in (List.mem_append_left _ (List.mem_of_getElem? (l := tables_1_1) (i := 108) (by decide +kernel))) rfl
set_option maxRecDepth 20000 in
theorem u_ly_X4_5 : (.laysFinal RX4 "GossipArches$Plan" "from" "[I" : Cond) ∈ gW := gW_in (List.mem_append_left _ (List.mem_of_getElem? (l := tables_1_1) (i := 110) (by decide +kernel))) rfl
set_option maxRecDepth 20000 in
theorem u_ly_X4_6 : (.laysFinal RX4 "GossipArches$Plan" "to" "[I" : Cond) ∈ gW := gW_in (List.mem_append_left _ (List.mem_of_getElem? (l := tables_1_1) (i := 112) (by decide +kernel))) rfl
set_option maxRecDepth 20000 in
theorem u_ly_X4_7 : (.laysFinal RX4 "GossipArches$Plan" "span" "[I" : Cond) ∈ gW := gW_in (List.mem_append_left _ (List.mem_of_getElem? (l := tables_1_1) (i := 114) (by decide +kernel))) rfl
set_option maxRecDepth 20000 in
theorem u_ly_X4_8 : (.laysFinal RX4 "GossipArches$Plan" "falling" "[I" : Cond) ∈ gW := gW_in (List.mem_append_left _ (List.mem_of_getElem? (l := tables_1_1) (i := 116) (by decide +kernel))) rfl
set_option maxRecDepth 20000 in
theorem u_cl_X9_26 : (.classLink RX9 26 RX0 : Cond) ∈ gW := gW_in (List.mem_append_left _ (List.mem_of_getElem? (l := tables_1_1) (i := 119) (by decide +kernel))) rfl
set_option maxRecDepth 20000 in
theorem u_ins_X0 : (.instantiable RX0 7 : Cond) ∈ gW := gW_in (List.mem_append_left _ (List.mem_of_getElem? (l := tables_1_1) (i := 120) (by decide +kernel))) rfl
set_option maxRecDepth 20000 in
theorem u_ml_X9_28 : (.methodLink RX9 28 yX0_init : Cond) ∈ gW := gW_in (List.mem_append_left _ (List.mem_of_getElem? (l := tables_1_1) (i := 121) (by decide +kernel))) rfl
set_option maxRecDepth 20000 in
theorem u_im_X0_init : (.instanceMethod yX0_init : Cond) ∈ gW := gW_in (List.mem_append_left _ (List.mem_of_getElem? (l := tables_1_1) (i := 122) (by decide +kernel))) rfl
set_option maxRecDepth 20000 in
theorem u_co_X0_init : (.code yX0_init cX0_init 1 none : Cond) ∈ gW := gW_in (List.mem_append_left _ (List.mem_of_getElem? (l := tables_1_1) (i := 123) (rfl))) rfl
set_option maxRecDepth 20000 in
theorem u_ml_X0_3 : (.methodLink RX0 3 objectInit : Cond) ∈ gW := gW_in (List.mem_append_left _ (List.mem_of_getElem? (l := tables_1_1) (i := 124) (by decide +kernel))) rfl
set_option maxRecDepth 20000 in
theorem u_ml_X0_34 : (.methodLink RX0 34 yJ7_fill_53178 : Cond) ∈ gW := gW_in (List.mem_append_left _ (List.mem_of_getElem? (l := tables_1_1) (i := 125) (by decide +kernel))) rfl
set_option maxRecDepth 20000 in
theorem u_st_J7_fill_53178 : (.static yJ7_fill_53178 : Cond) ∈ gW := gW_in (List.mem_append_left _ (List.mem_of_getElem? (l := tables_1_1) (i := 126) (by decide +kernel))) rfl
set_option maxRecDepth 20000 in
theorem u_co_J7_fill_53178 : (.code yJ7_fill_53178 cJ7_fill_53178 4 none : Cond) ∈ gW := gW_in (List.mem_append_left _ (List.mem_of_getElem? (l := tables_1_1) (i := 127) (rfl))) rfl
set_option maxRecDepth 20000 in
theorem u_fl_X0_9 : (.fieldLink RX0 9 "GossipArches$Flow" "hours" "I" : Cond) ∈ gW := gW_in (List.mem_append_left _ (List.mem_of_getElem? (l := tables_1_1) (i := 128) (by decide +kernel))) rfl
set_option maxRecDepth 20000 in
theorem u_fl_X9_116 : (.fieldLink RX9 116 "GossipArches$Flow" "hours" "I" : Cond) ∈ gW := gW_in (List.mem_append_left _ (List.mem_of_getElem? (l := tables_1_1) (i := 129) (by decide +kernel))) rfl
set_option maxRecDepth 20000 in
theorem u_fl_X0_15 : (.fieldLink RX0 15 "GossipArches$Flow" "shut" "I" : Cond) ∈ gW := gW_in (List.mem_append_left _ (List.mem_of_getElem? (l := tables_1_1) (i := 130) (by decide +kernel))) rfl
set_option maxRecDepth 20000 in
theorem u_fl_X7_40 : (.fieldLink RX7 40 "GossipArches$Flow" "shut" "I" : Cond) ∈ gW := gW_in (List.mem_append_left _ (List.mem_of_getElem? (l := tables_1_1) (i := 131) (by decide +kernel))) rfl
set_option maxRecDepth 20000 in
theorem u_fl_X9_119 : (.fieldLink RX9 119 "GossipArches$Flow" "shut" "I" : Cond) ∈ gW := gW_in (List.mem_append_left _ (List.mem_of_getElem? (l := tables_1_1) (i := 132) (by decide +kernel))) rfl
set_option maxRecDepth 20000 in
theorem u_fl_X0_18 : (.fieldLink RX0 18 "GossipArches$Flow" "silt" "[I" : Cond) ∈ gW := gW_in (List.mem_append_left _ (List.mem_of_getElem? (l := tables_1_1) (i := 133) (by decide +kernel))) rfl
set_option maxRecDepth 20000 in
theorem u_fl_X9_165 : (.fieldLink RX9 165 "GossipArches$Flow" "silt" "[I" : Cond) ∈ gW := gW_in (List.mem_append_left _ (List.mem_of_getElem? (l := tables_1_1) (i := 134) (by decide +kernel))) rfl
set_option maxRecDepth 20000 in
theorem u_fl_X0_22 : (.fieldLink RX0 22 "GossipArches$Flow" "crack" "[I" : Cond) ∈ gW := gW_in (List.mem_append_left _ (List.mem_of_getElem? (l := tables_1_1) (i := 135) (by decide +kernel))) rfl
set_option maxRecDepth 20000 in
theorem u_fl_X7_45 : (.fieldLink RX7 45 "GossipArches$Flow" "crack" "[I" : Cond) ∈ gW := gW_in (List.mem_append_left _ (List.mem_of_getElem? (l := tables_1_1) (i := 136) (by decide +kernel))) rfl
set_option maxRecDepth 20000 in
theorem u_fl_X9_172 : (.fieldLink RX9 172 "GossipArches$Flow" "crack" "[I" : Cond) ∈ gW := gW_in (List.mem_append_left _ (List.mem_of_getElem? (l := tables_1_1) (i := 137) (by decide +kernel))) rfl
set_option maxRecDepth 20000 in
theorem u_fl_X0_25 : (.fieldLink RX0 25 "GossipArches$Flow" "heard" "[I" : Cond) ∈ gW := gW_in (List.mem_append_left _ (List.mem_of_getElem? (l := tables_1_1) (i := 138) (by decide +kernel))) rfl
set_option maxRecDepth 20000 in
theorem u_fl_X2_34 : (.fieldLink RX2 34 "GossipArches$Flow" "heard" "[I" : Cond) ∈ gW := gW_in (List.mem_append_left _ (List.mem_of_getElem? (l := tables_1_1) (i := 139) (by decide +kernel))) rfl
set_option maxRecDepth 20000 in
theorem u_fl_X9_150 : (.fieldLink RX9 150 "GossipArches$Flow" "heard" "[I" : Cond) ∈ gW := gW_in (List.mem_append_left _ (List.mem_of_getElem? (l := tables_1_1) (i := 140) (by decide +kernel))) rfl
set_option maxRecDepth 20000 in
theorem u_fl_X0_28 : (.fieldLink RX0 28 "GossipArches$Flow" "firstAt" "[I" : Cond) ∈ gW := gW_in (List.mem_append_left _ (List.mem_of_getElem? (l := tables_1_1) (i := 141) (by decide +kernel))) rfl
set_option maxRecDepth 20000 in
theorem u_fl_X9_178 : (.fieldLink RX9 178 "GossipArches$Flow" "firstAt" "[I" : Cond) ∈ gW := gW_in (List.mem_append_left _ (List.mem_of_getElem? (l := tables_1_1) (i := 142) (by decide +kernel))) rfl
set_option maxRecDepth 20000 in
theorem u_fl_X0_31 : (.fieldLink RX0 31 "GossipArches$Flow" "due" "[I" : Cond) ∈ gW := gW_in (List.mem_append_left _ (List.mem_of_getElem? (l := tables_1_1) (i := 143) (by decide +kernel))) rfl
set_option maxRecDepth 20000 in
theorem u_ly_X0_0 : (.lays RX0 "GossipArches$Flow" "hours" "I" : Cond) ∈ gW := gW_in (List.mem_append_left _ (List.mem_of_getElem? (l := tables_1_1) (i := 144) (by decide +kernel))) rfl
set_option maxRecDepth 20000 in
theorem u_ly_X0_1 : (.lays RX0 "GossipArches$Flow" "shut" "I" : Cond) ∈ gW := gW_in (List.mem_append_left _ (List.mem_of_getElem? (l := tables_1_1) (i := 146) (by decide +kernel))) rfl
set_option maxRecDepth 20000 in
theorem u_ly_X0_2 : (.laysFinal RX0 "GossipArches$Flow" "silt" "[I" : Cond) ∈ gW := gW_in (List.mem_append_left _ (List.mem_of_getElem? (l := tables_1_1) (i := 148) (by decide +kernel))) rfl
set_option maxRecDepth 20000 in
theorem u_ly_X0_3 : (.laysFinal RX0 "GossipArches$Flow" "crack" "[I" : Cond) ∈ gW := gW_in (List.mem_append_left _ (List.mem_of_getElem? (l := tables_1_1) (i := 150) (by decide +kernel))) rfl
set_option maxRecDepth 20000 in
theorem u_ly_X0_4 : (.laysFinal RX0 "GossipArches$Flow" "heard" "[I" : Cond) ∈ gW := gW_in (List.mem_append_left _ (List.mem_of_getElem? (l := tables_1_1) (i := 152) (by decide +kernel))) rfl
set_option maxRecDepth 20000 in
theorem u_ly_X0_5 : (.laysFinal RX0 "GossipArches$Flow" "firstAt" "[I" : Cond) ∈ gW := gW_in (List.mem_append_left _ (List.mem_of_getElem? (l := tables_1_1) (i := 154) (by decide +kernel))) rfl
set_option maxRecDepth 20000 in
theorem u_ly_X0_6 : (.laysFinal RX0 "GossipArches$Flow" "due" "[I" : Cond) ∈ gW := gW_in (List.mem_append_left _ (List.mem_of_getElem? (l := tables_1_1) (i := 156) (by decide +kernel))) rfl
set_option maxRecDepth 20000 in
theorem u_cl_X9_36 : (.classLink RX9 36 RX3 : Cond) ∈ gW := gW_in (List.mem_append_left _ (List.mem_of_getElem? (l := tables_1_1) (i := 159) (by decide +kernel))) rfl
set_option maxRecDepth 20000 in
theorem u_ins_X3 : (.instantiable RX3 3 : Cond) ∈ gW := gW_in (List.mem_append_left _ (List.mem_of_getElem? (l := tables_1_1) (i := 160) (by decide +kernel))) rfl
set_option maxRecDepth 20000 in
theorem u_ml_X9_38 : (.methodLink RX9 38 yX3_init : Cond) ∈ gW := gW_in (List.mem_append_left _ (List.mem_of_getElem? (l := tables_1_1) (i := 161) (by decide +kernel))) rfl
set_option maxRecDepth 20000 in
theorem u_im_X3_init : (.instanceMethod yX3_init : Cond) ∈ gW := gW_in (List.mem_append_left _ (List.mem_of_getElem? (l := tables_1_1) (i := 162) (by decide +kernel))) rfl
set_option maxRecDepth 20000 in
theorem u_co_X3_init : (.code yX3_init cX3_init 2 none : Cond) ∈ gW := gW_in (List.mem_append_left _ (List.mem_of_getElem? (l := tables_1_1) (i := 163) (rfl))) rfl
set_option maxRecDepth 20000 in
theorem u_ml_X3_3 : (.methodLink RX3 3 objectInit : Cond) ∈ gW := gW_in (List.mem_append_left _ (List.mem_of_getElem? (l := tables_1_1) (i := 164) (by decide +kernel))) rfl
set_option maxRecDepth 20000 in
theorem u_cl_X3_18 : (.classLink RX3 18 RX0 : Cond) ∈ gW := gW_in (List.mem_append_left _ (List.mem_of_getElem? (l := tables_1_1) (i := 165) (by decide +kernel))) rfl
set_option maxRecDepth 20000 in
theorem u_ao_X0 : (.arrayOver (.object RX0) : Cond) ∈ lw_tbl := List.mem_append_right _ (List.mem_append_left _ (List.mem_of_getElem? (l := tables_1_1) (i := 166) (by decide +kernel)))
set_option maxRecDepth 20000 in
theorem u_ml_X3_24 : (.methodLink RX3 24 yX0_init : Cond) ∈ gW := gW_in (List.mem_append_left _ (List.mem_of_getElem? (l := tables_1_1) (i := 167) (by decide +kernel))) rfl
set_option maxRecDepth 20000 in
theorem u_fl_X3_9 : (.fieldLink RX3 9 "GossipArches$Past" "count" "I" : Cond) ∈ gW := gW_in (List.mem_append_left _ (List.mem_of_getElem? (l := tables_1_1) (i := 168) (by decide +kernel))) rfl
set_option maxRecDepth 20000 in
theorem u_fl_X9_136 : (.fieldLink RX9 136 "GossipArches$Past" "count" "I" : Cond) ∈ gW := gW_in (List.mem_append_left _ (List.mem_of_getElem? (l := tables_1_1) (i := 169) (by decide +kernel))) rfl
set_option maxRecDepth 20000 in
theorem u_fl_X3_15 : (.fieldLink RX3 15 "GossipArches$Past" "next" "I" : Cond) ∈ gW := gW_in (List.mem_append_left _ (List.mem_of_getElem? (l := tables_1_1) (i := 170) (by decide +kernel))) rfl
set_option maxRecDepth 20000 in
theorem u_fl_X3_20 : (.fieldLink RX3 20 "GossipArches$Past" "ring" "[LGossipArches$Flow;" : Cond) ∈ gW := gW_in (List.mem_append_left _ (List.mem_of_getElem? (l := tables_1_1) (i := 171) (by decide +kernel))) rfl
set_option maxRecDepth 20000 in
theorem u_ly_X3_0 : (.lays RX3 "GossipArches$Past" "count" "I" : Cond) ∈ gW := gW_in (List.mem_append_left _ (List.mem_of_getElem? (l := tables_1_1) (i := 172) (by decide +kernel))) rfl
set_option maxRecDepth 20000 in
theorem u_ly_X3_1 : (.lays RX3 "GossipArches$Past" "next" "I" : Cond) ∈ gW := gW_in (List.mem_append_left _ (List.mem_of_getElem? (l := tables_1_1) (i := 174) (by decide +kernel))) rfl
set_option maxRecDepth 20000 in
theorem u_ly_X3_2 : (.laysFinal RX3 "GossipArches$Past" "ring" "[LGossipArches$Flow;" : Cond) ∈ gW := gW_in (List.mem_append_left _ (List.mem_of_getElem? (l := tables_1_1) (i := 176) (by decide +kernel))) rfl
set_option maxRecDepth 20000 in
theorem u_cl_X9_43 : (.classLink RX9 43 RX1 : Cond) ∈ gW := gW_in (List.mem_append_left _ (List.mem_of_getElem? (l := tables_1_1) (i := 179) (by decide +kernel))) rfl
set_option maxRecDepth 20000 in
theorem u_ao_X1 : (.arrayOver (.object RX1) : Cond) ∈ lw_tbl := List.mem_append_right _ (List.mem_append_left _ (List.mem_of_getElem? (l := tables_1_1) (i := 180) (by decide +kernel)))
set_option maxRecDepth 20000 in
theorem u_cl_X9_49 : (.classLink RX9 49 RX2 : Cond) ∈ gW := gW_in (List.mem_append_left _ (List.mem_of_getElem? (l := tables_1_1) (i := 181) (by decide +kernel))) rfl
set_option maxRecDepth 20000 in
theorem u_ins_X2 : (.instantiable RX2 7 : Cond) ∈ gW := gW_in (List.mem_append_left _ (List.mem_of_getElem? (l := tables_1_1) (i := 182) (by decide +kernel))) rfl
set_option maxRecDepth 20000 in
theorem u_im_X2_init : (.instanceMethod yX2_init : Cond) ∈ gW := gW_in (List.mem_append_left _ (List.mem_of_getElem? (l := tables_1_1) (i := 184) (by decide +kernel))) rfl
set_option maxRecDepth 20000 in
theorem u_co_X2_init : (.code yX2_init cX2_init 1 none : Cond) ∈ gW := gW_in (List.mem_append_left _ (List.mem_of_getElem? (l := tables_1_1) (i := 185) (rfl))) rfl
set_option maxRecDepth 20000 in
theorem u_ml_X2_3 : (.methodLink RX2 3 objectInit : Cond) ∈ gW := gW_in (List.mem_append_left _ (List.mem_of_getElem? (l := tables_1_1) (i := 186) (by decide +kernel))) rfl
set_option maxRecDepth 20000 in
theorem u_fl_X2_9 : (.fieldLink RX2 9 "GossipArches$Notes" "drips" "I" : Cond) ∈ gW := gW_in (List.mem_append_left _ (List.mem_of_getElem? (l := tables_1_1) (i := 187) (by decide +kernel))) rfl
set_option maxRecDepth 20000 in
theorem u_fl_X7_77 : (.fieldLink RX7 77 "GossipArches$Notes" "drips" "I" : Cond) ∈ gW := gW_in (List.mem_append_left _ (List.mem_of_getElem? (l := tables_1_1) (i := 188) (by decide +kernel))) rfl
set_option maxRecDepth 20000 in
theorem u_fl_X9_130 : (.fieldLink RX9 130 "GossipArches$Notes" "drips" "I" : Cond) ∈ gW := gW_in (List.mem_append_left _ (List.mem_of_getElem? (l := tables_1_1) (i := 189) (by decide +kernel))) rfl
set_option maxRecDepth 20000 in
theorem u_fl_X2_15 : (.fieldLink RX2 15 "GossipArches$Notes" "entries" "I" : Cond) ∈ gW := gW_in (List.mem_append_left _ (List.mem_of_getElem? (l := tables_1_1) (i := 190) (by decide +kernel))) rfl
set_option maxRecDepth 20000 in
theorem u_fl_X9_133 : (.fieldLink RX9 133 "GossipArches$Notes" "entries" "I" : Cond) ∈ gW := gW_in (List.mem_append_left _ (List.mem_of_getElem? (l := tables_1_1) (i := 191) (by decide +kernel))) rfl
set_option maxRecDepth 20000 in
theorem u_fl_X2_18 : (.fieldLink RX2 18 "GossipArches$Notes" "dripPlace" "[I" : Cond) ∈ gW := gW_in (List.mem_append_left _ (List.mem_of_getElem? (l := tables_1_1) (i := 192) (by decide +kernel))) rfl
set_option maxRecDepth 20000 in
theorem u_fl_X7_85 : (.fieldLink RX7 85 "GossipArches$Notes" "dripPlace" "[I" : Cond) ∈ gW := gW_in (List.mem_append_left _ (List.mem_of_getElem? (l := tables_1_1) (i := 193) (by decide +kernel))) rfl
set_option maxRecDepth 20000 in
theorem u_fl_X2_22 : (.fieldLink RX2 22 "GossipArches$Notes" "dripSaying" "[I" : Cond) ∈ gW := gW_in (List.mem_append_left _ (List.mem_of_getElem? (l := tables_1_1) (i := 194) (by decide +kernel))) rfl
set_option maxRecDepth 20000 in
theorem u_fl_X7_82 : (.fieldLink RX7 82 "GossipArches$Notes" "dripSaying" "[I" : Cond) ∈ gW := gW_in (List.mem_append_left _ (List.mem_of_getElem? (l := tables_1_1) (i := 195) (by decide +kernel))) rfl
set_option maxRecDepth 20000 in
theorem u_fl_X2_25 : (.fieldLink RX2 25 "GossipArches$Notes" "dripHour" "[I" : Cond) ∈ gW := gW_in (List.mem_append_left _ (List.mem_of_getElem? (l := tables_1_1) (i := 196) (by decide +kernel))) rfl
set_option maxRecDepth 20000 in
theorem u_fl_X7_91 : (.fieldLink RX7 91 "GossipArches$Notes" "dripHour" "[I" : Cond) ∈ gW := gW_in (List.mem_append_left _ (List.mem_of_getElem? (l := tables_1_1) (i := 197) (by decide +kernel))) rfl
set_option maxRecDepth 20000 in
theorem u_fl_X2_28 : (.fieldLink RX2 28 "GossipArches$Notes" "entryPlace" "[I" : Cond) ∈ gW := gW_in (List.mem_append_left _ (List.mem_of_getElem? (l := tables_1_1) (i := 198) (by decide +kernel))) rfl
set_option maxRecDepth 20000 in
theorem u_fl_X2_31 : (.fieldLink RX2 31 "GossipArches$Notes" "entrySet" "[I" : Cond) ∈ gW := gW_in (List.mem_append_left _ (List.mem_of_getElem? (l := tables_1_1) (i := 199) (by decide +kernel))) rfl
set_option maxRecDepth 20000 in
theorem u_ly_X2_0 : (.lays RX2 "GossipArches$Notes" "drips" "I" : Cond) ∈ gW := gW_in (List.mem_append_left _ (List.mem_of_getElem? (l := tables_1_1) (i := 200) (by decide +kernel))) rfl
set_option maxRecDepth 20000 in
theorem u_ly_X2_1 : (.lays RX2 "GossipArches$Notes" "entries" "I" : Cond) ∈ gW := gW_in (List.mem_append_left _ (List.mem_of_getElem? (l := tables_1_1) (i := 202) (by decide +kernel))) rfl
set_option maxRecDepth 20000 in
theorem u_ly_X2_2 : (.laysFinal RX2 "GossipArches$Notes" "dripPlace" "[I" : Cond) ∈ gW := gW_in (List.mem_append_left _ (List.mem_of_getElem? (l := tables_1_1) (i := 204) (by decide +kernel))) rfl
set_option maxRecDepth 20000 in
theorem u_ly_X2_3 : (.laysFinal RX2 "GossipArches$Notes" "dripSaying" "[I" : Cond) ∈ gW := gW_in (List.mem_append_left _ (List.mem_of_getElem? (l := tables_1_1) (i := 206) (by decide +kernel))) rfl
set_option maxRecDepth 20000 in
theorem u_ly_X2_4 : (.laysFinal RX2 "GossipArches$Notes" "dripHour" "[I" : Cond) ∈ gW := gW_in (List.mem_append_left _ (List.mem_of_getElem? (l := tables_1_1) (i := 208) (by decide +kernel))) rfl
set_option maxRecDepth 20000 in
theorem u_ly_X2_5 : (.laysFinal RX2 "GossipArches$Notes" "entryPlace" "[I" : Cond) ∈ gW := gW_in (List.mem_append_left _ (List.mem_of_getElem? (l := tables_1_1) (i := 210) (by decide +kernel))) rfl
set_option maxRecDepth 20000 in
theorem u_ly_X2_6 : (.laysFinal RX2 "GossipArches$Notes" "entrySet" "[I" : Cond) ∈ gW := gW_in (List.mem_append_left _ (List.mem_of_getElem? (l := tables_1_1) (i := 212) (by decide +kernel))) rfl
set_option maxRecDepth 20000 in
theorem u_cl_X9_56 : (.classLink RX9 56 RX7 : Cond) ∈ gW := gW_in (List.mem_append_left _ (List.mem_of_getElem? (l := tables_1_1) (i := 215) (by decide +kernel))) rfl
set_option maxRecDepth 20000 in
theorem u_ins_X7 : (.instantiable RX7 4 : Cond) ∈ gW := gW_in (List.mem_append_left _ (List.mem_of_getElem? (l := tables_1_1) (i := 216) (by decide +kernel))) rfl
set_option maxRecDepth 20000 in
theorem u_im_X7_init : (.instanceMethod yX7_init : Cond) ∈ gW := gW_in (List.mem_append_left _ (List.mem_of_getElem? (l := tables_1_1) (i := 218) (by decide +kernel))) rfl
set_option maxRecDepth 20000 in
theorem u_co_X7_init : (.code yX7_init cX7_init 1 none : Cond) ∈ gW := gW_in (List.mem_append_left _ (List.mem_of_getElem? (l := tables_1_1) (i := 219) (rfl))) rfl
set_option maxRecDepth 20000 in
theorem u_ml_X7_3 : (.methodLink RX7 3 objectInit : Cond) ∈ gW := gW_in (List.mem_append_left _ (List.mem_of_getElem? (l := tables_1_1) (i := 220) (by decide +kernel))) rfl
set_option maxRecDepth 20000 in
theorem u_cl_X7_9 : (.classLink RX7 9 RX8 : Cond) ∈ gW := gW_in (List.mem_append_left _ (List.mem_of_getElem? (l := tables_1_1) (i := 221) (by decide +kernel))) rfl
set_option maxRecDepth 20000 in
theorem u_ins_X8 : (.instantiable RX8 2 : Cond) ∈ gW := gW_in (List.mem_append_left _ (List.mem_of_getElem? (l := tables_1_1) (i := 222) (by decide +kernel))) rfl
set_option maxRecDepth 20000 in
theorem u_im_X8_init : (.instanceMethod yX8_init : Cond) ∈ gW := gW_in (List.mem_append_left _ (List.mem_of_getElem? (l := tables_1_1) (i := 224) (by decide +kernel))) rfl
set_option maxRecDepth 20000 in
theorem u_co_X8_init : (.code yX8_init cX8_init 1 none : Cond) ∈ gW := gW_in (List.mem_append_left _ (List.mem_of_getElem? (l := tables_1_1) (i := 225) (rfl))) rfl
set_option maxRecDepth 20000 in
theorem u_ml_X8_3 : (.methodLink RX8 3 objectInit : Cond) ∈ gW := gW_in (List.mem_append_left _ (List.mem_of_getElem? (l := tables_1_1) (i := 226) (by decide +kernel))) rfl
set_option maxRecDepth 20000 in
theorem u_fl_X8_9 : (.fieldLink RX8 9 "GossipArches$Spread" "comes" "[J" : Cond) ∈ gW := gW_in (List.mem_append_left _ (List.mem_of_getElem? (l := tables_1_1) (i := 227) (by decide +kernel))) rfl
set_option maxRecDepth 20000 in
theorem u_fl_X7_59 : (.fieldLink RX7 59 "GossipArches$Spread" "comes" "[J" : Cond) ∈ gW := gW_in (List.mem_append_left _ (List.mem_of_getElem? (l := tables_1_1) (i := 228) (by decide +kernel))) rfl
set_option maxRecDepth 20000 in
theorem u_fl_X8_15 : (.fieldLink RX8 15 "GossipArches$Spread" "drips" "[J" : Cond) ∈ gW := gW_in (List.mem_append_left _ (List.mem_of_getElem? (l := tables_1_1) (i := 229) (by decide +kernel))) rfl
set_option maxRecDepth 20000 in
theorem u_ly_X8_0 : (.laysFinal RX8 "GossipArches$Spread" "comes" "[J" : Cond) ∈ gW := gW_in (List.mem_append_left _ (List.mem_of_getElem? (l := tables_1_1) (i := 230) (by decide +kernel))) rfl
set_option maxRecDepth 20000 in
theorem u_ly_X8_1 : (.laysFinal RX8 "GossipArches$Spread" "drips" "[J" : Cond) ∈ gW := gW_in (List.mem_append_left _ (List.mem_of_getElem? (l := tables_1_1) (i := 232) (by decide +kernel))) rfl
set_option maxRecDepth 20000 in
theorem u_ac_long : (.arrayClass .long : Cond) ∈ gW := gW_in (List.mem_append_left _ (List.mem_of_getElem? (l := tables_1_1) (i := 235) (by decide +kernel))) rfl
set_option maxRecDepth 20000 in
theorem u_fl_X7_12 : (.fieldLink RX7 12 "GossipArches$Search" "one" "LGossipArches$Spread;" : Cond) ∈ gW := gW_in (List.mem_append_left _ (List.mem_of_getElem? (l := tables_1_1) (i := 236) (by decide +kernel))) rfl
set_option maxRecDepth 20000 in
theorem u_fl_X7_18 : (.fieldLink RX7 18 "GossipArches$Search" "other" "LGossipArches$Spread;" : Cond) ∈ gW := gW_in (List.mem_append_left _ (List.mem_of_getElem? (l := tables_1_1) (i := 237) (by decide +kernel))) rfl
set_option maxRecDepth 20000 in
theorem u_fl_X7_21 : (.fieldLink RX7 21 "GossipArches$Search" "lone" "[I" : Cond) ∈ gW := gW_in (List.mem_append_left _ (List.mem_of_getElem? (l := tables_1_1) (i := 238) (by decide +kernel))) rfl
set_option maxRecDepth 20000 in
theorem u_fl_X7_25 : (.fieldLink RX7 25 "GossipArches$Search" "hourOf" "[I" : Cond) ∈ gW := gW_in (List.mem_append_left _ (List.mem_of_getElem? (l := tables_1_1) (i := 239) (by decide +kernel))) rfl
set_option maxRecDepth 20000 in
theorem u_ly_X7_0 : (.laysFinal RX7 "GossipArches$Search" "one" "LGossipArches$Spread;" : Cond) ∈ gW := gW_in (List.mem_append_right _ (List.mem_append_left _ (List.mem_of_getElem? (l := tables_1_2) (i := 0) (by decide +kernel)))) rfl
set_option maxRecDepth 20000 in
theorem u_ly_X7_1 : (.laysFinal RX7 "GossipArches$Search" "other" "LGossipArches$Spread;" : Cond) ∈ gW := gW_in (List.mem_append_right _ (List.mem_append_left _ (List.mem_of_getElem? (l := tables_1_2) (i := 2) (by decide +kernel)))) rfl
set_option maxRecDepth 20000 in
theorem u_ly_X7_2 : (.laysFinal RX7 "GossipArches$Search" "lone" "[I" : Cond) ∈ gW := gW_in (List.mem_append_right _ (List.mem_append_left _ (List.mem_of_getElem? (l := tables_1_2) (i := 4) (by decide +kernel)))) rfl
set_option maxRecDepth 20000 in
theorem u_ly_X7_3 : (.laysFinal RX7 "GossipArches$Search" "hourOf" "[I" : Cond) ∈ gW := gW_in (List.mem_append_right _ (List.mem_append_left _ (List.mem_of_getElem? (l := tables_1_2) (i := 6) (by decide +kernel)))) rfl
set_option maxRecDepth 20000 in
theorem u_cl_X9_63 : (.classLink RX9 63 RX6 : Cond) ∈ gW := gW_in (List.mem_append_right _ (List.mem_append_left _ (List.mem_of_getElem? (l := tables_1_2) (i := 9) (by decide +kernel)))) rfl
set_option maxRecDepth 20000 in
theorem u_ins_X6 : (.instantiable RX6 2 : Cond) ∈ gW := gW_in (List.mem_append_right _ (List.mem_append_left _ (List.mem_of_getElem? (l := tables_1_2) (i := 10) (by decide +kernel)))) rfl
set_option maxRecDepth 20000 in
theorem u_im_X6_init : (.instanceMethod yX6_init : Cond) ∈ gW := gW_in (List.mem_append_right _ (List.mem_append_left _ (List.mem_of_getElem? (l := tables_1_2) (i := 12) (by decide +kernel)))) rfl
set_option maxRecDepth 20000 in
theorem u_co_X6_init : (.code yX6_init cX6_init 1 none : Cond) ∈ gW := gW_in (List.mem_append_right _ (List.mem_append_left _ (List.mem_of_getElem? (l := tables_1_2) (i := 13) (rfl)))) rfl
set_option maxRecDepth 20000 in
theorem u_ml_X6_3 : (.methodLink RX6 3 objectInit : Cond) ∈ gW := gW_in (List.mem_append_right _ (List.mem_append_left _ (List.mem_of_getElem? (l := tables_1_2) (i := 14) (by decide +kernel)))) rfl
set_option maxRecDepth 20000 in
theorem u_fl_X6_9 : (.fieldLink RX6 9 "GossipArches$Routes" "hours" "[I" : Cond) ∈ gW := gW_in (List.mem_append_right _ (List.mem_append_left _ (List.mem_of_getElem? (l := tables_1_2) (i := 15) (by decide +kernel)))) rfl
set_option maxRecDepth 20000 in
theorem u_fl_X9_236 : (.fieldLink RX9 236 "GossipArches$Routes" "hours" "[I" : Cond) ∈ gW := gW_in (List.mem_append_right _ (List.mem_append_left _ (List.mem_of_getElem? (l := tables_1_2) (i := 16) (by decide +kernel)))) rfl
set_option maxRecDepth 20000 in
theorem u_fl_X6_15 : (.fieldLink RX6 15 "GossipArches$Routes" "count" "[I" : Cond) ∈ gW := gW_in (List.mem_append_right _ (List.mem_append_left _ (List.mem_of_getElem? (l := tables_1_2) (i := 17) (by decide +kernel)))) rfl
set_option maxRecDepth 20000 in
theorem u_fl_X9_238 : (.fieldLink RX9 238 "GossipArches$Routes" "count" "[I" : Cond) ∈ gW := gW_in (List.mem_append_right _ (List.mem_append_left _ (List.mem_of_getElem? (l := tables_1_2) (i := 18) (by decide +kernel)))) rfl
set_option maxRecDepth 20000 in
theorem u_ly_X6_0 : (.laysFinal RX6 "GossipArches$Routes" "hours" "[I" : Cond) ∈ gW := gW_in (List.mem_append_right _ (List.mem_append_left _ (List.mem_of_getElem? (l := tables_1_2) (i := 19) (by decide +kernel)))) rfl
set_option maxRecDepth 20000 in
theorem u_ly_X6_1 : (.laysFinal RX6 "GossipArches$Routes" "count" "[I" : Cond) ∈ gW := gW_in (List.mem_append_right _ (List.mem_append_left _ (List.mem_of_getElem? (l := tables_1_2) (i := 21) (by decide +kernel)))) rfl
set_option maxRecDepth 20000 in
theorem u_ins_X1 : (.instantiable RX1 3 : Cond) ∈ gW := gW_in (List.mem_append_right _ (List.mem_append_left _ (List.mem_of_getElem? (l := tables_1_2) (i := 24) (by decide +kernel)))) rfl
set_option maxRecDepth 20000 in
theorem u_im_X1_init : (.instanceMethod yX1_init : Cond) ∈ gW := gW_in (List.mem_append_right _ (List.mem_append_left _ (List.mem_of_getElem? (l := tables_1_2) (i := 26) (by decide +kernel)))) rfl
set_option maxRecDepth 20000 in
theorem u_co_X1_init : (.code yX1_init cX1_init 1 none : Cond) ∈ gW := gW_in (List.mem_append_right _ (List.mem_append_left _ (List.mem_of_getElem? (l := tables_1_2) (i := 27) (rfl)))) rfl
set_option maxRecDepth 20000 in
theorem u_ml_X1_1 : (.methodLink RX1 1 objectInit : Cond) ∈ gW := gW_in (List.mem_append_right _ (List.mem_append_left _ (List.mem_of_getElem? (l := tables_1_2) (i := 28) (by decide +kernel)))) rfl
set_option maxRecDepth 20000 in
theorem u_cl_X1_17 : (.classLink RX1 17 RX0 : Cond) ∈ gW := gW_in (List.mem_append_right _ (List.mem_append_left _ (List.mem_of_getElem? (l := tables_1_2) (i := 29) (by decide +kernel)))) rfl
set_option maxRecDepth 20000 in
theorem u_ml_X1_19 : (.methodLink RX1 19 yX0_init : Cond) ∈ gW := gW_in (List.mem_append_right _ (List.mem_append_left _ (List.mem_of_getElem? (l := tables_1_2) (i := 30) (by decide +kernel)))) rfl
set_option maxRecDepth 20000 in
theorem u_fl_X1_7 : (.fieldLink RX1 7 "GossipArches$Image" "kept" "Z" : Cond) ∈ gW := gW_in (List.mem_append_right _ (List.mem_append_left _ (List.mem_of_getElem? (l := tables_1_2) (i := 31) (by decide +kernel)))) rfl
set_option maxRecDepth 20000 in
theorem u_fl_X9_100 : (.fieldLink RX9 100 "GossipArches$Image" "kept" "Z" : Cond) ∈ gW := gW_in (List.mem_append_right _ (List.mem_append_left _ (List.mem_of_getElem? (l := tables_1_2) (i := 32) (by decide +kernel)))) rfl
set_option maxRecDepth 20000 in
theorem u_fl_X1_13 : (.fieldLink RX1 13 "GossipArches$Image" "seed" "I" : Cond) ∈ gW := gW_in (List.mem_append_right _ (List.mem_append_left _ (List.mem_of_getElem? (l := tables_1_2) (i := 33) (by decide +kernel)))) rfl
set_option maxRecDepth 20000 in
theorem u_fl_X9_270 : (.fieldLink RX9 270 "GossipArches$Image" "seed" "I" : Cond) ∈ gW := gW_in (List.mem_append_right _ (List.mem_append_left _ (List.mem_of_getElem? (l := tables_1_2) (i := 34) (by decide +kernel)))) rfl
set_option maxRecDepth 20000 in
theorem u_fl_X1_20 : (.fieldLink RX1 20 "GossipArches$Image" "flow" "LGossipArches$Flow;" : Cond) ∈ gW := gW_in (List.mem_append_right _ (List.mem_append_left _ (List.mem_of_getElem? (l := tables_1_2) (i := 35) (by decide +kernel)))) rfl
set_option maxRecDepth 20000 in
theorem u_fl_X9_269 : (.fieldLink RX9 269 "GossipArches$Image" "flow" "LGossipArches$Flow;" : Cond) ∈ gW := gW_in (List.mem_append_right _ (List.mem_append_left _ (List.mem_of_getElem? (l := tables_1_2) (i := 36) (by decide +kernel)))) rfl
set_option maxRecDepth 20000 in
theorem u_ly_X1_0 : (.lays RX1 "GossipArches$Image" "kept" "Z" : Cond) ∈ gW := gW_in (List.mem_append_right _ (List.mem_append_left _ (List.mem_of_getElem? (l := tables_1_2) (i := 37) (by decide +kernel)))) rfl
set_option maxRecDepth 20000 in
theorem u_ly_X1_1 : (.lays RX1 "GossipArches$Image" "seed" "I" : Cond) ∈ gW := gW_in (List.mem_append_right _ (List.mem_append_left _ (List.mem_of_getElem? (l := tables_1_2) (i := 39) (by decide +kernel)))) rfl
set_option maxRecDepth 20000 in
theorem u_ly_X1_2 : (.laysFinal RX1 "GossipArches$Image" "flow" "LGossipArches$Flow;" : Cond) ∈ gW := gW_in (List.mem_append_right _ (List.mem_append_left _ (List.mem_of_getElem? (l := tables_1_2) (i := 41) (by decide +kernel)))) rfl
set_option maxRecDepth 20000 in
theorem u_fl_X9_12 : (.fieldLink RX9 12 "GossipArches" "reader" "LGossipArches$Reader;" : Cond) ∈ gW := gW_in (List.mem_append_right _ (List.mem_append_left _ (List.mem_of_getElem? (l := tables_1_2) (i := 44) (by decide +kernel)))) rfl
set_option maxRecDepth 20000 in
theorem u_fl_X9_19 : (.fieldLink RX9 19 "GossipArches" "plan" "LGossipArches$Plan;" : Cond) ∈ gW := gW_in (List.mem_append_right _ (List.mem_append_left _ (List.mem_of_getElem? (l := tables_1_2) (i := 45) (by decide +kernel)))) rfl
set_option maxRecDepth 20000 in
theorem u_fl_X9_23 : (.fieldLink RX9 23 "GossipArches" "spare" "LGossipArches$Plan;" : Cond) ∈ gW := gW_in (List.mem_append_right _ (List.mem_append_left _ (List.mem_of_getElem? (l := tables_1_2) (i := 46) (by decide +kernel)))) rfl
set_option maxRecDepth 20000 in
theorem u_fl_X9_29 : (.fieldLink RX9 29 "GossipArches" "flow" "LGossipArches$Flow;" : Cond) ∈ gW := gW_in (List.mem_append_right _ (List.mem_append_left _ (List.mem_of_getElem? (l := tables_1_2) (i := 47) (by decide +kernel)))) rfl
set_option maxRecDepth 20000 in
theorem u_fl_X9_33 : (.fieldLink RX9 33 "GossipArches" "trial" "LGossipArches$Flow;" : Cond) ∈ gW := gW_in (List.mem_append_right _ (List.mem_append_left _ (List.mem_of_getElem? (l := tables_1_2) (i := 48) (by decide +kernel)))) rfl
set_option maxRecDepth 20000 in
theorem u_fl_X9_39 : (.fieldLink RX9 39 "GossipArches" "past" "LGossipArches$Past;" : Cond) ∈ gW := gW_in (List.mem_append_right _ (List.mem_append_left _ (List.mem_of_getElem? (l := tables_1_2) (i := 49) (by decide +kernel)))) rfl
set_option maxRecDepth 20000 in
theorem u_fl_X9_45 : (.fieldLink RX9 45 "GossipArches" "images" "[LGossipArches$Image;" : Cond) ∈ gW := gW_in (List.mem_append_right _ (List.mem_append_left _ (List.mem_of_getElem? (l := tables_1_2) (i := 50) (by decide +kernel)))) rfl
set_option maxRecDepth 20000 in
theorem u_fl_X9_52 : (.fieldLink RX9 52 "GossipArches" "notes" "LGossipArches$Notes;" : Cond) ∈ gW := gW_in (List.mem_append_right _ (List.mem_append_left _ (List.mem_of_getElem? (l := tables_1_2) (i := 51) (by decide +kernel)))) rfl
set_option maxRecDepth 20000 in
theorem u_fl_X9_59 : (.fieldLink RX9 59 "GossipArches" "search" "LGossipArches$Search;" : Cond) ∈ gW := gW_in (List.mem_append_right _ (List.mem_append_left _ (List.mem_of_getElem? (l := tables_1_2) (i := 52) (by decide +kernel)))) rfl
set_option maxRecDepth 20000 in
theorem u_fl_X9_66 : (.fieldLink RX9 66 "GossipArches" "routes" "LGossipArches$Routes;" : Cond) ∈ gW := gW_in (List.mem_append_right _ (List.mem_append_left _ (List.mem_of_getElem? (l := tables_1_2) (i := 53) (by decide +kernel)))) rfl
set_option maxRecDepth 20000 in
theorem u_fl_X9_70 : (.fieldLink RX9 70 "GossipArches" "seed" "I" : Cond) ∈ gW := gW_in (List.mem_append_right _ (List.mem_append_left _ (List.mem_of_getElem? (l := tables_1_2) (i := 54) (by decide +kernel)))) rfl
set_option maxRecDepth 20000 in
theorem u_ly_X9_0 : (.laysFinal RX9 "GossipArches" "reader" "LGossipArches$Reader;" : Cond) ∈ gW := gW_in (List.mem_append_right _ (List.mem_append_left _ (List.mem_of_getElem? (l := tables_1_2) (i := 55) (by decide +kernel)))) rfl
set_option maxRecDepth 20000 in
theorem u_ly_X9_1 : (.lays RX9 "GossipArches" "plan" "LGossipArches$Plan;" : Cond) ∈ gW := gW_in (List.mem_append_right _ (List.mem_append_left _ (List.mem_of_getElem? (l := tables_1_2) (i := 57) (by decide +kernel)))) rfl
set_option maxRecDepth 20000 in
theorem u_ly_X9_2 : (.lays RX9 "GossipArches" "spare" "LGossipArches$Plan;" : Cond) ∈ gW := gW_in (List.mem_append_right _ (List.mem_append_left _ (List.mem_of_getElem? (l := tables_1_2) (i := 59) (by decide +kernel)))) rfl
set_option maxRecDepth 20000 in
theorem u_ly_X9_3 : (.laysFinal RX9 "GossipArches" "flow" "LGossipArches$Flow;" : Cond) ∈ gW := gW_in (List.mem_append_right _ (List.mem_append_left _ (List.mem_of_getElem? (l := tables_1_2) (i := 61) (by decide +kernel)))) rfl
set_option maxRecDepth 20000 in
theorem u_ly_X9_4 : (.laysFinal RX9 "GossipArches" "trial" "LGossipArches$Flow;" : Cond) ∈ gW := gW_in (List.mem_append_right _ (List.mem_append_left _ (List.mem_of_getElem? (l := tables_1_2) (i := 63) (by decide +kernel)))) rfl
set_option maxRecDepth 20000 in
theorem u_ly_X9_5 : (.laysFinal RX9 "GossipArches" "past" "LGossipArches$Past;" : Cond) ∈ gW := gW_in (List.mem_append_right _ (List.mem_append_left _ (List.mem_of_getElem? (l := tables_1_2) (i := 65) (by decide +kernel)))) rfl
set_option maxRecDepth 20000 in
theorem u_ly_X9_6 : (.laysFinal RX9 "GossipArches" "images" "[LGossipArches$Image;" : Cond) ∈ gW := gW_in (List.mem_append_right _ (List.mem_append_left _ (List.mem_of_getElem? (l := tables_1_2) (i := 67) (by decide +kernel)))) rfl
set_option maxRecDepth 20000 in
theorem u_ly_X9_7 : (.laysFinal RX9 "GossipArches" "notes" "LGossipArches$Notes;" : Cond) ∈ gW := gW_in (List.mem_append_right _ (List.mem_append_left _ (List.mem_of_getElem? (l := tables_1_2) (i := 69) (by decide +kernel)))) rfl
set_option maxRecDepth 20000 in
theorem u_ly_X9_8 : (.laysFinal RX9 "GossipArches" "search" "LGossipArches$Search;" : Cond) ∈ gW := gW_in (List.mem_append_right _ (List.mem_append_left _ (List.mem_of_getElem? (l := tables_1_2) (i := 71) (by decide +kernel)))) rfl
set_option maxRecDepth 20000 in
theorem u_ly_X9_9 : (.laysFinal RX9 "GossipArches" "routes" "LGossipArches$Routes;" : Cond) ∈ gW := gW_in (List.mem_append_right _ (List.mem_append_left _ (List.mem_of_getElem? (l := tables_1_2) (i := 73) (by decide +kernel)))) rfl
set_option maxRecDepth 20000 in
theorem u_ly_X9_10 : (.lays RX9 "GossipArches" "seed" "I" : Cond) ∈ gW := gW_in (List.mem_append_right _ (List.mem_append_left _ (List.mem_of_getElem? (l := tables_1_2) (i := 75) (by decide +kernel)))) rfl
set_option maxRecDepth 20000 in
theorem u_ml_L_13 : (.methodLink RL 13 yX9_feed : Cond) ∈ gW := gW_in (List.mem_append_right _ (List.mem_append_left _ (List.mem_of_getElem? (l := tables_1_2) (i := 78) (by decide +kernel)))) rfl
set_option maxRecDepth 20000 in
theorem u_im_X9_feed : (.instanceMethod yX9_feed : Cond) ∈ gW := gW_in (List.mem_append_right _ (List.mem_append_left _ (List.mem_of_getElem? (l := tables_1_2) (i := 79) (by decide +kernel)))) rfl
set_option maxRecDepth 20000 in
theorem u_se_X9_feed : (.selects RX9 yX9_feed yX9_feed : Cond) ∈ gW := gW_in (List.mem_append_right _ (List.mem_append_left _ (List.mem_of_getElem? (l := tables_1_2) (i := 80) (by decide +kernel)))) rfl
set_option maxRecDepth 20000 in
theorem u_co_X9_feed : (.code yX9_feed cX9_feed 2 (some .int) : Cond) ∈ gW := gW_in (List.mem_append_right _ (List.mem_append_left _ (List.mem_of_getElem? (l := tables_1_2) (i := 81) (rfl)))) rfl
set_option maxRecDepth 20000 in
theorem u_k_X9_75 : (.constant RX9 75 (-1000000002) : Cond) ∈ gW := gW_in (List.mem_append_right _ (List.mem_append_left _ (List.mem_of_getElem? (l := tables_1_2) (i := 82) (by decide +kernel)))) rfl
set_option maxRecDepth 20000 in
theorem u_ml_X9_76 : (.methodLink RX9 76 yX5_add : Cond) ∈ gW := gW_in (List.mem_append_right _ (List.mem_append_left _ (List.mem_of_getElem? (l := tables_1_2) (i := 83) (by decide +kernel)))) rfl
set_option maxRecDepth 20000 in
theorem u_im_X5_add : (.instanceMethod yX5_add : Cond) ∈ gW := gW_in (List.mem_append_right _ (List.mem_append_left _ (List.mem_of_getElem? (l := tables_1_2) (i := 84) (by decide +kernel)))) rfl
set_option maxRecDepth 20000 in
theorem u_se_X5_add : (.selects RX5 yX5_add yX5_add : Cond) ∈ gW := gW_in (List.mem_append_right _ (List.mem_append_left _ (List.mem_of_getElem? (l := tables_1_2) (i := 85) (by decide +kernel)))) rfl
set_option maxRecDepth 20000 in
theorem u_co_X5_add : (.code yX5_add cX5_add 2 (some .boolean) : Cond) ∈ gW := gW_in (List.mem_append_right _ (List.mem_append_left _ (List.mem_of_getElem? (l := tables_1_2) (i := 86) (rfl)))) rfl
set_option maxRecDepth 20000 in
theorem u_k_X9_83 : (.constant RX9 83 (-1000000004) : Cond) ∈ gW := gW_in (List.mem_append_right _ (List.mem_append_left _ (List.mem_of_getElem? (l := tables_1_2) (i := 87) (by decide +kernel)))) rfl
set_option maxRecDepth 20000 in
theorem u_ml_L_18 : (.methodLink RL 18 yX9_works : Cond) ∈ gW := gW_in (List.mem_append_right _ (List.mem_append_left _ (List.mem_of_getElem? (l := tables_1_2) (i := 88) (by decide +kernel)))) rfl
set_option maxRecDepth 20000 in
theorem u_im_X9_works : (.instanceMethod yX9_works : Cond) ∈ gW := gW_in (List.mem_append_right _ (List.mem_append_left _ (List.mem_of_getElem? (l := tables_1_2) (i := 89) (by decide +kernel)))) rfl
set_option maxRecDepth 20000 in
theorem u_se_X9_works : (.selects RX9 yX9_works yX9_works : Cond) ∈ gW := gW_in (List.mem_append_right _ (List.mem_append_left _ (List.mem_of_getElem? (l := tables_1_2) (i := 90) (by decide +kernel)))) rfl
set_option maxRecDepth 20000 in
theorem u_co_X9_works : (.code yX9_works cX9_works 3 (some .int) : Cond) ∈ gW := gW_in (List.mem_append_right _ (List.mem_append_left _ (List.mem_of_getElem? (l := tables_1_2) (i := 91) (rfl)))) rfl
set_option maxRecDepth 20000 in
theorem u_ml_X9_84 : (.methodLink RX9 84 yX5_read : Cond) ∈ gW := gW_in (List.mem_append_right _ (List.mem_append_left _ (List.mem_of_getElem? (l := tables_1_2) (i := 92) (by decide +kernel)))) rfl
set_option maxRecDepth 20000 in
theorem u_im_X5_read : (.instanceMethod yX5_read : Cond) ∈ gW := gW_in (List.mem_append_right _ (List.mem_append_left _ (List.mem_of_getElem? (l := tables_1_2) (i := 93) (by decide +kernel)))) rfl
set_option maxRecDepth 20000 in
theorem u_se_X5_read : (.selects RX5 yX5_read yX5_read : Cond) ∈ gW := gW_in (List.mem_append_right _ (List.mem_append_left _ (List.mem_of_getElem? (l := tables_1_2) (i := 94) (by decide +kernel)))) rfl
set_option maxRecDepth 20000 in
theorem u_co_X5_read : (.code yX5_read cX5_read 3 none : Cond) ∈ gW := gW_in (List.mem_append_right _ (List.mem_append_left _ (List.mem_of_getElem? (l := tables_1_2) (i := 95) (rfl)))) rfl
set_option maxRecDepth 20000 in
theorem u_ml_X5_31 : (.methodLink RX5 31 yX4_wipe : Cond) ∈ gW := gW_in (List.mem_append_right _ (List.mem_append_left _ (List.mem_of_getElem? (l := tables_1_2) (i := 96) (by decide +kernel)))) rfl
set_option maxRecDepth 20000 in
theorem u_im_X4_wipe : (.instanceMethod yX4_wipe : Cond) ∈ gW := gW_in (List.mem_append_right _ (List.mem_append_left _ (List.mem_of_getElem? (l := tables_1_2) (i := 97) (by decide +kernel)))) rfl
set_option maxRecDepth 20000 in
theorem u_se_X4_wipe : (.selects RX4 yX4_wipe yX4_wipe : Cond) ∈ gW := gW_in (List.mem_append_right _ (List.mem_append_left _ (List.mem_of_getElem? (l := tables_1_2) (i := 98) (by decide +kernel)))) rfl
set_option maxRecDepth 20000 in
theorem u_co_X4_wipe : (.code yX4_wipe cX4_wipe 1 none : Cond) ∈ gW := gW_in (List.mem_append_right _ (List.mem_append_left _ (List.mem_of_getElem? (l := tables_1_2) (i := 99) (rfl)))) rfl
set_option maxRecDepth 20000 in
theorem u_ml_X5_36 : (.methodLink RX5 36 yX5_skipBlanks : Cond) ∈ gW := gW_in (List.mem_append_right _ (List.mem_append_left _ (List.mem_of_getElem? (l := tables_1_2) (i := 100) (by decide +kernel)))) rfl
set_option maxRecDepth 20000 in
theorem u_im_X5_skipBlanks : (.instanceMethod yX5_skipBlanks : Cond) ∈ gW := gW_in (List.mem_append_right _ (List.mem_append_left _ (List.mem_of_getElem? (l := tables_1_2) (i := 102) (by decide +kernel)))) rfl
set_option maxRecDepth 20000 in
theorem u_co_X5_skipBlanks : (.code yX5_skipBlanks cX5_skipBlanks 1 none : Cond) ∈ gW := gW_in (List.mem_append_right _ (List.mem_append_left _ (List.mem_of_getElem? (l := tables_1_2) (i := 103) (rfl)))) rfl
set_option maxRecDepth 20000 in
theorem u_ml_X5_43 : (.methodLink RX5 43 yX5_current : Cond) ∈ gW := gW_in (List.mem_append_right _ (List.mem_append_left _ (List.mem_of_getElem? (l := tables_1_2) (i := 104) (by decide +kernel)))) rfl
set_option maxRecDepth 20000 in
theorem u_im_X5_current : (.instanceMethod yX5_current : Cond) ∈ gW := gW_in (List.mem_append_right _ (List.mem_append_left _ (List.mem_of_getElem? (l := tables_1_2) (i := 106) (by decide +kernel)))) rfl
set_option maxRecDepth 20000 in
theorem u_co_X5_current : (.code yX5_current cX5_current 1 (some .int) : Cond) ∈ gW := gW_in (List.mem_append_right _ (List.mem_append_left _ (List.mem_of_getElem? (l := tables_1_2) (i := 107) (rfl)))) rfl
set_option maxRecDepth 20000 in
theorem u_ml_X5_39 : (.methodLink RX5 39 yX5_readClause : Cond) ∈ gW := gW_in (List.mem_append_right _ (List.mem_append_left _ (List.mem_of_getElem? (l := tables_1_2) (i := 108) (by decide +kernel)))) rfl
set_option maxRecDepth 20000 in
theorem u_im_X5_readClause : (.instanceMethod yX5_readClause : Cond) ∈ gW := gW_in (List.mem_append_right _ (List.mem_append_left _ (List.mem_of_getElem? (l := tables_1_2) (i := 110) (by decide +kernel)))) rfl
set_option maxRecDepth 20000 in
theorem u_co_X5_readClause : (.code yX5_readClause cX5_readClause 4 none : Cond) ∈ gW := gW_in (List.mem_append_right _ (List.mem_append_left _ (List.mem_of_getElem? (l := tables_1_2) (i := 111) (rfl)))) rfl
set_option maxRecDepth 20000 in
theorem u_ml_X5_50 : (.methodLink RX5 50 yX5_blame : Cond) ∈ gW := gW_in (List.mem_append_right _ (List.mem_append_left _ (List.mem_of_getElem? (l := tables_1_2) (i := 112) (by decide +kernel)))) rfl
set_option maxRecDepth 20000 in
theorem u_im_X5_blame : (.instanceMethod yX5_blame : Cond) ∈ gW := gW_in (List.mem_append_right _ (List.mem_append_left _ (List.mem_of_getElem? (l := tables_1_2) (i := 114) (by decide +kernel)))) rfl
set_option maxRecDepth 20000 in
theorem u_co_X5_blame : (.code yX5_blame cX5_blame 3 none : Cond) ∈ gW := gW_in (List.mem_append_right _ (List.mem_append_left _ (List.mem_of_getElem? (l := tables_1_2) (i := 115) (rfl)))) rfl
set_option maxRecDepth 20000 in
theorem u_ml_X5_54 : (.methodLink RX5 54 yX5_hasRoomFor : Cond) ∈ gW := gW_in (List.mem_append_right _ (List.mem_append_left _ (List.mem_of_getElem? (l := tables_1_2) (i := 116) (by decide +kernel)))) rfl
set_option maxRecDepth 20000 in
theorem u_im_X5_hasRoomFor : (.instanceMethod yX5_hasRoomFor : Cond) ∈ gW := gW_in (List.mem_append_right _ (List.mem_append_left _ (List.mem_of_getElem? (l := tables_1_2) (i := 118) (by decide +kernel)))) rfl
set_option maxRecDepth 20000 in
theorem u_co_X5_hasRoomFor : (.code yX5_hasRoomFor cX5_hasRoomFor 3 (some .boolean) : Cond) ∈ gW := gW_in (List.mem_append_right _ (List.mem_append_left _ (List.mem_of_getElem? (l := tables_1_2) (i := 119) (rfl)))) rfl
set_option maxRecDepth 20000 in
theorem u_ml_X5_58 : (.methodLink RX5 58 yX5_readRoom : Cond) ∈ gW := gW_in (List.mem_append_right _ (List.mem_append_left _ (List.mem_of_getElem? (l := tables_1_2) (i := 120) (by decide +kernel)))) rfl
set_option maxRecDepth 20000 in
theorem u_im_X5_readRoom : (.instanceMethod yX5_readRoom : Cond) ∈ gW := gW_in (List.mem_append_right _ (List.mem_append_left _ (List.mem_of_getElem? (l := tables_1_2) (i := 122) (by decide +kernel)))) rfl
set_option maxRecDepth 20000 in
theorem u_co_X5_readRoom : (.code yX5_readRoom cX5_readRoom 3 none : Cond) ∈ gW := gW_in (List.mem_append_right _ (List.mem_append_left _ (List.mem_of_getElem? (l := tables_1_2) (i := 123) (rfl)))) rfl
set_option maxRecDepth 20000 in
theorem u_ml_X5_73 : (.methodLink RX5 73 yX5_number : Cond) ∈ gW := gW_in (List.mem_append_right _ (List.mem_append_left _ (List.mem_of_getElem? (l := tables_1_2) (i := 124) (by decide +kernel)))) rfl
set_option maxRecDepth 20000 in
theorem u_im_X5_number : (.instanceMethod yX5_number : Cond) ∈ gW := gW_in (List.mem_append_right _ (List.mem_append_left _ (List.mem_of_getElem? (l := tables_1_2) (i := 126) (by decide +kernel)))) rfl
set_option maxRecDepth 20000 in
theorem u_co_X5_number : (.code yX5_number cX5_number 5 (some .int) : Cond) ∈ gW := gW_in (List.mem_append_right _ (List.mem_append_left _ (List.mem_of_getElem? (l := tables_1_2) (i := 127) (rfl)))) rfl
set_option maxRecDepth 20000 in
theorem u_ml_X5_92 : (.methodLink RX5 92 yX5_isFigure : Cond) ∈ gW := gW_in (List.mem_append_right _ (List.mem_append_left _ (List.mem_of_getElem? (l := tables_1_2) (i := 128) (by decide +kernel)))) rfl
set_option maxRecDepth 20000 in
theorem u_st_X5_isFigure : (.static yX5_isFigure : Cond) ∈ gW := gW_in (List.mem_append_right _ (List.mem_append_left _ (List.mem_of_getElem? (l := tables_1_2) (i := 129) (by decide +kernel)))) rfl
set_option maxRecDepth 20000 in
theorem u_co_X5_isFigure : (.code yX5_isFigure cX5_isFigure 1 (some .boolean) : Cond) ∈ gW := gW_in (List.mem_append_right _ (List.mem_append_left _ (List.mem_of_getElem? (l := tables_1_2) (i := 130) (rfl)))) rfl
set_option maxRecDepth 20000 in
theorem u_ml_X5_77 : (.methodLink RX5 77 yX5_closes : Cond) ∈ gW := gW_in (List.mem_append_right _ (List.mem_append_left _ (List.mem_of_getElem? (l := tables_1_2) (i := 131) (by decide +kernel)))) rfl
set_option maxRecDepth 20000 in
theorem u_im_X5_closes : (.instanceMethod yX5_closes : Cond) ∈ gW := gW_in (List.mem_append_right _ (List.mem_append_left _ (List.mem_of_getElem? (l := tables_1_2) (i := 133) (by decide +kernel)))) rfl
set_option maxRecDepth 20000 in
theorem u_co_X5_closes : (.code yX5_closes cX5_closes 1 (some .boolean) : Cond) ∈ gW := gW_in (List.mem_append_right _ (List.mem_append_left _ (List.mem_of_getElem? (l := tables_1_2) (i := 134) (rfl)))) rfl
set_option maxRecDepth 20000 in
theorem u_ml_X5_61 : (.methodLink RX5 61 yX5_readPlace : Cond) ∈ gW := gW_in (List.mem_append_right _ (List.mem_append_left _ (List.mem_of_getElem? (l := tables_1_2) (i := 135) (by decide +kernel)))) rfl
set_option maxRecDepth 20000 in
theorem u_im_X5_readPlace : (.instanceMethod yX5_readPlace : Cond) ∈ gW := gW_in (List.mem_append_right _ (List.mem_append_left _ (List.mem_of_getElem? (l := tables_1_2) (i := 137) (by decide +kernel)))) rfl
set_option maxRecDepth 20000 in
theorem u_co_X5_readPlace : (.code yX5_readPlace cX5_readPlace 4 none : Cond) ∈ gW := gW_in (List.mem_append_right _ (List.mem_append_left _ (List.mem_of_getElem? (l := tables_1_2) (i := 138) (rfl)))) rfl
set_option maxRecDepth 20000 in
theorem u_ml_X5_81 : (.methodLink RX5 81 yX4_addPlace : Cond) ∈ gW := gW_in (List.mem_append_right _ (List.mem_append_left _ (List.mem_of_getElem? (l := tables_1_2) (i := 139) (by decide +kernel)))) rfl
set_option maxRecDepth 20000 in
theorem u_im_X4_addPlace : (.instanceMethod yX4_addPlace : Cond) ∈ gW := gW_in (List.mem_append_right _ (List.mem_append_left _ (List.mem_of_getElem? (l := tables_1_2) (i := 140) (by decide +kernel)))) rfl
set_option maxRecDepth 20000 in
theorem u_se_X4_addPlace : (.selects RX4 yX4_addPlace yX4_addPlace : Cond) ∈ gW := gW_in (List.mem_append_right _ (List.mem_append_left _ (List.mem_of_getElem? (l := tables_1_2) (i := 141) (by decide +kernel)))) rfl
set_option maxRecDepth 20000 in
theorem u_co_X4_addPlace : (.code yX4_addPlace cX4_addPlace 3 none : Cond) ∈ gW := gW_in (List.mem_append_right _ (List.mem_append_left _ (List.mem_of_getElem? (l := tables_1_2) (i := 142) (rfl)))) rfl
set_option maxRecDepth 20000 in
theorem u_ml_X5_64 : (.methodLink RX5 64 yX5_readChannel : Cond) ∈ gW := gW_in (List.mem_append_right _ (List.mem_append_left _ (List.mem_of_getElem? (l := tables_1_2) (i := 143) (by decide +kernel)))) rfl
set_option maxRecDepth 20000 in
theorem u_im_X5_readChannel : (.instanceMethod yX5_readChannel : Cond) ∈ gW := gW_in (List.mem_append_right _ (List.mem_append_left _ (List.mem_of_getElem? (l := tables_1_2) (i := 145) (by decide +kernel)))) rfl
set_option maxRecDepth 20000 in
theorem u_co_X5_readChannel : (.code yX5_readChannel cX5_readChannel 5 none : Cond) ∈ gW := gW_in (List.mem_append_right _ (List.mem_append_left _ (List.mem_of_getElem? (l := tables_1_2) (i := 146) (rfl)))) rfl
set_option maxRecDepth 20000 in
theorem u_ml_X5_84 : (.methodLink RX5 84 yX4_mayJoin : Cond) ∈ gW := gW_in (List.mem_append_right _ (List.mem_append_left _ (List.mem_of_getElem? (l := tables_1_2) (i := 147) (by decide +kernel)))) rfl
set_option maxRecDepth 20000 in
theorem u_im_X4_mayJoin : (.instanceMethod yX4_mayJoin : Cond) ∈ gW := gW_in (List.mem_append_right _ (List.mem_append_left _ (List.mem_of_getElem? (l := tables_1_2) (i := 148) (by decide +kernel)))) rfl
set_option maxRecDepth 20000 in
theorem u_se_X4_mayJoin : (.selects RX4 yX4_mayJoin yX4_mayJoin : Cond) ∈ gW := gW_in (List.mem_append_right _ (List.mem_append_left _ (List.mem_of_getElem? (l := tables_1_2) (i := 149) (by decide +kernel)))) rfl
set_option maxRecDepth 20000 in
theorem u_co_X4_mayJoin : (.code yX4_mayJoin cX4_mayJoin 3 (some .boolean) : Cond) ∈ gW := gW_in (List.mem_append_right _ (List.mem_append_left _ (List.mem_of_getElem? (l := tables_1_2) (i := 150) (rfl)))) rfl
set_option maxRecDepth 20000 in
theorem u_ml_X4_40 : (.methodLink RX4 40 yX4_hasPlace : Cond) ∈ gW := gW_in (List.mem_append_right _ (List.mem_append_left _ (List.mem_of_getElem? (l := tables_1_2) (i := 151) (by decide +kernel)))) rfl
set_option maxRecDepth 20000 in
theorem u_im_X4_hasPlace : (.instanceMethod yX4_hasPlace : Cond) ∈ gW := gW_in (List.mem_append_right _ (List.mem_append_left _ (List.mem_of_getElem? (l := tables_1_2) (i := 152) (by decide +kernel)))) rfl
set_option maxRecDepth 20000 in
theorem u_se_X4_hasPlace : (.selects RX4 yX4_hasPlace yX4_hasPlace : Cond) ∈ gW := gW_in (List.mem_append_right _ (List.mem_append_left _ (List.mem_of_getElem? (l := tables_1_2) (i := 153) (by decide +kernel)))) rfl
set_option maxRecDepth 20000 in
theorem u_co_X4_hasPlace : (.code yX4_hasPlace cX4_hasPlace 2 (some .boolean) : Cond) ∈ gW := gW_in (List.mem_append_right _ (List.mem_append_left _ (List.mem_of_getElem? (l := tables_1_2) (i := 154) (rfl)))) rfl
set_option maxRecDepth 20000 in
theorem u_ml_X4_44 : (.methodLink RX4 44 yX4_joins : Cond) ∈ gW := gW_in (List.mem_append_right _ (List.mem_append_left _ (List.mem_of_getElem? (l := tables_1_2) (i := 155) (by decide +kernel)))) rfl
set_option maxRecDepth 20000 in
theorem u_im_X4_joins : (.instanceMethod yX4_joins : Cond) ∈ gW := gW_in (List.mem_append_right _ (List.mem_append_left _ (List.mem_of_getElem? (l := tables_1_2) (i := 156) (by decide +kernel)))) rfl
set_option maxRecDepth 20000 in
theorem u_se_X4_joins : (.selects RX4 yX4_joins yX4_joins : Cond) ∈ gW := gW_in (List.mem_append_right _ (List.mem_append_left _ (List.mem_of_getElem? (l := tables_1_2) (i := 157) (by decide +kernel)))) rfl
set_option maxRecDepth 20000 in
theorem u_co_X4_joins : (.code yX4_joins cX4_joins 4 (some .boolean) : Cond) ∈ gW := gW_in (List.mem_append_right _ (List.mem_append_left _ (List.mem_of_getElem? (l := tables_1_2) (i := 158) (rfl)))) rfl
set_option maxRecDepth 20000 in
theorem u_ml_X5_88 : (.methodLink RX5 88 yX4_addChannel : Cond) ∈ gW := gW_in (List.mem_append_right _ (List.mem_append_left _ (List.mem_of_getElem? (l := tables_1_2) (i := 159) (by decide +kernel)))) rfl
set_option maxRecDepth 20000 in
theorem u_im_X4_addChannel : (.instanceMethod yX4_addChannel : Cond) ∈ gW := gW_in (List.mem_append_right _ (List.mem_append_left _ (List.mem_of_getElem? (l := tables_1_2) (i := 160) (by decide +kernel)))) rfl
set_option maxRecDepth 20000 in
theorem u_se_X4_addChannel : (.selects RX4 yX4_addChannel yX4_addChannel : Cond) ∈ gW := gW_in (List.mem_append_right _ (List.mem_append_left _ (List.mem_of_getElem? (l := tables_1_2) (i := 161) (by decide +kernel)))) rfl
set_option maxRecDepth 20000 in
theorem u_co_X4_addChannel : (.code yX4_addChannel cX4_addChannel 5 none : Cond) ∈ gW := gW_in (List.mem_append_right _ (List.mem_append_left _ (List.mem_of_getElem? (l := tables_1_2) (i := 162) (rfl)))) rfl
set_option maxRecDepth 20000 in
theorem u_ml_X4_48 : (.methodLink RX4 48 yX4_mayJoin : Cond) ∈ gW := gW_in (List.mem_append_right _ (List.mem_append_left _ (List.mem_of_getElem? (l := tables_1_2) (i := 163) (by decide +kernel)))) rfl
set_option maxRecDepth 20000 in
theorem u_ml_X9_91 : (.methodLink RX9 91 yX0_begin : Cond) ∈ gW := gW_in (List.mem_append_right _ (List.mem_append_left _ (List.mem_of_getElem? (l := tables_1_2) (i := 164) (by decide +kernel)))) rfl
set_option maxRecDepth 20000 in
theorem u_im_X0_begin : (.instanceMethod yX0_begin : Cond) ∈ gW := gW_in (List.mem_append_right _ (List.mem_append_left _ (List.mem_of_getElem? (l := tables_1_2) (i := 165) (by decide +kernel)))) rfl
set_option maxRecDepth 20000 in
theorem u_se_X0_begin : (.selects RX0 yX0_begin yX0_begin : Cond) ∈ gW := gW_in (List.mem_append_right _ (List.mem_append_left _ (List.mem_of_getElem? (l := tables_1_2) (i := 166) (by decide +kernel)))) rfl
set_option maxRecDepth 20000 in
theorem u_co_X0_begin : (.code yX0_begin cX0_begin 1 none : Cond) ∈ gW := gW_in (List.mem_append_right _ (List.mem_append_left _ (List.mem_of_getElem? (l := tables_1_2) (i := 167) (rfl)))) rfl
set_option maxRecDepth 20000 in
theorem u_ml_X0_40 : (.methodLink RX0 40 yX0_drain : Cond) ∈ gW := gW_in (List.mem_append_right _ (List.mem_append_left _ (List.mem_of_getElem? (l := tables_1_2) (i := 168) (by decide +kernel)))) rfl
set_option maxRecDepth 20000 in
theorem u_im_X0_drain : (.instanceMethod yX0_drain : Cond) ∈ gW := gW_in (List.mem_append_right _ (List.mem_append_left _ (List.mem_of_getElem? (l := tables_1_2) (i := 169) (by decide +kernel)))) rfl
set_option maxRecDepth 20000 in
theorem u_se_X0_drain : (.selects RX0 yX0_drain yX0_drain : Cond) ∈ gW := gW_in (List.mem_append_right _ (List.mem_append_left _ (List.mem_of_getElem? (l := tables_1_2) (i := 170) (by decide +kernel)))) rfl
set_option maxRecDepth 20000 in
theorem u_co_X0_drain : (.code yX0_drain cX0_drain 1 none : Cond) ∈ gW := gW_in (List.mem_append_right _ (List.mem_append_left _ (List.mem_of_getElem? (l := tables_1_2) (i := 171) (rfl)))) rfl
set_option maxRecDepth 20000 in
theorem u_ml_X9_94 : (.methodLink RX9 94 yX3_forget : Cond) ∈ gW := gW_in (List.mem_append_right _ (List.mem_append_left _ (List.mem_of_getElem? (l := tables_1_2) (i := 172) (by decide +kernel)))) rfl
set_option maxRecDepth 20000 in
theorem u_im_X3_forget : (.instanceMethod yX3_forget : Cond) ∈ gW := gW_in (List.mem_append_right _ (List.mem_append_left _ (List.mem_of_getElem? (l := tables_1_2) (i := 173) (by decide +kernel)))) rfl
set_option maxRecDepth 20000 in
theorem u_se_X3_forget : (.selects RX3 yX3_forget yX3_forget : Cond) ∈ gW := gW_in (List.mem_append_right _ (List.mem_append_left _ (List.mem_of_getElem? (l := tables_1_2) (i := 174) (by decide +kernel)))) rfl
set_option maxRecDepth 20000 in
theorem u_co_X3_forget : (.code yX3_forget cX3_forget 1 none : Cond) ∈ gW := gW_in (List.mem_append_right _ (List.mem_append_left _ (List.mem_of_getElem? (l := tables_1_2) (i := 175) (rfl)))) rfl
set_option maxRecDepth 20000 in
theorem u_ml_X9_97 : (.methodLink RX9 97 yX2_tearOut : Cond) ∈ gW := gW_in (List.mem_append_right _ (List.mem_append_left _ (List.mem_of_getElem? (l := tables_1_2) (i := 176) (by decide +kernel)))) rfl
set_option maxRecDepth 20000 in
theorem u_im_X2_tearOut : (.instanceMethod yX2_tearOut : Cond) ∈ gW := gW_in (List.mem_append_right _ (List.mem_append_left _ (List.mem_of_getElem? (l := tables_1_2) (i := 177) (by decide +kernel)))) rfl
set_option maxRecDepth 20000 in
theorem u_se_X2_tearOut : (.selects RX2 yX2_tearOut yX2_tearOut : Cond) ∈ gW := gW_in (List.mem_append_right _ (List.mem_append_left _ (List.mem_of_getElem? (l := tables_1_2) (i := 178) (by decide +kernel)))) rfl
set_option maxRecDepth 20000 in
theorem u_co_X2_tearOut : (.code yX2_tearOut cX2_tearOut 1 none : Cond) ∈ gW := gW_in (List.mem_append_right _ (List.mem_append_left _ (List.mem_of_getElem? (l := tables_1_2) (i := 179) (rfl)))) rfl
set_option maxRecDepth 20000 in
theorem u_ml_L_23 : (.methodLink RL 23 yX9_fault : Cond) ∈ gW := gW_in (List.mem_append_right _ (List.mem_append_left _ (List.mem_of_getElem? (l := tables_1_2) (i := 180) (by decide +kernel)))) rfl
set_option maxRecDepth 20000 in
theorem u_im_X9_fault : (.instanceMethod yX9_fault : Cond) ∈ gW := gW_in (List.mem_append_right _ (List.mem_append_left _ (List.mem_of_getElem? (l := tables_1_2) (i := 181) (by decide +kernel)))) rfl
set_option maxRecDepth 20000 in
theorem u_se_X9_fault : (.selects RX9 yX9_fault yX9_fault : Cond) ∈ gW := gW_in (List.mem_append_right _ (List.mem_append_left _ (List.mem_of_getElem? (l := tables_1_2) (i := 182) (by decide +kernel)))) rfl
set_option maxRecDepth 20000 in
theorem u_co_X9_fault : (.code yX9_fault cX9_fault 1 (some .int) : Cond) ∈ gW := gW_in (List.mem_append_right _ (List.mem_append_left _ (List.mem_of_getElem? (l := tables_1_2) (i := 183) (rfl)))) rfl
set_option maxRecDepth 20000 in
theorem u_ml_L_27 : (.methodLink RL 27 yX9_told : Cond) ∈ gW := gW_in (List.mem_append_right _ (List.mem_append_left _ (List.mem_of_getElem? (l := tables_1_2) (i := 184) (by decide +kernel)))) rfl
set_option maxRecDepth 20000 in
theorem u_im_X9_told : (.instanceMethod yX9_told : Cond) ∈ gW := gW_in (List.mem_append_right _ (List.mem_append_left _ (List.mem_of_getElem? (l := tables_1_2) (i := 185) (by decide +kernel)))) rfl
set_option maxRecDepth 20000 in
theorem u_se_X9_told : (.selects RX9 yX9_told yX9_told : Cond) ∈ gW := gW_in (List.mem_append_right _ (List.mem_append_left _ (List.mem_of_getElem? (l := tables_1_2) (i := 186) (by decide +kernel)))) rfl
set_option maxRecDepth 20000 in
theorem u_co_X9_told : (.code yX9_told cX9_told 2 (some .int) : Cond) ∈ gW := gW_in (List.mem_append_right _ (List.mem_append_left _ (List.mem_of_getElem? (l := tables_1_2) (i := 187) (rfl)))) rfl
set_option maxRecDepth 20000 in
theorem u_ml_X9_122 : (.methodLink RX9 122 yX0_blocked : Cond) ∈ gW := gW_in (List.mem_append_right _ (List.mem_append_left _ (List.mem_of_getElem? (l := tables_1_2) (i := 188) (by decide +kernel)))) rfl
set_option maxRecDepth 20000 in
theorem u_im_X0_blocked : (.instanceMethod yX0_blocked : Cond) ∈ gW := gW_in (List.mem_append_right _ (List.mem_append_left _ (List.mem_of_getElem? (l := tables_1_2) (i := 189) (by decide +kernel)))) rfl
set_option maxRecDepth 20000 in
theorem u_se_X0_blocked : (.selects RX0 yX0_blocked yX0_blocked : Cond) ∈ gW := gW_in (List.mem_append_right _ (List.mem_append_left _ (List.mem_of_getElem? (l := tables_1_2) (i := 190) (by decide +kernel)))) rfl
set_option maxRecDepth 20000 in
theorem u_co_X0_blocked : (.code yX0_blocked cX0_blocked 4 (some .int) : Cond) ∈ gW := gW_in (List.mem_append_right _ (List.mem_append_left _ (List.mem_of_getElem? (l := tables_1_2) (i := 191) (rfl)))) rfl
set_option maxRecDepth 20000 in
theorem u_ml_X9_126 : (.methodLink RX9 126 yX0_yetToCome : Cond) ∈ gW := gW_in (List.mem_append_right _ (List.mem_append_left _ (List.mem_of_getElem? (l := tables_1_2) (i := 192) (by decide +kernel)))) rfl
set_option maxRecDepth 20000 in
theorem u_im_X0_yetToCome : (.instanceMethod yX0_yetToCome : Cond) ∈ gW := gW_in (List.mem_append_right _ (List.mem_append_left _ (List.mem_of_getElem? (l := tables_1_2) (i := 193) (by decide +kernel)))) rfl
set_option maxRecDepth 20000 in
theorem u_se_X0_yetToCome : (.selects RX0 yX0_yetToCome yX0_yetToCome : Cond) ∈ gW := gW_in (List.mem_append_right _ (List.mem_append_left _ (List.mem_of_getElem? (l := tables_1_2) (i := 194) (by decide +kernel)))) rfl
set_option maxRecDepth 20000 in
theorem u_co_X0_yetToCome : (.code yX0_yetToCome cX0_yetToCome 3 (some .int) : Cond) ∈ gW := gW_in (List.mem_append_right _ (List.mem_append_left _ (List.mem_of_getElem? (l := tables_1_2) (i := 195) (rfl)))) rfl
set_option maxRecDepth 20000 in
theorem u_ml_X0_57 : (.methodLink RX0 57 yJ6_bitCount_0f7a4 : Cond) ∈ gW := gW_in (List.mem_append_right _ (List.mem_append_left _ (List.mem_of_getElem? (l := tables_1_2) (i := 196) (by decide +kernel)))) rfl
set_option maxRecDepth 20000 in
theorem u_st_J6_bitCount_0f7a4 : (.static yJ6_bitCount_0f7a4 : Cond) ∈ gW := gW_in (List.mem_append_right _ (List.mem_append_left _ (List.mem_of_getElem? (l := tables_1_2) (i := 197) (by decide +kernel)))) rfl
set_option maxRecDepth 20000 in
theorem u_co_J6_bitCount_0f7a4 : (.code yJ6_bitCount_0f7a4 cJ6_bitCount_0f7a4 1 (some .int) : Cond) ∈ gW := gW_in (List.mem_append_right _ (List.mem_append_left _ (List.mem_of_getElem? (l := tables_1_2) (i := 198) (rfl)))) rfl
set_option maxRecDepth 20000 in
theorem u_k_J6_265 : (.constant RJ6 265 (1431655765) : Cond) ∈ gW := gW_in (List.mem_append_right _ (List.mem_append_left _ (List.mem_of_getElem? (l := tables_1_2) (i := 199) (by decide +kernel)))) rfl
set_option maxRecDepth 20000 in
theorem u_k_J6_266 : (.constant RJ6 266 (858993459) : Cond) ∈ gW := gW_in (List.mem_append_right _ (List.mem_append_left _ (List.mem_of_getElem? (l := tables_1_2) (i := 200) (by decide +kernel)))) rfl
set_option maxRecDepth 20000 in
theorem u_k_J6_267 : (.constant RJ6 267 (252645135) : Cond) ∈ gW := gW_in (List.mem_append_right _ (List.mem_append_left _ (List.mem_of_getElem? (l := tables_1_2) (i := 201) (by decide +kernel)))) rfl
set_option maxRecDepth 20000 in
theorem u_ml_L_31 : (.methodLink RL 31 yX9_place : Cond) ∈ gW := gW_in (List.mem_append_right _ (List.mem_append_left _ (List.mem_of_getElem? (l := tables_1_2) (i := 202) (by decide +kernel)))) rfl
set_option maxRecDepth 20000 in
theorem u_im_X9_place : (.instanceMethod yX9_place : Cond) ∈ gW := gW_in (List.mem_append_right _ (List.mem_append_left _ (List.mem_of_getElem? (l := tables_1_2) (i := 203) (by decide +kernel)))) rfl
set_option maxRecDepth 20000 in
theorem u_se_X9_place : (.selects RX9 yX9_place yX9_place : Cond) ∈ gW := gW_in (List.mem_append_right _ (List.mem_append_left _ (List.mem_of_getElem? (l := tables_1_2) (i := 204) (by decide +kernel)))) rfl
set_option maxRecDepth 20000 in
theorem u_co_X9_place : (.code yX9_place cX9_place 3 (some .int) : Cond) ∈ gW := gW_in (List.mem_append_right _ (List.mem_append_left _ (List.mem_of_getElem? (l := tables_1_2) (i := 205) (rfl)))) rfl
set_option maxRecDepth 20000 in
theorem u_ml_X9_139 : (.methodLink RX9 139 yX4_hasPlace : Cond) ∈ gW := gW_in (List.mem_append_right _ (List.mem_append_left _ (List.mem_of_getElem? (l := tables_1_2) (i := 206) (by decide +kernel)))) rfl
set_option maxRecDepth 20000 in
theorem u_k_X9_142 : (.constant RX9 142 (-1000000001) : Cond) ∈ gW := gW_in (List.mem_append_right _ (List.mem_append_left _ (List.mem_of_getElem? (l := tables_1_2) (i := 207) (by decide +kernel)))) rfl
set_option maxRecDepth 20000 in
theorem u_ml_L_36 : (.methodLink RL 36 yX9_channel : Cond) ∈ gW := gW_in (List.mem_append_right _ (List.mem_append_left _ (List.mem_of_getElem? (l := tables_1_2) (i := 208) (by decide +kernel)))) rfl
set_option maxRecDepth 20000 in
theorem u_im_X9_channel : (.instanceMethod yX9_channel : Cond) ∈ gW := gW_in (List.mem_append_right _ (List.mem_append_left _ (List.mem_of_getElem? (l := tables_1_2) (i := 209) (by decide +kernel)))) rfl
set_option maxRecDepth 20000 in
theorem u_se_X9_channel : (.selects RX9 yX9_channel yX9_channel : Cond) ∈ gW := gW_in (List.mem_append_right _ (List.mem_append_left _ (List.mem_of_getElem? (l := tables_1_2) (i := 210) (by decide +kernel)))) rfl
set_option maxRecDepth 20000 in
theorem u_co_X9_channel : (.code yX9_channel cX9_channel 3 (some .int) : Cond) ∈ gW := gW_in (List.mem_append_right _ (List.mem_append_left _ (List.mem_of_getElem? (l := tables_1_2) (i := 211) (rfl)))) rfl
set_option maxRecDepth 20000 in
theorem u_ml_X9_153 : (.methodLink RX9 153 yX4_hasChannel : Cond) ∈ gW := gW_in (List.mem_append_right _ (List.mem_append_left _ (List.mem_of_getElem? (l := tables_1_2) (i := 212) (by decide +kernel)))) rfl
set_option maxRecDepth 20000 in
theorem u_im_X4_hasChannel : (.instanceMethod yX4_hasChannel : Cond) ∈ gW := gW_in (List.mem_append_right _ (List.mem_append_left _ (List.mem_of_getElem? (l := tables_1_2) (i := 213) (by decide +kernel)))) rfl
set_option maxRecDepth 20000 in
theorem u_se_X4_hasChannel : (.selects RX4 yX4_hasChannel yX4_hasChannel : Cond) ∈ gW := gW_in (List.mem_append_right _ (List.mem_append_left _ (List.mem_of_getElem? (l := tables_1_2) (i := 214) (by decide +kernel)))) rfl
set_option maxRecDepth 20000 in
theorem u_co_X4_hasChannel : (.code yX4_hasChannel cX4_hasChannel 2 (some .boolean) : Cond) ∈ gW := gW_in (List.mem_append_right _ (List.mem_append_left _ (List.mem_of_getElem? (l := tables_1_2) (i := 215) (rfl)))) rfl
set_option maxRecDepth 20000 in
theorem u_ml_X9_168 : (.methodLink RX9 168 yX9_has : Cond) ∈ gW := gW_in (List.mem_append_right _ (List.mem_append_left _ (List.mem_of_getElem? (l := tables_1_2) (i := 216) (by decide +kernel)))) rfl
set_option maxRecDepth 20000 in
theorem u_st_X9_has : (.static yX9_has : Cond) ∈ gW := gW_in (List.mem_append_right _ (List.mem_append_left _ (List.mem_of_getElem? (l := tables_1_2) (i := 217) (by decide +kernel)))) rfl
set_option maxRecDepth 20000 in
theorem u_co_X9_has : (.code yX9_has cX9_has 2 (some .boolean) : Cond) ∈ gW := gW_in (List.mem_append_right _ (List.mem_append_left _ (List.mem_of_getElem? (l := tables_1_2) (i := 218) (rfl)))) rfl
set_option maxRecDepth 20000 in
theorem u_ml_L_40 : (.methodLink RL 40 yX9_first : Cond) ∈ gW := gW_in (List.mem_append_right _ (List.mem_append_left _ (List.mem_of_getElem? (l := tables_1_2) (i := 219) (by decide +kernel)))) rfl
set_option maxRecDepth 20000 in
theorem u_im_X9_first : (.instanceMethod yX9_first : Cond) ∈ gW := gW_in (List.mem_append_right _ (List.mem_append_left _ (List.mem_of_getElem? (l := tables_1_2) (i := 220) (by decide +kernel)))) rfl
set_option maxRecDepth 20000 in
theorem u_se_X9_first : (.selects RX9 yX9_first yX9_first : Cond) ∈ gW := gW_in (List.mem_append_right _ (List.mem_append_left _ (List.mem_of_getElem? (l := tables_1_2) (i := 221) (by decide +kernel)))) rfl
set_option maxRecDepth 20000 in
theorem u_co_X9_first : (.code yX9_first cX9_first 3 (some .int) : Cond) ∈ gW := gW_in (List.mem_append_right _ (List.mem_append_left _ (List.mem_of_getElem? (l := tables_1_2) (i := 222) (rfl)))) rfl
set_option maxRecDepth 20000 in
theorem u_ml_X9_175 : (.methodLink RX9 175 yX9_isSaying : Cond) ∈ gW := gW_in (List.mem_append_right _ (List.mem_append_left _ (List.mem_of_getElem? (l := tables_1_2) (i := 223) (by decide +kernel)))) rfl
set_option maxRecDepth 20000 in
theorem u_st_X9_isSaying : (.static yX9_isSaying : Cond) ∈ gW := gW_in (List.mem_append_right _ (List.mem_append_left _ (List.mem_of_getElem? (l := tables_1_2) (i := 224) (by decide +kernel)))) rfl
set_option maxRecDepth 20000 in
theorem u_co_X9_isSaying : (.code yX9_isSaying cX9_isSaying 1 (some .boolean) : Cond) ∈ gW := gW_in (List.mem_append_right _ (List.mem_append_left _ (List.mem_of_getElem? (l := tables_1_2) (i := 225) (rfl)))) rfl
set_option maxRecDepth 20000 in
theorem u_ml_L_44 : (.methodLink RL 44 yX9_letIn : Cond) ∈ gW := gW_in (List.mem_append_right _ (List.mem_append_left _ (List.mem_of_getElem? (l := tables_1_2) (i := 226) (by decide +kernel)))) rfl
set_option maxRecDepth 20000 in
theorem u_im_X9_letIn : (.instanceMethod yX9_letIn : Cond) ∈ gW := gW_in (List.mem_append_right _ (List.mem_append_left _ (List.mem_of_getElem? (l := tables_1_2) (i := 227) (by decide +kernel)))) rfl
set_option maxRecDepth 20000 in
theorem u_se_X9_letIn : (.selects RX9 yX9_letIn yX9_letIn : Cond) ∈ gW := gW_in (List.mem_append_right _ (List.mem_append_left _ (List.mem_of_getElem? (l := tables_1_2) (i := 228) (by decide +kernel)))) rfl
set_option maxRecDepth 20000 in
theorem u_co_X9_letIn : (.code yX9_letIn cX9_letIn 2 (some .int) : Cond) ∈ gW := gW_in (List.mem_append_right _ (List.mem_append_left _ (List.mem_of_getElem? (l := tables_1_2) (i := 229) (rfl)))) rfl
set_option maxRecDepth 20000 in
theorem u_k_X9_181 : (.constant RX9 181 (-1000000003) : Cond) ∈ gW := gW_in (List.mem_append_right _ (List.mem_append_left _ (List.mem_of_getElem? (l := tables_1_2) (i := 230) (by decide +kernel)))) rfl
set_option maxRecDepth 20000 in
theorem u_ml_X9_182 : (.methodLink RX9 182 yX3_push : Cond) ∈ gW := gW_in (List.mem_append_right _ (List.mem_append_left _ (List.mem_of_getElem? (l := tables_1_2) (i := 231) (by decide +kernel)))) rfl
set_option maxRecDepth 20000 in
theorem u_im_X3_push : (.instanceMethod yX3_push : Cond) ∈ gW := gW_in (List.mem_append_right _ (List.mem_append_left _ (List.mem_of_getElem? (l := tables_1_2) (i := 232) (by decide +kernel)))) rfl
set_option maxRecDepth 20000 in
theorem u_se_X3_push : (.selects RX3 yX3_push yX3_push : Cond) ∈ gW := gW_in (List.mem_append_right _ (List.mem_append_left _ (List.mem_of_getElem? (l := tables_1_2) (i := 233) (by decide +kernel)))) rfl
set_option maxRecDepth 20000 in
theorem u_co_X3_push : (.code yX3_push cX3_push 2 none : Cond) ∈ gW := gW_in (List.mem_append_right _ (List.mem_append_left _ (List.mem_of_getElem? (l := tables_1_2) (i := 234) (rfl)))) rfl
set_option maxRecDepth 20000 in
theorem u_ml_X3_25 : (.methodLink RX3 25 yX0_copyFrom : Cond) ∈ gW := gW_in (List.mem_append_right _ (List.mem_append_left _ (List.mem_of_getElem? (l := tables_1_2) (i := 235) (by decide +kernel)))) rfl
set_option maxRecDepth 20000 in
theorem u_im_X0_copyFrom : (.instanceMethod yX0_copyFrom : Cond) ∈ gW := gW_in (List.mem_append_right _ (List.mem_append_left _ (List.mem_of_getElem? (l := tables_1_2) (i := 236) (by decide +kernel)))) rfl
set_option maxRecDepth 20000 in
theorem u_se_X0_copyFrom : (.selects RX0 yX0_copyFrom yX0_copyFrom : Cond) ∈ gW := gW_in (List.mem_append_right _ (List.mem_append_left _ (List.mem_of_getElem? (l := tables_1_2) (i := 237) (by decide +kernel)))) rfl
set_option maxRecDepth 20000 in
theorem u_co_X0_copyFrom : (.code yX0_copyFrom cX0_copyFrom 2 none : Cond) ∈ gW := gW_in (List.mem_append_right _ (List.mem_append_left _ (List.mem_of_getElem? (l := tables_1_2) (i := 238) (rfl)))) rfl
set_option maxRecDepth 20000 in
theorem u_ml_X0_43 : (.methodLink RX0 43 arraycopyName : Cond) ∈ gW := gW_in (List.mem_append_right _ (List.mem_append_left _ (List.mem_of_getElem? (l := tables_1_2) (i := 239) (by decide +kernel)))) rfl
set_option maxRecDepth 20000 in
theorem u_st_acopy : (.static arraycopyName : Cond) ∈ gW := gW_in (List.mem_append_right _ (List.mem_append_right _ (List.mem_append_left _ (List.mem_of_getElem? (l := tables_1_3) (i := 0) (by decide +kernel))))) rfl
set_option maxRecDepth 20000 in
theorem u_nat_acopy : (.native arraycopyName : Cond) ∈ gW := gW_in (List.mem_append_right _ (List.mem_append_right _ (List.mem_append_left _ (List.mem_of_getElem? (l := tables_1_3) (i := 1) (by decide +kernel))))) rfl
set_option maxRecDepth 20000 in
theorem u_ml_X3_29 : (.methodLink RX3 29 yJ9_min_7cf53 : Cond) ∈ gW := gW_in (List.mem_append_right _ (List.mem_append_right _ (List.mem_append_left _ (List.mem_of_getElem? (l := tables_1_3) (i := 2) (by decide +kernel))))) rfl
set_option maxRecDepth 20000 in
theorem u_st_J9_min_7cf53 : (.static yJ9_min_7cf53 : Cond) ∈ gW := gW_in (List.mem_append_right _ (List.mem_append_right _ (List.mem_append_left _ (List.mem_of_getElem? (l := tables_1_3) (i := 3) (by decide +kernel))))) rfl
set_option maxRecDepth 20000 in
theorem u_co_J9_min_7cf53 : (.code yJ9_min_7cf53 cJ9_min_7cf53 2 (some .int) : Cond) ∈ gW := gW_in (List.mem_append_right _ (List.mem_append_right _ (List.mem_append_left _ (List.mem_of_getElem? (l := tables_1_3) (i := 4) (rfl))))) rfl
set_option maxRecDepth 20000 in
theorem u_ml_X9_186 : (.methodLink RX9 186 yX0_comeToSpring : Cond) ∈ gW := gW_in (List.mem_append_right _ (List.mem_append_right _ (List.mem_append_left _ (List.mem_of_getElem? (l := tables_1_3) (i := 5) (by decide +kernel))))) rfl
set_option maxRecDepth 20000 in
theorem u_im_X0_comeToSpring : (.instanceMethod yX0_comeToSpring : Cond) ∈ gW := gW_in (List.mem_append_right _ (List.mem_append_right _ (List.mem_append_left _ (List.mem_of_getElem? (l := tables_1_3) (i := 6) (by decide +kernel))))) rfl
set_option maxRecDepth 20000 in
theorem u_se_X0_comeToSpring : (.selects RX0 yX0_comeToSpring yX0_comeToSpring : Cond) ∈ gW := gW_in (List.mem_append_right _ (List.mem_append_right _ (List.mem_append_left _ (List.mem_of_getElem? (l := tables_1_3) (i := 7) (by decide +kernel))))) rfl
set_option maxRecDepth 20000 in
theorem u_co_X0_comeToSpring : (.code yX0_comeToSpring cX0_comeToSpring 3 (some .int) : Cond) ∈ gW := gW_in (List.mem_append_right _ (List.mem_append_right _ (List.mem_append_left _ (List.mem_of_getElem? (l := tables_1_3) (i := 8) (rfl))))) rfl
set_option maxRecDepth 20000 in
theorem u_ml_L_48 : (.methodLink RL 48 yX9_hour : Cond) ∈ gW := gW_in (List.mem_append_right _ (List.mem_append_right _ (List.mem_append_left _ (List.mem_of_getElem? (l := tables_1_3) (i := 9) (by decide +kernel))))) rfl
set_option maxRecDepth 20000 in
theorem u_im_X9_hour : (.instanceMethod yX9_hour : Cond) ∈ gW := gW_in (List.mem_append_right _ (List.mem_append_right _ (List.mem_append_left _ (List.mem_of_getElem? (l := tables_1_3) (i := 10) (by decide +kernel))))) rfl
set_option maxRecDepth 20000 in
theorem u_se_X9_hour : (.selects RX9 yX9_hour yX9_hour : Cond) ∈ gW := gW_in (List.mem_append_right _ (List.mem_append_right _ (List.mem_append_left _ (List.mem_of_getElem? (l := tables_1_3) (i := 11) (by decide +kernel))))) rfl
set_option maxRecDepth 20000 in
theorem u_co_X9_hour : (.code yX9_hour cX9_hour 4 (some .int) : Cond) ∈ gW := gW_in (List.mem_append_right _ (List.mem_append_right _ (List.mem_append_left _ (List.mem_of_getElem? (l := tables_1_3) (i := 12) (rfl))))) rfl
set_option maxRecDepth 20000 in
theorem u_ml_X9_190 : (.methodLink RX9 190 yX9_refusalOfHours : Cond) ∈ gW := gW_in (List.mem_append_right _ (List.mem_append_right _ (List.mem_append_left _ (List.mem_of_getElem? (l := tables_1_3) (i := 13) (by decide +kernel))))) rfl
set_option maxRecDepth 20000 in
theorem u_im_X9_refusalOfHours : (.instanceMethod yX9_refusalOfHours : Cond) ∈ gW := gW_in (List.mem_append_right _ (List.mem_append_right _ (List.mem_append_left _ (List.mem_of_getElem? (l := tables_1_3) (i := 15) (by decide +kernel))))) rfl
set_option maxRecDepth 20000 in
theorem u_co_X9_refusalOfHours : (.code yX9_refusalOfHours cX9_refusalOfHours 2 (some .int) : Cond) ∈ gW := gW_in (List.mem_append_right _ (List.mem_append_right _ (List.mem_append_left _ (List.mem_of_getElem? (l := tables_1_3) (i := 16) (rfl))))) rfl
set_option maxRecDepth 20000 in
theorem u_ml_X9_193 : (.methodLink RX9 193 yX0_passHour : Cond) ∈ gW := gW_in (List.mem_append_right _ (List.mem_append_right _ (List.mem_append_left _ (List.mem_of_getElem? (l := tables_1_3) (i := 17) (by decide +kernel))))) rfl
set_option maxRecDepth 20000 in
theorem u_im_X0_passHour : (.instanceMethod yX0_passHour : Cond) ∈ gW := gW_in (List.mem_append_right _ (List.mem_append_right _ (List.mem_append_left _ (List.mem_of_getElem? (l := tables_1_3) (i := 18) (by decide +kernel))))) rfl
set_option maxRecDepth 20000 in
theorem u_se_X0_passHour : (.selects RX0 yX0_passHour yX0_passHour : Cond) ∈ gW := gW_in (List.mem_append_right _ (List.mem_append_right _ (List.mem_append_left _ (List.mem_of_getElem? (l := tables_1_3) (i := 19) (by decide +kernel))))) rfl
set_option maxRecDepth 20000 in
theorem u_co_X0_passHour : (.code yX0_passHour cX0_passHour 5 none : Cond) ∈ gW := gW_in (List.mem_append_right _ (List.mem_append_right _ (List.mem_append_left _ (List.mem_of_getElem? (l := tables_1_3) (i := 20) (rfl))))) rfl
set_option maxRecDepth 20000 in
theorem u_ml_X0_66 : (.methodLink RX0 66 yX0_hearAt : Cond) ∈ gW := gW_in (List.mem_append_right _ (List.mem_append_right _ (List.mem_append_left _ (List.mem_of_getElem? (l := tables_1_3) (i := 21) (by decide +kernel))))) rfl
set_option maxRecDepth 20000 in
theorem u_im_X0_hearAt : (.instanceMethod yX0_hearAt : Cond) ∈ gW := gW_in (List.mem_append_right _ (List.mem_append_right _ (List.mem_append_left _ (List.mem_of_getElem? (l := tables_1_3) (i := 23) (by decide +kernel))))) rfl
set_option maxRecDepth 20000 in
theorem u_co_X0_hearAt : (.code yX0_hearAt cX0_hearAt 5 none : Cond) ∈ gW := gW_in (List.mem_append_right _ (List.mem_append_right _ (List.mem_append_left _ (List.mem_of_getElem? (l := tables_1_3) (i := 24) (rfl))))) rfl
set_option maxRecDepth 20000 in
theorem u_ml_X0_70 : (.methodLink RX0 70 yX4_goingOn : Cond) ∈ gW := gW_in (List.mem_append_right _ (List.mem_append_right _ (List.mem_append_left _ (List.mem_of_getElem? (l := tables_1_3) (i := 26) (by decide +kernel))))) rfl
set_option maxRecDepth 20000 in
theorem u_im_X4_goingOn : (.instanceMethod yX4_goingOn : Cond) ∈ gW := gW_in (List.mem_append_right _ (List.mem_append_right _ (List.mem_append_left _ (List.mem_of_getElem? (l := tables_1_3) (i := 27) (by decide +kernel))))) rfl
set_option maxRecDepth 20000 in
theorem u_se_X4_goingOn : (.selects RX4 yX4_goingOn yX4_goingOn : Cond) ∈ gW := gW_in (List.mem_append_right _ (List.mem_append_right _ (List.mem_append_left _ (List.mem_of_getElem? (l := tables_1_3) (i := 28) (by decide +kernel))))) rfl
set_option maxRecDepth 20000 in
theorem u_co_X4_goingOn : (.code yX4_goingOn cX4_goingOn 3 (some .int) : Cond) ∈ gW := gW_in (List.mem_append_right _ (List.mem_append_right _ (List.mem_append_left _ (List.mem_of_getElem? (l := tables_1_3) (i := 29) (rfl))))) rfl
set_option maxRecDepth 20000 in
theorem u_ml_X0_74 : (.methodLink RX0 74 yX0_sendOn : Cond) ∈ gW := gW_in (List.mem_append_right _ (List.mem_append_right _ (List.mem_append_left _ (List.mem_of_getElem? (l := tables_1_3) (i := 30) (by decide +kernel))))) rfl
set_option maxRecDepth 20000 in
theorem u_im_X0_sendOn : (.instanceMethod yX0_sendOn : Cond) ∈ gW := gW_in (List.mem_append_right _ (List.mem_append_right _ (List.mem_append_left _ (List.mem_of_getElem? (l := tables_1_3) (i := 32) (by decide +kernel))))) rfl
set_option maxRecDepth 20000 in
theorem u_co_X0_sendOn : (.code yX0_sendOn cX0_sendOn 5 none : Cond) ∈ gW := gW_in (List.mem_append_right _ (List.mem_append_right _ (List.mem_append_left _ (List.mem_of_getElem? (l := tables_1_3) (i := 33) (rfl))))) rfl
set_option maxRecDepth 20000 in
theorem u_ml_L_52 : (.methodLink RL 52 yX9_gate : Cond) ∈ gW := gW_in (List.mem_append_right _ (List.mem_append_right _ (List.mem_append_left _ (List.mem_of_getElem? (l := tables_1_3) (i := 34) (by decide +kernel))))) rfl
set_option maxRecDepth 20000 in
theorem u_im_X9_gate : (.instanceMethod yX9_gate : Cond) ∈ gW := gW_in (List.mem_append_right _ (List.mem_append_right _ (List.mem_append_left _ (List.mem_of_getElem? (l := tables_1_3) (i := 35) (by decide +kernel))))) rfl
set_option maxRecDepth 20000 in
theorem u_se_X9_gate : (.selects RX9 yX9_gate yX9_gate : Cond) ∈ gW := gW_in (List.mem_append_right _ (List.mem_append_right _ (List.mem_append_left _ (List.mem_of_getElem? (l := tables_1_3) (i := 36) (by decide +kernel))))) rfl
set_option maxRecDepth 20000 in
theorem u_co_X9_gate : (.code yX9_gate cX9_gate 4 (some .int) : Cond) ∈ gW := gW_in (List.mem_append_right _ (List.mem_append_right _ (List.mem_append_left _ (List.mem_of_getElem? (l := tables_1_3) (i := 37) (rfl))))) rfl
set_option maxRecDepth 20000 in
theorem u_ml_L_57 : (.methodLink RL 57 yX9_clear : Cond) ∈ gW := gW_in (List.mem_append_right _ (List.mem_append_right _ (List.mem_append_left _ (List.mem_of_getElem? (l := tables_1_3) (i := 38) (by decide +kernel))))) rfl
set_option maxRecDepth 20000 in
theorem u_im_X9_clear : (.instanceMethod yX9_clear : Cond) ∈ gW := gW_in (List.mem_append_right _ (List.mem_append_right _ (List.mem_append_left _ (List.mem_of_getElem? (l := tables_1_3) (i := 39) (by decide +kernel))))) rfl
set_option maxRecDepth 20000 in
theorem u_se_X9_clear : (.selects RX9 yX9_clear yX9_clear : Cond) ∈ gW := gW_in (List.mem_append_right _ (List.mem_append_right _ (List.mem_append_left _ (List.mem_of_getElem? (l := tables_1_3) (i := 40) (by decide +kernel))))) rfl
set_option maxRecDepth 20000 in
theorem u_co_X9_clear : (.code yX9_clear cX9_clear 3 (some .int) : Cond) ∈ gW := gW_in (List.mem_append_right _ (List.mem_append_right _ (List.mem_append_left _ (List.mem_of_getElem? (l := tables_1_3) (i := 41) (rfl))))) rfl
set_option maxRecDepth 20000 in
theorem u_ml_L_61 : (.methodLink RL 61 yX9_crack : Cond) ∈ gW := gW_in (List.mem_append_right _ (List.mem_append_right _ (List.mem_append_left _ (List.mem_of_getElem? (l := tables_1_3) (i := 42) (by decide +kernel))))) rfl
set_option maxRecDepth 20000 in
theorem u_im_X9_crack : (.instanceMethod yX9_crack : Cond) ∈ gW := gW_in (List.mem_append_right _ (List.mem_append_right _ (List.mem_append_left _ (List.mem_of_getElem? (l := tables_1_3) (i := 43) (by decide +kernel))))) rfl
set_option maxRecDepth 20000 in
theorem u_se_X9_crack : (.selects RX9 yX9_crack yX9_crack : Cond) ∈ gW := gW_in (List.mem_append_right _ (List.mem_append_right _ (List.mem_append_left _ (List.mem_of_getElem? (l := tables_1_3) (i := 44) (by decide +kernel))))) rfl
set_option maxRecDepth 20000 in
theorem u_co_X9_crack : (.code yX9_crack cX9_crack 4 (some .int) : Cond) ∈ gW := gW_in (List.mem_append_right _ (List.mem_append_right _ (List.mem_append_left _ (List.mem_of_getElem? (l := tables_1_3) (i := 45) (rfl))))) rfl
set_option maxRecDepth 20000 in
theorem u_ml_L_65 : (.methodLink RL 65 yX9_empty : Cond) ∈ gW := gW_in (List.mem_append_right _ (List.mem_append_right _ (List.mem_append_left _ (List.mem_of_getElem? (l := tables_1_3) (i := 46) (by decide +kernel))))) rfl
set_option maxRecDepth 20000 in
theorem u_im_X9_empty : (.instanceMethod yX9_empty : Cond) ∈ gW := gW_in (List.mem_append_right _ (List.mem_append_right _ (List.mem_append_left _ (List.mem_of_getElem? (l := tables_1_3) (i := 47) (by decide +kernel))))) rfl
set_option maxRecDepth 20000 in
theorem u_se_X9_empty : (.selects RX9 yX9_empty yX9_empty : Cond) ∈ gW := gW_in (List.mem_append_right _ (List.mem_append_right _ (List.mem_append_left _ (List.mem_of_getElem? (l := tables_1_3) (i := 48) (by decide +kernel))))) rfl
set_option maxRecDepth 20000 in
theorem u_co_X9_empty : (.code yX9_empty cX9_empty 2 (some .int) : Cond) ∈ gW := gW_in (List.mem_append_right _ (List.mem_append_right _ (List.mem_append_left _ (List.mem_of_getElem? (l := tables_1_3) (i := 49) (rfl))))) rfl
set_option maxRecDepth 20000 in
theorem u_ml_X9_196 : (.methodLink RX9 196 yX0_drain : Cond) ∈ gW := gW_in (List.mem_append_right _ (List.mem_append_right _ (List.mem_append_left _ (List.mem_of_getElem? (l := tables_1_3) (i := 50) (by decide +kernel))))) rfl
set_option maxRecDepth 20000 in
theorem u_ml_L_69 : (.methodLink RL 69 yX9_drift : Cond) ∈ gW := gW_in (List.mem_append_right _ (List.mem_append_right _ (List.mem_append_left _ (List.mem_of_getElem? (l := tables_1_3) (i := 51) (by decide +kernel))))) rfl
set_option maxRecDepth 20000 in
theorem u_im_X9_drift : (.instanceMethod yX9_drift : Cond) ∈ gW := gW_in (List.mem_append_right _ (List.mem_append_right _ (List.mem_append_left _ (List.mem_of_getElem? (l := tables_1_3) (i := 52) (by decide +kernel))))) rfl
set_option maxRecDepth 20000 in
theorem u_se_X9_drift : (.selects RX9 yX9_drift yX9_drift : Cond) ∈ gW := gW_in (List.mem_append_right _ (List.mem_append_right _ (List.mem_append_left _ (List.mem_of_getElem? (l := tables_1_3) (i := 53) (by decide +kernel))))) rfl
set_option maxRecDepth 20000 in
theorem u_co_X9_drift : (.code yX9_drift cX9_drift 4 (some .int) : Cond) ∈ gW := gW_in (List.mem_append_right _ (List.mem_append_right _ (List.mem_append_left _ (List.mem_of_getElem? (l := tables_1_3) (i := 54) (rfl))))) rfl
set_option maxRecDepth 20000 in
theorem u_ml_X9_199 : (.methodLink RX9 199 yX9_drawThird : Cond) ∈ gW := gW_in (List.mem_append_right _ (List.mem_append_right _ (List.mem_append_left _ (List.mem_of_getElem? (l := tables_1_3) (i := 55) (by decide +kernel))))) rfl
set_option maxRecDepth 20000 in
theorem u_im_X9_drawThird : (.instanceMethod yX9_drawThird : Cond) ∈ gW := gW_in (List.mem_append_right _ (List.mem_append_right _ (List.mem_append_left _ (List.mem_of_getElem? (l := tables_1_3) (i := 57) (by decide +kernel))))) rfl
set_option maxRecDepth 20000 in
theorem u_co_X9_drawThird : (.code yX9_drawThird cX9_drawThird 1 (some .int) : Cond) ∈ gW := gW_in (List.mem_append_right _ (List.mem_append_right _ (List.mem_append_left _ (List.mem_of_getElem? (l := tables_1_3) (i := 58) (rfl))))) rfl
set_option maxRecDepth 20000 in
theorem u_ml_X9_271 : (.methodLink RX9 271 yX9_stepSeed : Cond) ∈ gW := gW_in (List.mem_append_right _ (List.mem_append_right _ (List.mem_append_left _ (List.mem_of_getElem? (l := tables_1_3) (i := 59) (by decide +kernel))))) rfl
set_option maxRecDepth 20000 in
theorem u_im_X9_stepSeed : (.instanceMethod yX9_stepSeed : Cond) ∈ gW := gW_in (List.mem_append_right _ (List.mem_append_right _ (List.mem_append_left _ (List.mem_of_getElem? (l := tables_1_3) (i := 61) (by decide +kernel))))) rfl
set_option maxRecDepth 20000 in
theorem u_co_X9_stepSeed : (.code yX9_stepSeed cX9_stepSeed 1 none : Cond) ∈ gW := gW_in (List.mem_append_right _ (List.mem_append_right _ (List.mem_append_left _ (List.mem_of_getElem? (l := tables_1_3) (i := 62) (rfl))))) rfl
set_option maxRecDepth 20000 in
theorem u_k_X9_275 : (.constant RX9 275 (1103515245) : Cond) ∈ gW := gW_in (List.mem_append_right _ (List.mem_append_right _ (List.mem_append_left _ (List.mem_of_getElem? (l := tables_1_3) (i := 63) (by decide +kernel))))) rfl
set_option maxRecDepth 20000 in
theorem u_k_X9_276 : (.constant RX9 276 (2147483647) : Cond) ∈ gW := gW_in (List.mem_append_right _ (List.mem_append_right _ (List.mem_append_left _ (List.mem_of_getElem? (l := tables_1_3) (i := 64) (by decide +kernel))))) rfl
set_option maxRecDepth 20000 in
theorem u_k_X9_274 : (.constant RX9 274 (65536) : Cond) ∈ gW := gW_in (List.mem_append_right _ (List.mem_append_right _ (List.mem_append_left _ (List.mem_of_getElem? (l := tables_1_3) (i := 65) (by decide +kernel))))) rfl
set_option maxRecDepth 20000 in
theorem u_ml_X9_202 : (.methodLink RX9 202 yX9_drawSaying : Cond) ∈ gW := gW_in (List.mem_append_right _ (List.mem_append_right _ (List.mem_append_left _ (List.mem_of_getElem? (l := tables_1_3) (i := 66) (by decide +kernel))))) rfl
set_option maxRecDepth 20000 in
theorem u_im_X9_drawSaying : (.instanceMethod yX9_drawSaying : Cond) ∈ gW := gW_in (List.mem_append_right _ (List.mem_append_right _ (List.mem_append_left _ (List.mem_of_getElem? (l := tables_1_3) (i := 68) (by decide +kernel))))) rfl
set_option maxRecDepth 20000 in
theorem u_co_X9_drawSaying : (.code yX9_drawSaying cX9_drawSaying 1 (some .int) : Cond) ∈ gW := gW_in (List.mem_append_right _ (List.mem_append_right _ (List.mem_append_left _ (List.mem_of_getElem? (l := tables_1_3) (i := 69) (rfl))))) rfl
set_option maxRecDepth 20000 in
theorem u_ml_L_73 : (.methodLink RL 73 yX9_undo : Cond) ∈ gW := gW_in (List.mem_append_right _ (List.mem_append_right _ (List.mem_append_left _ (List.mem_of_getElem? (l := tables_1_3) (i := 70) (by decide +kernel))))) rfl
set_option maxRecDepth 20000 in
theorem u_im_X9_undo : (.instanceMethod yX9_undo : Cond) ∈ gW := gW_in (List.mem_append_right _ (List.mem_append_right _ (List.mem_append_left _ (List.mem_of_getElem? (l := tables_1_3) (i := 71) (by decide +kernel))))) rfl
set_option maxRecDepth 20000 in
theorem u_se_X9_undo : (.selects RX9 yX9_undo yX9_undo : Cond) ∈ gW := gW_in (List.mem_append_right _ (List.mem_append_right _ (List.mem_append_left _ (List.mem_of_getElem? (l := tables_1_3) (i := 72) (by decide +kernel))))) rfl
set_option maxRecDepth 20000 in
theorem u_co_X9_undo : (.code yX9_undo cX9_undo 1 (some .int) : Cond) ∈ gW := gW_in (List.mem_append_right _ (List.mem_append_right _ (List.mem_append_left _ (List.mem_of_getElem? (l := tables_1_3) (i := 73) (rfl))))) rfl
set_option maxRecDepth 20000 in
theorem u_ml_X9_205 : (.methodLink RX9 205 yX3_pop : Cond) ∈ gW := gW_in (List.mem_append_right _ (List.mem_append_right _ (List.mem_append_left _ (List.mem_of_getElem? (l := tables_1_3) (i := 74) (by decide +kernel))))) rfl
set_option maxRecDepth 20000 in
theorem u_im_X3_pop : (.instanceMethod yX3_pop : Cond) ∈ gW := gW_in (List.mem_append_right _ (List.mem_append_right _ (List.mem_append_left _ (List.mem_of_getElem? (l := tables_1_3) (i := 75) (by decide +kernel))))) rfl
set_option maxRecDepth 20000 in
theorem u_se_X3_pop : (.selects RX3 yX3_pop yX3_pop : Cond) ∈ gW := gW_in (List.mem_append_right _ (List.mem_append_right _ (List.mem_append_left _ (List.mem_of_getElem? (l := tables_1_3) (i := 76) (by decide +kernel))))) rfl
set_option maxRecDepth 20000 in
theorem u_co_X3_pop : (.code yX3_pop cX3_pop 2 (some .boolean) : Cond) ∈ gW := gW_in (List.mem_append_right _ (List.mem_append_right _ (List.mem_append_left _ (List.mem_of_getElem? (l := tables_1_3) (i := 77) (rfl))))) rfl
set_option maxRecDepth 20000 in
theorem u_ml_L_77 : (.methodLink RL 77 yX9_hears : Cond) ∈ gW := gW_in (List.mem_append_right _ (List.mem_append_right _ (List.mem_append_left _ (List.mem_of_getElem? (l := tables_1_3) (i := 78) (by decide +kernel))))) rfl
set_option maxRecDepth 20000 in
theorem u_im_X9_hears : (.instanceMethod yX9_hears : Cond) ∈ gW := gW_in (List.mem_append_right _ (List.mem_append_right _ (List.mem_append_left _ (List.mem_of_getElem? (l := tables_1_3) (i := 79) (by decide +kernel))))) rfl
set_option maxRecDepth 20000 in
theorem u_se_X9_hears : (.selects RX9 yX9_hears yX9_hears : Cond) ∈ gW := gW_in (List.mem_append_right _ (List.mem_append_right _ (List.mem_append_left _ (List.mem_of_getElem? (l := tables_1_3) (i := 80) (by decide +kernel))))) rfl
set_option maxRecDepth 20000 in
theorem u_co_X9_hears : (.code yX9_hears cX9_hears 4 (some .int) : Cond) ∈ gW := gW_in (List.mem_append_right _ (List.mem_append_right _ (List.mem_append_left _ (List.mem_of_getElem? (l := tables_1_3) (i := 81) (rfl))))) rfl
set_option maxRecDepth 20000 in
theorem u_ml_X9_209 : (.methodLink RX9 209 yX9_refusalOfTry : Cond) ∈ gW := gW_in (List.mem_append_right _ (List.mem_append_right _ (List.mem_append_left _ (List.mem_of_getElem? (l := tables_1_3) (i := 82) (by decide +kernel))))) rfl
set_option maxRecDepth 20000 in
theorem u_im_X9_refusalOfTry : (.instanceMethod yX9_refusalOfTry : Cond) ∈ gW := gW_in (List.mem_append_right _ (List.mem_append_right _ (List.mem_append_left _ (List.mem_of_getElem? (l := tables_1_3) (i := 84) (by decide +kernel))))) rfl
set_option maxRecDepth 20000 in
theorem u_co_X9_refusalOfTry : (.code yX9_refusalOfTry cX9_refusalOfTry 3 (some .int) : Cond) ∈ gW := gW_in (List.mem_append_right _ (List.mem_append_right _ (List.mem_append_left _ (List.mem_of_getElem? (l := tables_1_3) (i := 85) (rfl))))) rfl
set_option maxRecDepth 20000 in
theorem u_ml_X9_213 : (.methodLink RX9 213 yX9_tryOut : Cond) ∈ gW := gW_in (List.mem_append_right _ (List.mem_append_right _ (List.mem_append_left _ (List.mem_of_getElem? (l := tables_1_3) (i := 86) (by decide +kernel))))) rfl
set_option maxRecDepth 20000 in
theorem u_im_X9_tryOut : (.instanceMethod yX9_tryOut : Cond) ∈ gW := gW_in (List.mem_append_right _ (List.mem_append_right _ (List.mem_append_left _ (List.mem_of_getElem? (l := tables_1_3) (i := 88) (by decide +kernel))))) rfl
set_option maxRecDepth 20000 in
theorem u_co_X9_tryOut : (.code yX9_tryOut cX9_tryOut 3 none : Cond) ∈ gW := gW_in (List.mem_append_right _ (List.mem_append_right _ (List.mem_append_left _ (List.mem_of_getElem? (l := tables_1_3) (i := 89) (rfl))))) rfl
set_option maxRecDepth 20000 in
theorem u_ml_X9_240 : (.methodLink RX9 240 yX0_copyFrom : Cond) ∈ gW := gW_in (List.mem_append_right _ (List.mem_append_right _ (List.mem_append_left _ (List.mem_of_getElem? (l := tables_1_3) (i := 90) (by decide +kernel))))) rfl
set_option maxRecDepth 20000 in
theorem u_ml_L_81 : (.methodLink RL 81 yX9_soonest : Cond) ∈ gW := gW_in (List.mem_append_right _ (List.mem_append_right _ (List.mem_append_left _ (List.mem_of_getElem? (l := tables_1_3) (i := 91) (by decide +kernel))))) rfl
set_option maxRecDepth 20000 in
theorem u_im_X9_soonest : (.instanceMethod yX9_soonest : Cond) ∈ gW := gW_in (List.mem_append_right _ (List.mem_append_right _ (List.mem_append_left _ (List.mem_of_getElem? (l := tables_1_3) (i := 92) (by decide +kernel))))) rfl
set_option maxRecDepth 20000 in
theorem u_se_X9_soonest : (.selects RX9 yX9_soonest yX9_soonest : Cond) ∈ gW := gW_in (List.mem_append_right _ (List.mem_append_right _ (List.mem_append_left _ (List.mem_of_getElem? (l := tables_1_3) (i := 93) (by decide +kernel))))) rfl
set_option maxRecDepth 20000 in
theorem u_co_X9_soonest : (.code yX9_soonest cX9_soonest 4 (some .int) : Cond) ∈ gW := gW_in (List.mem_append_right _ (List.mem_append_right _ (List.mem_append_left _ (List.mem_of_getElem? (l := tables_1_3) (i := 94) (rfl))))) rfl
set_option maxRecDepth 20000 in
theorem u_ml_X9_217 : (.methodLink RX9 217 yX0_soonestAt : Cond) ∈ gW := gW_in (List.mem_append_right _ (List.mem_append_right _ (List.mem_append_left _ (List.mem_of_getElem? (l := tables_1_3) (i := 95) (by decide +kernel))))) rfl
set_option maxRecDepth 20000 in
theorem u_im_X0_soonestAt : (.instanceMethod yX0_soonestAt : Cond) ∈ gW := gW_in (List.mem_append_right _ (List.mem_append_right _ (List.mem_append_left _ (List.mem_of_getElem? (l := tables_1_3) (i := 96) (by decide +kernel))))) rfl
set_option maxRecDepth 20000 in
theorem u_se_X0_soonestAt : (.selects RX0 yX0_soonestAt yX0_soonestAt : Cond) ∈ gW := gW_in (List.mem_append_right _ (List.mem_append_right _ (List.mem_append_left _ (List.mem_of_getElem? (l := tables_1_3) (i := 97) (by decide +kernel))))) rfl
set_option maxRecDepth 20000 in
theorem u_co_X0_soonestAt : (.code yX0_soonestAt cX0_soonestAt 5 (some .int) : Cond) ∈ gW := gW_in (List.mem_append_right _ (List.mem_append_right _ (List.mem_append_left _ (List.mem_of_getElem? (l := tables_1_3) (i := 98) (rfl))))) rfl
set_option maxRecDepth 20000 in
theorem u_ml_L_85 : (.methodLink RL 85 yX9_gates : Cond) ∈ gW := gW_in (List.mem_append_right _ (List.mem_append_right _ (List.mem_append_left _ (List.mem_of_getElem? (l := tables_1_3) (i := 99) (by decide +kernel))))) rfl
set_option maxRecDepth 20000 in
theorem u_im_X9_gates : (.instanceMethod yX9_gates : Cond) ∈ gW := gW_in (List.mem_append_right _ (List.mem_append_right _ (List.mem_append_left _ (List.mem_of_getElem? (l := tables_1_3) (i := 100) (by decide +kernel))))) rfl
set_option maxRecDepth 20000 in
theorem u_se_X9_gates : (.selects RX9 yX9_gates yX9_gates : Cond) ∈ gW := gW_in (List.mem_append_right _ (List.mem_append_right _ (List.mem_append_left _ (List.mem_of_getElem? (l := tables_1_3) (i := 101) (by decide +kernel))))) rfl
set_option maxRecDepth 20000 in
theorem u_co_X9_gates : (.code yX9_gates cX9_gates 4 (some .int) : Cond) ∈ gW := gW_in (List.mem_append_right _ (List.mem_append_right _ (List.mem_append_left _ (List.mem_of_getElem? (l := tables_1_3) (i := 102) (rfl))))) rfl
set_option maxRecDepth 20000 in
theorem u_ml_X9_220 : (.methodLink RX9 220 yX7_fewestGates : Cond) ∈ gW := gW_in (List.mem_append_right _ (List.mem_append_right _ (List.mem_append_left _ (List.mem_of_getElem? (l := tables_1_3) (i := 103) (by decide +kernel))))) rfl
set_option maxRecDepth 20000 in
theorem u_im_X7_fewestGates : (.instanceMethod yX7_fewestGates : Cond) ∈ gW := gW_in (List.mem_append_right _ (List.mem_append_right _ (List.mem_append_left _ (List.mem_of_getElem? (l := tables_1_3) (i := 104) (by decide +kernel))))) rfl
set_option maxRecDepth 20000 in
theorem u_se_X7_fewestGates : (.selects RX7 yX7_fewestGates yX7_fewestGates : Cond) ∈ gW := gW_in (List.mem_append_right _ (List.mem_append_right _ (List.mem_append_left _ (List.mem_of_getElem? (l := tables_1_3) (i := 105) (by decide +kernel))))) rfl
set_option maxRecDepth 20000 in
theorem u_co_X7_fewestGates : (.code yX7_fewestGates cX7_fewestGates 11 (some .int) : Cond) ∈ gW := gW_in (List.mem_append_right _ (List.mem_append_right _ (List.mem_append_left _ (List.mem_of_getElem? (l := tables_1_3) (i := 106) (rfl))))) rfl
set_option maxRecDepth 20000 in
theorem u_ml_X7_34 : (.methodLink RX7 34 yJ6_bitCount_0f7a4 : Cond) ∈ gW := gW_in (List.mem_append_right _ (List.mem_append_right _ (List.mem_append_left _ (List.mem_of_getElem? (l := tables_1_3) (i := 107) (by decide +kernel))))) rfl
set_option maxRecDepth 20000 in
theorem u_ml_X7_48 : (.methodLink RX7 48 yX8_run : Cond) ∈ gW := gW_in (List.mem_append_right _ (List.mem_append_right _ (List.mem_append_left _ (List.mem_of_getElem? (l := tables_1_3) (i := 108) (by decide +kernel))))) rfl
set_option maxRecDepth 20000 in
theorem u_im_X8_run : (.instanceMethod yX8_run : Cond) ∈ gW := gW_in (List.mem_append_right _ (List.mem_append_right _ (List.mem_append_left _ (List.mem_of_getElem? (l := tables_1_3) (i := 109) (by decide +kernel))))) rfl
set_option maxRecDepth 20000 in
theorem u_se_X8_run : (.selects RX8 yX8_run yX8_run : Cond) ∈ gW := gW_in (List.mem_append_right _ (List.mem_append_right _ (List.mem_append_left _ (List.mem_of_getElem? (l := tables_1_3) (i := 110) (by decide +kernel))))) rfl
set_option maxRecDepth 20000 in
theorem u_co_X8_run : (.code yX8_run cX8_run 8 none : Cond) ∈ gW := gW_in (List.mem_append_right _ (List.mem_append_right _ (List.mem_append_left _ (List.mem_of_getElem? (l := tables_1_3) (i := 111) (rfl))))) rfl
set_option maxRecDepth 20000 in
theorem u_ml_X8_18 : (.methodLink RX8 18 yJ7_fill_d0a16 : Cond) ∈ gW := gW_in (List.mem_append_right _ (List.mem_append_right _ (List.mem_append_left _ (List.mem_of_getElem? (l := tables_1_3) (i := 112) (by decide +kernel))))) rfl
set_option maxRecDepth 20000 in
theorem u_st_J7_fill_d0a16 : (.static yJ7_fill_d0a16 : Cond) ∈ gW := gW_in (List.mem_append_right _ (List.mem_append_right _ (List.mem_append_left _ (List.mem_of_getElem? (l := tables_1_3) (i := 113) (by decide +kernel))))) rfl
set_option maxRecDepth 20000 in
theorem u_co_J7_fill_d0a16 : (.code yJ7_fill_d0a16 cJ7_fill_d0a16 5 none : Cond) ∈ gW := gW_in (List.mem_append_right _ (List.mem_append_right _ (List.mem_append_left _ (List.mem_of_getElem? (l := tables_1_3) (i := 114) (rfl))))) rfl
set_option maxRecDepth 20000 in
theorem u_ml_X8_44 : (.methodLink RX8 44 yX4_goingOn : Cond) ∈ gW := gW_in (List.mem_append_right _ (List.mem_append_right _ (List.mem_append_left _ (List.mem_of_getElem? (l := tables_1_3) (i := 116) (by decide +kernel))))) rfl
set_option maxRecDepth 20000 in
theorem u_kl_X8_54 : (.constantLong RX8 54 (2305843009213693951) : Cond) ∈ gW := gW_in (List.mem_append_right _ (List.mem_append_right _ (List.mem_append_left _ (List.mem_of_getElem? (l := tables_1_3) (i := 117) (by decide +kernel))))) rfl
set_option maxRecDepth 20000 in
theorem u_ml_X7_52 : (.methodLink RX7 52 yX8_heardAtPlaces : Cond) ∈ gW := gW_in (List.mem_append_right _ (List.mem_append_right _ (List.mem_append_left _ (List.mem_of_getElem? (l := tables_1_3) (i := 118) (by decide +kernel))))) rfl
set_option maxRecDepth 20000 in
theorem u_im_X8_heardAtPlaces : (.instanceMethod yX8_heardAtPlaces : Cond) ∈ gW := gW_in (List.mem_append_right _ (List.mem_append_right _ (List.mem_append_left _ (List.mem_of_getElem? (l := tables_1_3) (i := 119) (by decide +kernel))))) rfl
set_option maxRecDepth 20000 in
theorem u_se_X8_heardAtPlaces : (.selects RX8 yX8_heardAtPlaces yX8_heardAtPlaces : Cond) ∈ gW := gW_in (List.mem_append_right _ (List.mem_append_right _ (List.mem_append_left _ (List.mem_of_getElem? (l := tables_1_3) (i := 120) (by decide +kernel))))) rfl
set_option maxRecDepth 20000 in
theorem u_co_X8_heardAtPlaces : (.code yX8_heardAtPlaces cX8_heardAtPlaces 3 (some .int) : Cond) ∈ gW := gW_in (List.mem_append_right _ (List.mem_append_right _ (List.mem_append_left _ (List.mem_of_getElem? (l := tables_1_3) (i := 121) (rfl))))) rfl
set_option maxRecDepth 20000 in
theorem u_ml_L_90 : (.methodLink RL 90 yX9_cut : Cond) ∈ gW := gW_in (List.mem_append_right _ (List.mem_append_right _ (List.mem_append_left _ (List.mem_of_getElem? (l := tables_1_3) (i := 122) (by decide +kernel))))) rfl
set_option maxRecDepth 20000 in
theorem u_im_X9_cut : (.instanceMethod yX9_cut : Cond) ∈ gW := gW_in (List.mem_append_right _ (List.mem_append_right _ (List.mem_append_left _ (List.mem_of_getElem? (l := tables_1_3) (i := 123) (by decide +kernel))))) rfl
set_option maxRecDepth 20000 in
theorem u_se_X9_cut : (.selects RX9 yX9_cut yX9_cut : Cond) ∈ gW := gW_in (List.mem_append_right _ (List.mem_append_right _ (List.mem_append_left _ (List.mem_of_getElem? (l := tables_1_3) (i := 124) (by decide +kernel))))) rfl
set_option maxRecDepth 20000 in
theorem u_co_X9_cut : (.code yX9_cut cX9_cut 5 (some .int) : Cond) ∈ gW := gW_in (List.mem_append_right _ (List.mem_append_right _ (List.mem_append_left _ (List.mem_of_getElem? (l := tables_1_3) (i := 125) (rfl))))) rfl
set_option maxRecDepth 20000 in
theorem u_ml_X9_224 : (.methodLink RX9 224 yJ6_bitCount_0f7a4 : Cond) ∈ gW := gW_in (List.mem_append_right _ (List.mem_append_right _ (List.mem_append_left _ (List.mem_of_getElem? (l := tables_1_3) (i := 126) (by decide +kernel))))) rfl
set_option maxRecDepth 20000 in
theorem u_ml_L_94 : (.methodLink RL 94 yX9_meet : Cond) ∈ gW := gW_in (List.mem_append_right _ (List.mem_append_right _ (List.mem_append_left _ (List.mem_of_getElem? (l := tables_1_3) (i := 127) (by decide +kernel))))) rfl
set_option maxRecDepth 20000 in
theorem u_im_X9_meet : (.instanceMethod yX9_meet : Cond) ∈ gW := gW_in (List.mem_append_right _ (List.mem_append_right _ (List.mem_append_left _ (List.mem_of_getElem? (l := tables_1_3) (i := 128) (by decide +kernel))))) rfl
set_option maxRecDepth 20000 in
theorem u_se_X9_meet : (.selects RX9 yX9_meet yX9_meet : Cond) ∈ gW := gW_in (List.mem_append_right _ (List.mem_append_right _ (List.mem_append_left _ (List.mem_of_getElem? (l := tables_1_3) (i := 129) (by decide +kernel))))) rfl
set_option maxRecDepth 20000 in
theorem u_co_X9_meet : (.code yX9_meet cX9_meet 4 (some .int) : Cond) ∈ gW := gW_in (List.mem_append_right _ (List.mem_append_right _ (List.mem_append_left _ (List.mem_of_getElem? (l := tables_1_3) (i := 130) (rfl))))) rfl
set_option maxRecDepth 20000 in
theorem u_ml_X9_229 : (.methodLink RX9 229 yX7_meetingHour : Cond) ∈ gW := gW_in (List.mem_append_right _ (List.mem_append_right _ (List.mem_append_left _ (List.mem_of_getElem? (l := tables_1_3) (i := 131) (by decide +kernel))))) rfl
set_option maxRecDepth 20000 in
theorem u_im_X7_meetingHour : (.instanceMethod yX7_meetingHour : Cond) ∈ gW := gW_in (List.mem_append_right _ (List.mem_append_right _ (List.mem_append_left _ (List.mem_of_getElem? (l := tables_1_3) (i := 132) (by decide +kernel))))) rfl
set_option maxRecDepth 20000 in
theorem u_se_X7_meetingHour : (.selects RX7 yX7_meetingHour yX7_meetingHour : Cond) ∈ gW := gW_in (List.mem_append_right _ (List.mem_append_right _ (List.mem_append_left _ (List.mem_of_getElem? (l := tables_1_3) (i := 133) (by decide +kernel))))) rfl
set_option maxRecDepth 20000 in
theorem u_co_X7_meetingHour : (.code yX7_meetingHour cX7_meetingHour 9 (some .int) : Cond) ∈ gW := gW_in (List.mem_append_right _ (List.mem_append_right _ (List.mem_append_left _ (List.mem_of_getElem? (l := tables_1_3) (i := 134) (rfl))))) rfl
set_option maxRecDepth 20000 in
theorem u_ml_X7_63 : (.methodLink RX7 63 yJ13_numberOfTrailingZeros_95d88 : Cond) ∈ gW := gW_in (List.mem_append_right _ (List.mem_append_right _ (List.mem_append_left _ (List.mem_of_getElem? (l := tables_1_3) (i := 135) (by decide +kernel))))) rfl
set_option maxRecDepth 20000 in
theorem u_st_J13_numberOfTrailingZeros_95d88 : (.static yJ13_numberOfTrailingZeros_95d88 : Cond) ∈ gW := gW_in (List.mem_append_right _ (List.mem_append_right _ (List.mem_append_left _ (List.mem_of_getElem? (l := tables_1_3) (i := 136) (by decide +kernel))))) rfl
set_option maxRecDepth 20000 in
theorem u_co_J13_numberOfTrailingZeros_95d88 : (.code yJ13_numberOfTrailingZeros_95d88 cJ13_numberOfTrailingZeros_95d88 3 (some .int) : Cond) ∈ gW := gW_in (List.mem_append_right _ (List.mem_append_right _ (List.mem_append_left _ (List.mem_of_getElem? (l := tables_1_3) (i := 137) (rfl))))) rfl
set_option maxRecDepth 20000 in
theorem u_ml_J13_311 : (.methodLink RJ13 311 yJ6_numberOfTrailingZeros_0f7a4 : Cond) ∈ gW := gW_in (List.mem_append_right _ (List.mem_append_right _ (List.mem_append_left _ (List.mem_of_getElem? (l := tables_1_3) (i := 138) (by decide +kernel))))) rfl
set_option maxRecDepth 20000 in
theorem u_st_J6_numberOfTrailingZeros_0f7a4 : (.static yJ6_numberOfTrailingZeros_0f7a4 : Cond) ∈ gW := gW_in (List.mem_append_right _ (List.mem_append_right _ (List.mem_append_left _ (List.mem_of_getElem? (l := tables_1_3) (i := 139) (by decide +kernel))))) rfl
set_option maxRecDepth 20000 in
theorem u_co_J6_numberOfTrailingZeros_0f7a4 : (.code yJ6_numberOfTrailingZeros_0f7a4 cJ6_numberOfTrailingZeros_0f7a4 2 (some .int) : Cond) ∈ gW := gW_in (List.mem_append_right _ (List.mem_append_right _ (List.mem_append_left _ (List.mem_of_getElem? (l := tables_1_3) (i := 140) (rfl))))) rfl
set_option maxRecDepth 20000 in
theorem u_k_J6_264 : (.constant RJ6 264 (65536) : Cond) ∈ gW := gW_in (List.mem_append_right _ (List.mem_append_right _ (List.mem_append_left _ (List.mem_of_getElem? (l := tables_1_3) (i := 141) (by decide +kernel))))) rfl
set_option maxRecDepth 20000 in
theorem u_ml_L_98 : (.methodLink RL 98 yX9_longest : Cond) ∈ gW := gW_in (List.mem_append_right _ (List.mem_append_right _ (List.mem_append_left _ (List.mem_of_getElem? (l := tables_1_3) (i := 142) (by decide +kernel))))) rfl
set_option maxRecDepth 20000 in
theorem u_im_X9_longest : (.instanceMethod yX9_longest : Cond) ∈ gW := gW_in (List.mem_append_right _ (List.mem_append_right _ (List.mem_append_left _ (List.mem_of_getElem? (l := tables_1_3) (i := 143) (by decide +kernel))))) rfl
set_option maxRecDepth 20000 in
theorem u_se_X9_longest : (.selects RX9 yX9_longest yX9_longest : Cond) ∈ gW := gW_in (List.mem_append_right _ (List.mem_append_right _ (List.mem_append_left _ (List.mem_of_getElem? (l := tables_1_3) (i := 144) (by decide +kernel))))) rfl
set_option maxRecDepth 20000 in
theorem u_co_X9_longest : (.code yX9_longest cX9_longest 2 (some .int) : Cond) ∈ gW := gW_in (List.mem_append_right _ (List.mem_append_right _ (List.mem_append_left _ (List.mem_of_getElem? (l := tables_1_3) (i := 145) (rfl))))) rfl
set_option maxRecDepth 20000 in
theorem u_ml_X9_232 : (.methodLink RX9 232 yX6_follow : Cond) ∈ gW := gW_in (List.mem_append_right _ (List.mem_append_right _ (List.mem_append_left _ (List.mem_of_getElem? (l := tables_1_3) (i := 146) (by decide +kernel))))) rfl
set_option maxRecDepth 20000 in
theorem u_im_X6_follow : (.instanceMethod yX6_follow : Cond) ∈ gW := gW_in (List.mem_append_right _ (List.mem_append_right _ (List.mem_append_left _ (List.mem_of_getElem? (l := tables_1_3) (i := 147) (by decide +kernel))))) rfl
set_option maxRecDepth 20000 in
theorem u_se_X6_follow : (.selects RX6 yX6_follow yX6_follow : Cond) ∈ gW := gW_in (List.mem_append_right _ (List.mem_append_right _ (List.mem_append_left _ (List.mem_of_getElem? (l := tables_1_3) (i := 148) (by decide +kernel))))) rfl
set_option maxRecDepth 20000 in
theorem u_co_X6_follow : (.code yX6_follow cX6_follow 7 none : Cond) ∈ gW := gW_in (List.mem_append_right _ (List.mem_append_right _ (List.mem_append_left _ (List.mem_of_getElem? (l := tables_1_3) (i := 149) (rfl))))) rfl
set_option maxRecDepth 20000 in
theorem u_ml_X6_18 : (.methodLink RX6 18 yJ7_fill_53178 : Cond) ∈ gW := gW_in (List.mem_append_right _ (List.mem_append_right _ (List.mem_append_left _ (List.mem_of_getElem? (l := tables_1_3) (i := 150) (by decide +kernel))))) rfl
set_option maxRecDepth 20000 in
theorem u_ml_X6_46 : (.methodLink RX6 46 yJ9_max_7cf53 : Cond) ∈ gW := gW_in (List.mem_append_right _ (List.mem_append_right _ (List.mem_append_left _ (List.mem_of_getElem? (l := tables_1_3) (i := 152) (by decide +kernel))))) rfl
set_option maxRecDepth 20000 in
theorem u_st_J9_max_7cf53 : (.static yJ9_max_7cf53 : Cond) ∈ gW := gW_in (List.mem_append_right _ (List.mem_append_right _ (List.mem_append_left _ (List.mem_of_getElem? (l := tables_1_3) (i := 153) (by decide +kernel))))) rfl
set_option maxRecDepth 20000 in
theorem u_co_J9_max_7cf53 : (.code yJ9_max_7cf53 cJ9_max_7cf53 2 (some .int) : Cond) ∈ gW := gW_in (List.mem_append_right _ (List.mem_append_right _ (List.mem_append_left _ (List.mem_of_getElem? (l := tables_1_3) (i := 154) (rfl))))) rfl
set_option maxRecDepth 20000 in
theorem u_ml_L_102 : (.methodLink RL 102 yX9_ways : Cond) ∈ gW := gW_in (List.mem_append_right _ (List.mem_append_right _ (List.mem_append_left _ (List.mem_of_getElem? (l := tables_1_3) (i := 155) (by decide +kernel))))) rfl
set_option maxRecDepth 20000 in
theorem u_im_X9_ways : (.instanceMethod yX9_ways : Cond) ∈ gW := gW_in (List.mem_append_right _ (List.mem_append_right _ (List.mem_append_left _ (List.mem_of_getElem? (l := tables_1_3) (i := 156) (by decide +kernel))))) rfl
set_option maxRecDepth 20000 in
theorem u_se_X9_ways : (.selects RX9 yX9_ways yX9_ways : Cond) ∈ gW := gW_in (List.mem_append_right _ (List.mem_append_right _ (List.mem_append_left _ (List.mem_of_getElem? (l := tables_1_3) (i := 157) (by decide +kernel))))) rfl
set_option maxRecDepth 20000 in
theorem u_co_X9_ways : (.code yX9_ways cX9_ways 2 (some .int) : Cond) ∈ gW := gW_in (List.mem_append_right _ (List.mem_append_right _ (List.mem_append_left _ (List.mem_of_getElem? (l := tables_1_3) (i := 158) (rfl))))) rfl
set_option maxRecDepth 20000 in
theorem u_ml_L_106 : (.methodLink RL 106 yX9_firstBlocked : Cond) ∈ gW := gW_in (List.mem_append_right _ (List.mem_append_right _ (List.mem_append_left _ (List.mem_of_getElem? (l := tables_1_3) (i := 159) (by decide +kernel))))) rfl
set_option maxRecDepth 20000 in
theorem u_im_X9_firstBlocked : (.instanceMethod yX9_firstBlocked : Cond) ∈ gW := gW_in (List.mem_append_right _ (List.mem_append_right _ (List.mem_append_left _ (List.mem_of_getElem? (l := tables_1_3) (i := 160) (by decide +kernel))))) rfl
set_option maxRecDepth 20000 in
theorem u_se_X9_firstBlocked : (.selects RX9 yX9_firstBlocked yX9_firstBlocked : Cond) ∈ gW := gW_in (List.mem_append_right _ (List.mem_append_right _ (List.mem_append_left _ (List.mem_of_getElem? (l := tables_1_3) (i := 161) (by decide +kernel))))) rfl
set_option maxRecDepth 20000 in
theorem u_co_X9_firstBlocked : (.code yX9_firstBlocked cX9_firstBlocked 4 (some .int) : Cond) ∈ gW := gW_in (List.mem_append_right _ (List.mem_append_right _ (List.mem_append_left _ (List.mem_of_getElem? (l := tables_1_3) (i := 162) (rfl))))) rfl
set_option maxRecDepth 20000 in
theorem u_ml_X9_243 : (.methodLink RX9 243 yJ6_numberOfTrailingZeros_0f7a4 : Cond) ∈ gW := gW_in (List.mem_append_right _ (List.mem_append_right _ (List.mem_append_left _ (List.mem_of_getElem? (l := tables_1_3) (i := 163) (by decide +kernel))))) rfl
set_option maxRecDepth 20000 in
theorem u_ml_L_110 : (.methodLink RL 110 yX9_share : Cond) ∈ gW := gW_in (List.mem_append_right _ (List.mem_append_right _ (List.mem_append_left _ (List.mem_of_getElem? (l := tables_1_3) (i := 164) (by decide +kernel))))) rfl
set_option maxRecDepth 20000 in
theorem u_im_X9_share : (.instanceMethod yX9_share : Cond) ∈ gW := gW_in (List.mem_append_right _ (List.mem_append_right _ (List.mem_append_left _ (List.mem_of_getElem? (l := tables_1_3) (i := 165) (by decide +kernel))))) rfl
set_option maxRecDepth 20000 in
theorem u_se_X9_share : (.selects RX9 yX9_share yX9_share : Cond) ∈ gW := gW_in (List.mem_append_right _ (List.mem_append_right _ (List.mem_append_left _ (List.mem_of_getElem? (l := tables_1_3) (i := 166) (by decide +kernel))))) rfl
set_option maxRecDepth 20000 in
theorem u_co_X9_share : (.code yX9_share cX9_share 4 (some .int) : Cond) ∈ gW := gW_in (List.mem_append_right _ (List.mem_append_right _ (List.mem_append_left _ (List.mem_of_getElem? (l := tables_1_3) (i := 167) (rfl))))) rfl
set_option maxRecDepth 20000 in
theorem u_ml_L_114 : (.methodLink RL 114 yX9_frost : Cond) ∈ gW := gW_in (List.mem_append_right _ (List.mem_append_right _ (List.mem_append_left _ (List.mem_of_getElem? (l := tables_1_3) (i := 168) (by decide +kernel))))) rfl
set_option maxRecDepth 20000 in
theorem u_im_X9_frost : (.instanceMethod yX9_frost : Cond) ∈ gW := gW_in (List.mem_append_right _ (List.mem_append_right _ (List.mem_append_left _ (List.mem_of_getElem? (l := tables_1_3) (i := 169) (by decide +kernel))))) rfl
set_option maxRecDepth 20000 in
theorem u_se_X9_frost : (.selects RX9 yX9_frost yX9_frost : Cond) ∈ gW := gW_in (List.mem_append_right _ (List.mem_append_right _ (List.mem_append_left _ (List.mem_of_getElem? (l := tables_1_3) (i := 170) (by decide +kernel))))) rfl
set_option maxRecDepth 20000 in
theorem u_co_X9_frost : (.code yX9_frost cX9_frost 6 (some .int) : Cond) ∈ gW := gW_in (List.mem_append_right _ (List.mem_append_right _ (List.mem_append_left _ (List.mem_of_getElem? (l := tables_1_3) (i := 171) (rfl))))) rfl
set_option maxRecDepth 20000 in
theorem u_kl_X9_246 : (.constantLong RX9 246 (1000000000) : Cond) ∈ gW := gW_in (List.mem_append_right _ (List.mem_append_right _ (List.mem_append_left _ (List.mem_of_getElem? (l := tables_1_3) (i := 172) (by decide +kernel))))) rfl
set_option maxRecDepth 20000 in
theorem u_kl_X9_248 : (.constantLong RX9 248 (100) : Cond) ∈ gW := gW_in (List.mem_append_right _ (List.mem_append_right _ (List.mem_append_left _ (List.mem_of_getElem? (l := tables_1_3) (i := 173) (by decide +kernel))))) rfl
set_option maxRecDepth 20000 in
theorem u_ml_L_118 : (.methodLink RL 118 yX9_drip : Cond) ∈ gW := gW_in (List.mem_append_right _ (List.mem_append_right _ (List.mem_append_left _ (List.mem_of_getElem? (l := tables_1_3) (i := 174) (by decide +kernel))))) rfl
set_option maxRecDepth 20000 in
theorem u_im_X9_drip : (.instanceMethod yX9_drip : Cond) ∈ gW := gW_in (List.mem_append_right _ (List.mem_append_right _ (List.mem_append_left _ (List.mem_of_getElem? (l := tables_1_3) (i := 175) (by decide +kernel))))) rfl
set_option maxRecDepth 20000 in
theorem u_se_X9_drip : (.selects RX9 yX9_drip yX9_drip : Cond) ∈ gW := gW_in (List.mem_append_right _ (List.mem_append_right _ (List.mem_append_left _ (List.mem_of_getElem? (l := tables_1_3) (i := 176) (by decide +kernel))))) rfl
set_option maxRecDepth 20000 in
theorem u_co_X9_drip : (.code yX9_drip cX9_drip 4 (some .int) : Cond) ∈ gW := gW_in (List.mem_append_right _ (List.mem_append_right _ (List.mem_append_left _ (List.mem_of_getElem? (l := tables_1_3) (i := 177) (rfl))))) rfl
set_option maxRecDepth 20000 in
theorem u_ml_X9_250 : (.methodLink RX9 250 yX2_addDrip : Cond) ∈ gW := gW_in (List.mem_append_right _ (List.mem_append_right _ (List.mem_append_left _ (List.mem_of_getElem? (l := tables_1_3) (i := 178) (by decide +kernel))))) rfl
set_option maxRecDepth 20000 in
theorem u_im_X2_addDrip : (.instanceMethod yX2_addDrip : Cond) ∈ gW := gW_in (List.mem_append_right _ (List.mem_append_right _ (List.mem_append_left _ (List.mem_of_getElem? (l := tables_1_3) (i := 179) (by decide +kernel))))) rfl
set_option maxRecDepth 20000 in
theorem u_se_X2_addDrip : (.selects RX2 yX2_addDrip yX2_addDrip : Cond) ∈ gW := gW_in (List.mem_append_right _ (List.mem_append_right _ (List.mem_append_left _ (List.mem_of_getElem? (l := tables_1_3) (i := 180) (by decide +kernel))))) rfl
set_option maxRecDepth 20000 in
theorem u_co_X2_addDrip : (.code yX2_addDrip cX2_addDrip 4 (some .boolean) : Cond) ∈ gW := gW_in (List.mem_append_right _ (List.mem_append_right _ (List.mem_append_left _ (List.mem_of_getElem? (l := tables_1_3) (i := 181) (rfl))))) rfl
set_option maxRecDepth 20000 in
theorem u_ml_L_122 : (.methodLink RL 122 yX9_cracked : Cond) ∈ gW := gW_in (List.mem_append_right _ (List.mem_append_right _ (List.mem_append_left _ (List.mem_of_getElem? (l := tables_1_3) (i := 182) (by decide +kernel))))) rfl
set_option maxRecDepth 20000 in
theorem u_im_X9_cracked : (.instanceMethod yX9_cracked : Cond) ∈ gW := gW_in (List.mem_append_right _ (List.mem_append_right _ (List.mem_append_left _ (List.mem_of_getElem? (l := tables_1_3) (i := 183) (by decide +kernel))))) rfl
set_option maxRecDepth 20000 in
theorem u_se_X9_cracked : (.selects RX9 yX9_cracked yX9_cracked : Cond) ∈ gW := gW_in (List.mem_append_right _ (List.mem_append_right _ (List.mem_append_left _ (List.mem_of_getElem? (l := tables_1_3) (i := 184) (by decide +kernel))))) rfl
set_option maxRecDepth 20000 in
theorem u_co_X9_cracked : (.code yX9_cracked cX9_cracked 2 (some .int) : Cond) ∈ gW := gW_in (List.mem_append_right _ (List.mem_append_right _ (List.mem_append_left _ (List.mem_of_getElem? (l := tables_1_3) (i := 185) (rfl))))) rfl
set_option maxRecDepth 20000 in
theorem u_ml_X9_254 : (.methodLink RX9 254 yX7_fittingCracks : Cond) ∈ gW := gW_in (List.mem_append_right _ (List.mem_append_right _ (List.mem_append_left _ (List.mem_of_getElem? (l := tables_1_3) (i := 186) (by decide +kernel))))) rfl
set_option maxRecDepth 20000 in
theorem u_im_X7_fittingCracks : (.instanceMethod yX7_fittingCracks : Cond) ∈ gW := gW_in (List.mem_append_right _ (List.mem_append_right _ (List.mem_append_left _ (List.mem_of_getElem? (l := tables_1_3) (i := 187) (by decide +kernel))))) rfl
set_option maxRecDepth 20000 in
theorem u_se_X7_fittingCracks : (.selects RX7 yX7_fittingCracks yX7_fittingCracks : Cond) ∈ gW := gW_in (List.mem_append_right _ (List.mem_append_right _ (List.mem_append_left _ (List.mem_of_getElem? (l := tables_1_3) (i := 188) (by decide +kernel))))) rfl
set_option maxRecDepth 20000 in
theorem u_co_X7_fittingCracks : (.code yX7_fittingCracks cX7_fittingCracks 7 (some .int) : Cond) ∈ gW := gW_in (List.mem_append_right _ (List.mem_append_right _ (List.mem_append_left _ (List.mem_of_getElem? (l := tables_1_3) (i := 189) (rfl))))) rfl
set_option maxRecDepth 20000 in
theorem u_ml_X7_69 : (.methodLink RX7 69 yX7_fits : Cond) ∈ gW := gW_in (List.mem_append_right _ (List.mem_append_right _ (List.mem_append_left _ (List.mem_of_getElem? (l := tables_1_3) (i := 190) (by decide +kernel))))) rfl
set_option maxRecDepth 20000 in
theorem u_im_X7_fits : (.instanceMethod yX7_fits : Cond) ∈ gW := gW_in (List.mem_append_right _ (List.mem_append_right _ (List.mem_append_left _ (List.mem_of_getElem? (l := tables_1_3) (i := 192) (by decide +kernel))))) rfl
set_option maxRecDepth 20000 in
theorem u_co_X7_fits : (.code yX7_fits cX7_fits 7 (some .boolean) : Cond) ∈ gW := gW_in (List.mem_append_right _ (List.mem_append_right _ (List.mem_append_left _ (List.mem_of_getElem? (l := tables_1_3) (i := 193) (rfl))))) rfl
set_option maxRecDepth 20000 in
theorem u_ml_X7_73 : (.methodLink RX7 73 yX7_crackAlone : Cond) ∈ gW := gW_in (List.mem_append_right _ (List.mem_append_right _ (List.mem_append_left _ (List.mem_of_getElem? (l := tables_1_3) (i := 194) (by decide +kernel))))) rfl
set_option maxRecDepth 20000 in
theorem u_im_X7_crackAlone : (.instanceMethod yX7_crackAlone : Cond) ∈ gW := gW_in (List.mem_append_right _ (List.mem_append_right _ (List.mem_append_left _ (List.mem_of_getElem? (l := tables_1_3) (i := 196) (by decide +kernel))))) rfl
set_option maxRecDepth 20000 in
theorem u_co_X7_crackAlone : (.code yX7_crackAlone cX7_crackAlone 3 none : Cond) ∈ gW := gW_in (List.mem_append_right _ (List.mem_append_right _ (List.mem_append_left _ (List.mem_of_getElem? (l := tables_1_3) (i := 197) (rfl))))) rfl
set_option maxRecDepth 20000 in
theorem u_ml_X7_94 : (.methodLink RX7 94 yJ7_fill_53178 : Cond) ∈ gW := gW_in (List.mem_append_right _ (List.mem_append_right _ (List.mem_append_left _ (List.mem_of_getElem? (l := tables_1_3) (i := 198) (by decide +kernel))))) rfl
set_option maxRecDepth 20000 in
theorem u_ml_X7_88 : (.methodLink RX7 88 yX8_firstHour : Cond) ∈ gW := gW_in (List.mem_append_right _ (List.mem_append_right _ (List.mem_append_left _ (List.mem_of_getElem? (l := tables_1_3) (i := 199) (by decide +kernel))))) rfl
set_option maxRecDepth 20000 in
theorem u_im_X8_firstHour : (.instanceMethod yX8_firstHour : Cond) ∈ gW := gW_in (List.mem_append_right _ (List.mem_append_right _ (List.mem_append_left _ (List.mem_of_getElem? (l := tables_1_3) (i := 200) (by decide +kernel))))) rfl
set_option maxRecDepth 20000 in
theorem u_se_X8_firstHour : (.selects RX8 yX8_firstHour yX8_firstHour : Cond) ∈ gW := gW_in (List.mem_append_right _ (List.mem_append_right _ (List.mem_append_left _ (List.mem_of_getElem? (l := tables_1_3) (i := 201) (by decide +kernel))))) rfl
set_option maxRecDepth 20000 in
theorem u_co_X8_firstHour : (.code yX8_firstHour cX8_firstHour 4 (some .int) : Cond) ∈ gW := gW_in (List.mem_append_right _ (List.mem_append_right _ (List.mem_append_left _ (List.mem_of_getElem? (l := tables_1_3) (i := 202) (rfl))))) rfl
set_option maxRecDepth 20000 in
theorem u_ml_X8_56 : (.methodLink RX8 56 yJ13_numberOfTrailingZeros_95d88 : Cond) ∈ gW := gW_in (List.mem_append_right _ (List.mem_append_right _ (List.mem_append_left _ (List.mem_of_getElem? (l := tables_1_3) (i := 203) (by decide +kernel))))) rfl
set_option maxRecDepth 20000 in
theorem u_ml_L_126 : (.methodLink RL 126 yX9_listen : Cond) ∈ gW := gW_in (List.mem_append_right _ (List.mem_append_right _ (List.mem_append_left _ (List.mem_of_getElem? (l := tables_1_3) (i := 204) (by decide +kernel))))) rfl
set_option maxRecDepth 20000 in
theorem u_im_X9_listen : (.instanceMethod yX9_listen : Cond) ∈ gW := gW_in (List.mem_append_right _ (List.mem_append_right _ (List.mem_append_left _ (List.mem_of_getElem? (l := tables_1_3) (i := 205) (by decide +kernel))))) rfl
set_option maxRecDepth 20000 in
theorem u_se_X9_listen : (.selects RX9 yX9_listen yX9_listen : Cond) ∈ gW := gW_in (List.mem_append_right _ (List.mem_append_right _ (List.mem_append_left _ (List.mem_of_getElem? (l := tables_1_3) (i := 206) (by decide +kernel))))) rfl
set_option maxRecDepth 20000 in
theorem u_co_X9_listen : (.code yX9_listen cX9_listen 3 (some .int) : Cond) ∈ gW := gW_in (List.mem_append_right _ (List.mem_append_right _ (List.mem_append_left _ (List.mem_of_getElem? (l := tables_1_3) (i := 207) (rfl))))) rfl
set_option maxRecDepth 20000 in
theorem u_ml_X9_258 : (.methodLink RX9 258 yX7_bestListener : Cond) ∈ gW := gW_in (List.mem_append_right _ (List.mem_append_right _ (List.mem_append_left _ (List.mem_of_getElem? (l := tables_1_3) (i := 208) (by decide +kernel))))) rfl
set_option maxRecDepth 20000 in
theorem u_im_X7_bestListener : (.instanceMethod yX7_bestListener : Cond) ∈ gW := gW_in (List.mem_append_right _ (List.mem_append_right _ (List.mem_append_left _ (List.mem_of_getElem? (l := tables_1_3) (i := 209) (by decide +kernel))))) rfl
set_option maxRecDepth 20000 in
theorem u_se_X7_bestListener : (.selects RX7 yX7_bestListener yX7_bestListener : Cond) ∈ gW := gW_in (List.mem_append_right _ (List.mem_append_right _ (List.mem_append_left _ (List.mem_of_getElem? (l := tables_1_3) (i := 210) (by decide +kernel))))) rfl
set_option maxRecDepth 20000 in
theorem u_co_X7_bestListener : (.code yX7_bestListener cX7_bestListener 9 (some .int) : Cond) ∈ gW := gW_in (List.mem_append_right _ (List.mem_append_right _ (List.mem_append_left _ (List.mem_of_getElem? (l := tables_1_3) (i := 211) (rfl))))) rfl
set_option maxRecDepth 20000 in
theorem u_ml_X7_104 : (.methodLink RX7 104 yX7_noteHours : Cond) ∈ gW := gW_in (List.mem_append_right _ (List.mem_append_right _ (List.mem_append_left _ (List.mem_of_getElem? (l := tables_1_3) (i := 213) (by decide +kernel))))) rfl
set_option maxRecDepth 20000 in
theorem u_im_X7_noteHours : (.instanceMethod yX7_noteHours : Cond) ∈ gW := gW_in (List.mem_append_right _ (List.mem_append_right _ (List.mem_append_left _ (List.mem_of_getElem? (l := tables_1_3) (i := 215) (by decide +kernel))))) rfl
set_option maxRecDepth 20000 in
theorem u_co_X7_noteHours : (.code yX7_noteHours cX7_noteHours 6 none : Cond) ∈ gW := gW_in (List.mem_append_right _ (List.mem_append_right _ (List.mem_append_left _ (List.mem_of_getElem? (l := tables_1_3) (i := 216) (rfl))))) rfl
set_option maxRecDepth 20000 in
theorem u_ml_X7_108 : (.methodLink RX7 108 yX7_greatestPart : Cond) ∈ gW := gW_in (List.mem_append_right _ (List.mem_append_right _ (List.mem_append_left _ (List.mem_of_getElem? (l := tables_1_3) (i := 217) (by decide +kernel))))) rfl
set_option maxRecDepth 20000 in
theorem u_im_X7_greatestPart : (.instanceMethod yX7_greatestPart : Cond) ∈ gW := gW_in (List.mem_append_right _ (List.mem_append_right _ (List.mem_append_left _ (List.mem_of_getElem? (l := tables_1_3) (i := 219) (by decide +kernel))))) rfl
set_option maxRecDepth 20000 in
theorem u_co_X7_greatestPart : (.code yX7_greatestPart cX7_greatestPart 7 (some .int) : Cond) ∈ gW := gW_in (List.mem_append_right _ (List.mem_append_right _ (List.mem_append_left _ (List.mem_of_getElem? (l := tables_1_3) (i := 220) (rfl))))) rfl
set_option maxRecDepth 20000 in
theorem u_ml_X7_112 : (.methodLink RX7 112 yJ9_max_7cf53 : Cond) ∈ gW := gW_in (List.mem_append_right _ (List.mem_append_right _ (List.mem_append_left _ (List.mem_of_getElem? (l := tables_1_3) (i := 221) (by decide +kernel))))) rfl
set_option maxRecDepth 20000 in
theorem u_ml_L_130 : (.methodLink RL 130 yX9_write : Cond) ∈ gW := gW_in (List.mem_append_right _ (List.mem_append_right _ (List.mem_append_left _ (List.mem_of_getElem? (l := tables_1_3) (i := 222) (by decide +kernel))))) rfl
set_option maxRecDepth 20000 in
theorem u_im_X9_write : (.instanceMethod yX9_write : Cond) ∈ gW := gW_in (List.mem_append_right _ (List.mem_append_right _ (List.mem_append_left _ (List.mem_of_getElem? (l := tables_1_3) (i := 223) (by decide +kernel))))) rfl
set_option maxRecDepth 20000 in
theorem u_se_X9_write : (.selects RX9 yX9_write yX9_write : Cond) ∈ gW := gW_in (List.mem_append_right _ (List.mem_append_right _ (List.mem_append_left _ (List.mem_of_getElem? (l := tables_1_3) (i := 224) (by decide +kernel))))) rfl
set_option maxRecDepth 20000 in
theorem u_co_X9_write : (.code yX9_write cX9_write 3 (some .int) : Cond) ∈ gW := gW_in (List.mem_append_right _ (List.mem_append_right _ (List.mem_append_left _ (List.mem_of_getElem? (l := tables_1_3) (i := 225) (rfl))))) rfl
set_option maxRecDepth 20000 in
theorem u_ml_X9_262 : (.methodLink RX9 262 yX2_addEntry : Cond) ∈ gW := gW_in (List.mem_append_right _ (List.mem_append_right _ (List.mem_append_left _ (List.mem_of_getElem? (l := tables_1_3) (i := 226) (by decide +kernel))))) rfl
set_option maxRecDepth 20000 in
theorem u_im_X2_addEntry : (.instanceMethod yX2_addEntry : Cond) ∈ gW := gW_in (List.mem_append_right _ (List.mem_append_right _ (List.mem_append_left _ (List.mem_of_getElem? (l := tables_1_3) (i := 227) (by decide +kernel))))) rfl
set_option maxRecDepth 20000 in
theorem u_se_X2_addEntry : (.selects RX2 yX2_addEntry yX2_addEntry : Cond) ∈ gW := gW_in (List.mem_append_right _ (List.mem_append_right _ (List.mem_append_left _ (List.mem_of_getElem? (l := tables_1_3) (i := 228) (by decide +kernel))))) rfl
set_option maxRecDepth 20000 in
theorem u_co_X2_addEntry : (.code yX2_addEntry cX2_addEntry 3 (some .boolean) : Cond) ∈ gW := gW_in (List.mem_append_right _ (List.mem_append_right _ (List.mem_append_left _ (List.mem_of_getElem? (l := tables_1_3) (i := 229) (rfl))))) rfl
set_option maxRecDepth 20000 in
theorem u_ml_L_134 : (.methodLink RL 134 yX9_tear : Cond) ∈ gW := gW_in (List.mem_append_right _ (List.mem_append_right _ (List.mem_append_left _ (List.mem_of_getElem? (l := tables_1_3) (i := 230) (by decide +kernel))))) rfl
set_option maxRecDepth 20000 in
theorem u_im_X9_tear : (.instanceMethod yX9_tear : Cond) ∈ gW := gW_in (List.mem_append_right _ (List.mem_append_right _ (List.mem_append_left _ (List.mem_of_getElem? (l := tables_1_3) (i := 231) (by decide +kernel))))) rfl
set_option maxRecDepth 20000 in
theorem u_se_X9_tear : (.selects RX9 yX9_tear yX9_tear : Cond) ∈ gW := gW_in (List.mem_append_right _ (List.mem_append_right _ (List.mem_append_left _ (List.mem_of_getElem? (l := tables_1_3) (i := 232) (by decide +kernel))))) rfl
set_option maxRecDepth 20000 in
theorem u_co_X9_tear : (.code yX9_tear cX9_tear 2 (some .int) : Cond) ∈ gW := gW_in (List.mem_append_right _ (List.mem_append_right _ (List.mem_append_left _ (List.mem_of_getElem? (l := tables_1_3) (i := 233) (rfl))))) rfl
set_option maxRecDepth 20000 in
theorem u_ml_L_138 : (.methodLink RL 138 yX9_judge : Cond) ∈ gW := gW_in (List.mem_append_right _ (List.mem_append_right _ (List.mem_append_left _ (List.mem_of_getElem? (l := tables_1_3) (i := 234) (by decide +kernel))))) rfl
set_option maxRecDepth 20000 in
theorem u_im_X9_judge : (.instanceMethod yX9_judge : Cond) ∈ gW := gW_in (List.mem_append_right _ (List.mem_append_right _ (List.mem_append_left _ (List.mem_of_getElem? (l := tables_1_3) (i := 235) (by decide +kernel))))) rfl
set_option maxRecDepth 20000 in
theorem u_se_X9_judge : (.selects RX9 yX9_judge yX9_judge : Cond) ∈ gW := gW_in (List.mem_append_right _ (List.mem_append_right _ (List.mem_append_left _ (List.mem_of_getElem? (l := tables_1_3) (i := 236) (by decide +kernel))))) rfl
set_option maxRecDepth 20000 in
theorem u_co_X9_judge : (.code yX9_judge cX9_judge 1 (some .int) : Cond) ∈ gW := gW_in (List.mem_append_right _ (List.mem_append_right _ (List.mem_append_left _ (List.mem_of_getElem? (l := tables_1_3) (i := 237) (rfl))))) rfl
set_option maxRecDepth 20000 in
theorem u_ml_X9_265 : (.methodLink RX9 265 yX2_firstWrong : Cond) ∈ gW := gW_in (List.mem_append_right _ (List.mem_append_right _ (List.mem_append_left _ (List.mem_of_getElem? (l := tables_1_3) (i := 238) (by decide +kernel))))) rfl
set_option maxRecDepth 20000 in
theorem u_im_X2_firstWrong : (.instanceMethod yX2_firstWrong : Cond) ∈ gW := gW_in (List.mem_append_right _ (List.mem_append_right _ (List.mem_append_left _ (List.mem_of_getElem? (l := tables_1_3) (i := 239) (by decide +kernel))))) rfl
set_option maxRecDepth 20000 in
theorem u_se_X2_firstWrong : (.selects RX2 yX2_firstWrong yX2_firstWrong : Cond) ∈ gW := gW_in (List.mem_append_right _ (List.mem_append_right _ (List.mem_append_right _ (List.mem_append_left _ (List.mem_of_getElem? (l := tables_1_4) (i := 0) (by decide +kernel)))))) rfl
set_option maxRecDepth 20000 in
theorem u_co_X2_firstWrong : (.code yX2_firstWrong cX2_firstWrong 3 (some .int) : Cond) ∈ gW := gW_in (List.mem_append_right _ (List.mem_append_right _ (List.mem_append_right _ (List.mem_append_left _ (List.mem_of_getElem? (l := tables_1_4) (i := 1) (rfl)))))) rfl
set_option maxRecDepth 20000 in
theorem u_ml_L_142 : (.methodLink RL 142 yX9_seed : Cond) ∈ gW := gW_in (List.mem_append_right _ (List.mem_append_right _ (List.mem_append_right _ (List.mem_append_left _ (List.mem_of_getElem? (l := tables_1_4) (i := 2) (by decide +kernel)))))) rfl
set_option maxRecDepth 20000 in
theorem u_im_X9_seed : (.instanceMethod yX9_seed : Cond) ∈ gW := gW_in (List.mem_append_right _ (List.mem_append_right _ (List.mem_append_right _ (List.mem_append_left _ (List.mem_of_getElem? (l := tables_1_4) (i := 3) (by decide +kernel)))))) rfl
set_option maxRecDepth 20000 in
theorem u_se_X9_seed : (.selects RX9 yX9_seed yX9_seed : Cond) ∈ gW := gW_in (List.mem_append_right _ (List.mem_append_right _ (List.mem_append_right _ (List.mem_append_left _ (List.mem_of_getElem? (l := tables_1_4) (i := 4) (by decide +kernel)))))) rfl
set_option maxRecDepth 20000 in
theorem u_co_X9_seed : (.code yX9_seed cX9_seed 3 (some .int) : Cond) ∈ gW := gW_in (List.mem_append_right _ (List.mem_append_right _ (List.mem_append_right _ (List.mem_append_left _ (List.mem_of_getElem? (l := tables_1_4) (i := 5) (rfl)))))) rfl
set_option maxRecDepth 20000 in
theorem u_ml_L_146 : (.methodLink RL 146 yX9_keep : Cond) ∈ gW := gW_in (List.mem_append_right _ (List.mem_append_right _ (List.mem_append_right _ (List.mem_append_left _ (List.mem_of_getElem? (l := tables_1_4) (i := 6) (by decide +kernel)))))) rfl
set_option maxRecDepth 20000 in
theorem u_im_X9_keep : (.instanceMethod yX9_keep : Cond) ∈ gW := gW_in (List.mem_append_right _ (List.mem_append_right _ (List.mem_append_right _ (List.mem_append_left _ (List.mem_of_getElem? (l := tables_1_4) (i := 7) (by decide +kernel)))))) rfl
set_option maxRecDepth 20000 in
theorem u_se_X9_keep : (.selects RX9 yX9_keep yX9_keep : Cond) ∈ gW := gW_in (List.mem_append_right _ (List.mem_append_right _ (List.mem_append_right _ (List.mem_append_left _ (List.mem_of_getElem? (l := tables_1_4) (i := 8) (by decide +kernel)))))) rfl
set_option maxRecDepth 20000 in
theorem u_co_X9_keep : (.code yX9_keep cX9_keep 2 (some .int) : Cond) ∈ gW := gW_in (List.mem_append_right _ (List.mem_append_right _ (List.mem_append_right _ (List.mem_append_left _ (List.mem_of_getElem? (l := tables_1_4) (i := 9) (rfl)))))) rfl
set_option maxRecDepth 20000 in
theorem u_ml_L_150 : (.methodLink RL 150 yX9_goBack : Cond) ∈ gW := gW_in (List.mem_append_right _ (List.mem_append_right _ (List.mem_append_right _ (List.mem_append_left _ (List.mem_of_getElem? (l := tables_1_4) (i := 10) (by decide +kernel)))))) rfl
set_option maxRecDepth 20000 in
theorem u_im_X9_goBack : (.instanceMethod yX9_goBack : Cond) ∈ gW := gW_in (List.mem_append_right _ (List.mem_append_right _ (List.mem_append_right _ (List.mem_append_left _ (List.mem_of_getElem? (l := tables_1_4) (i := 11) (by decide +kernel)))))) rfl
set_option maxRecDepth 20000 in
theorem u_se_X9_goBack : (.selects RX9 yX9_goBack yX9_goBack : Cond) ∈ gW := gW_in (List.mem_append_right _ (List.mem_append_right _ (List.mem_append_right _ (List.mem_append_left _ (List.mem_of_getElem? (l := tables_1_4) (i := 12) (by decide +kernel)))))) rfl
set_option maxRecDepth 20000 in
theorem u_co_X9_goBack : (.code yX9_goBack cX9_goBack 2 (some .int) : Cond) ∈ gW := gW_in (List.mem_append_right _ (List.mem_append_right _ (List.mem_append_right _ (List.mem_append_left _ (List.mem_of_getElem? (l := tables_1_4) (i := 13) (rfl)))))) rfl
set_option maxRecDepth 20000 in
theorem u_cl_L_10 : (.classLink RL 10 RX10 : Cond) ∈ gW := gW_in (List.mem_append_right _ (List.mem_append_right _ (List.mem_append_right _ (List.mem_append_left _ (List.mem_of_getElem? (l := tables_1_4) (i := 14) (by decide +kernel)))))) rfl
set_option maxRecDepth 20000 in
theorem u_ins_X10 : (.instantiable RX10 38 : Cond) ∈ gW := gW_in (List.mem_append_right _ (List.mem_append_right _ (List.mem_append_right _ (List.mem_append_left _ (List.mem_of_getElem? (l := tables_1_4) (i := 15) (by decide +kernel)))))) rfl
set_option maxRecDepth 20000 in
theorem u_ml_L_12 : (.methodLink RL 12 yX10_init : Cond) ∈ gW := gW_in (List.mem_append_right _ (List.mem_append_right _ (List.mem_append_right _ (List.mem_append_left _ (List.mem_of_getElem? (l := tables_1_4) (i := 16) (by decide +kernel)))))) rfl
set_option maxRecDepth 20000 in
theorem u_im_X10_init : (.instanceMethod yX10_init : Cond) ∈ gW := gW_in (List.mem_append_right _ (List.mem_append_right _ (List.mem_append_right _ (List.mem_append_left _ (List.mem_of_getElem? (l := tables_1_4) (i := 17) (by decide +kernel)))))) rfl
set_option maxRecDepth 20000 in
theorem u_co_X10_init : (.code yX10_init cX10_init 1 none : Cond) ∈ gW := gW_in (List.mem_append_right _ (List.mem_append_right _ (List.mem_append_right _ (List.mem_append_left _ (List.mem_of_getElem? (l := tables_1_4) (i := 18) (rfl)))))) rfl
set_option maxRecDepth 20000 in
theorem u_ml_X10_1 : (.methodLink RX10 1 objectInit : Cond) ∈ gW := gW_in (List.mem_append_right _ (List.mem_append_right _ (List.mem_append_right _ (List.mem_append_left _ (List.mem_of_getElem? (l := tables_1_4) (i := 19) (by decide +kernel)))))) rfl
set_option maxRecDepth 20000 in
theorem u_ml_X10_73 : (.methodLink RX10 73 yX10_dry : Cond) ∈ gW := gW_in (List.mem_append_right _ (List.mem_append_right _ (List.mem_append_right _ (List.mem_append_left _ (List.mem_of_getElem? (l := tables_1_4) (i := 20) (by decide +kernel)))))) rfl
set_option maxRecDepth 20000 in
theorem u_st_X10_dry : (.static yX10_dry : Cond) ∈ gW := gW_in (List.mem_append_right _ (List.mem_append_right _ (List.mem_append_right _ (List.mem_append_left _ (List.mem_of_getElem? (l := tables_1_4) (i := 21) (by decide +kernel)))))) rfl
set_option maxRecDepth 20000 in
theorem u_co_X10_dry : (.code yX10_dry cX10_dry 2 none : Cond) ∈ gW := gW_in (List.mem_append_right _ (List.mem_append_right _ (List.mem_append_right _ (List.mem_append_left _ (List.mem_of_getElem? (l := tables_1_4) (i := 22) (rfl)))))) rfl
set_option maxRecDepth 20000 in
theorem u_ml_X10_77 : (.methodLink RX10 77 yX10_open : Cond) ∈ gW := gW_in (List.mem_append_right _ (List.mem_append_right _ (List.mem_append_right _ (List.mem_append_left _ (List.mem_of_getElem? (l := tables_1_4) (i := 23) (by decide +kernel)))))) rfl
set_option maxRecDepth 20000 in
theorem u_im_X10_open : (.instanceMethod yX10_open : Cond) ∈ gW := gW_in (List.mem_append_right _ (List.mem_append_right _ (List.mem_append_right _ (List.mem_append_left _ (List.mem_of_getElem? (l := tables_1_4) (i := 25) (by decide +kernel)))))) rfl
set_option maxRecDepth 20000 in
theorem u_co_X10_open : (.code yX10_open cX10_open 2 none : Cond) ∈ gW := gW_in (List.mem_append_right _ (List.mem_append_right _ (List.mem_append_right _ (List.mem_append_left _ (List.mem_of_getElem? (l := tables_1_4) (i := 26) (rfl)))))) rfl
set_option maxRecDepth 20000 in
theorem u_fl_X10_91 : (.fieldLink RX10 91 "GossipArchesModel" "letters" "I" : Cond) ∈ gW := gW_in (List.mem_append_right _ (List.mem_append_right _ (List.mem_append_right _ (List.mem_append_left _ (List.mem_of_getElem? (l := tables_1_4) (i := 27) (by decide +kernel)))))) rfl
set_option maxRecDepth 20000 in
theorem u_fl_X10_7 : (.fieldLink RX10 7 "GossipArchesModel" "text" "[I" : Cond) ∈ gW := gW_in (List.mem_append_right _ (List.mem_append_right _ (List.mem_append_right _ (List.mem_append_left _ (List.mem_of_getElem? (l := tables_1_4) (i := 28) (by decide +kernel)))))) rfl
set_option maxRecDepth 20000 in
theorem u_fl_X10_95 : (.fieldLink RX10 95 "GossipArchesModel" "position" "I" : Cond) ∈ gW := gW_in (List.mem_append_right _ (List.mem_append_right _ (List.mem_append_right _ (List.mem_append_left _ (List.mem_of_getElem? (l := tables_1_4) (i := 29) (by decide +kernel)))))) rfl
set_option maxRecDepth 20000 in
theorem u_fl_X10_98 : (.fieldLink RX10 98 "GossipArchesModel" "tokenAt" "I" : Cond) ∈ gW := gW_in (List.mem_append_right _ (List.mem_append_right _ (List.mem_append_right _ (List.mem_append_left _ (List.mem_of_getElem? (l := tables_1_4) (i := 30) (by decide +kernel)))))) rfl
set_option maxRecDepth 20000 in
theorem u_fl_X10_107 : (.fieldLink RX10 107 "GossipArchesModel" "token" "I" : Cond) ∈ gW := gW_in (List.mem_append_right _ (List.mem_append_right _ (List.mem_append_right _ (List.mem_append_left _ (List.mem_of_getElem? (l := tables_1_4) (i := 31) (by decide +kernel)))))) rfl
set_option maxRecDepth 20000 in
theorem u_fl_X10_101 : (.fieldLink RX10 101 "GossipArchesModel" "number" "I" : Cond) ∈ gW := gW_in (List.mem_append_right _ (List.mem_append_right _ (List.mem_append_right _ (List.mem_append_left _ (List.mem_of_getElem? (l := tables_1_4) (i := 32) (by decide +kernel)))))) rfl
set_option maxRecDepth 20000 in
theorem u_fl_X10_104 : (.fieldLink RX10 104 "GossipArchesModel" "figures" "I" : Cond) ∈ gW := gW_in (List.mem_append_right _ (List.mem_append_right _ (List.mem_append_right _ (List.mem_append_left _ (List.mem_of_getElem? (l := tables_1_4) (i := 33) (by decide +kernel)))))) rfl
set_option maxRecDepth 20000 in
theorem u_fl_X10_13 : (.fieldLink RX10 13 "GossipArchesModel" "faultAt" "I" : Cond) ∈ gW := gW_in (List.mem_append_right _ (List.mem_append_right _ (List.mem_append_right _ (List.mem_append_left _ (List.mem_of_getElem? (l := tables_1_4) (i := 34) (by decide +kernel)))))) rfl
set_option maxRecDepth 20000 in
theorem u_fl_X10_110 : (.fieldLink RX10 110 "GossipArchesModel" "faultIs" "I" : Cond) ∈ gW := gW_in (List.mem_append_right _ (List.mem_append_right _ (List.mem_append_right _ (List.mem_append_left _ (List.mem_of_getElem? (l := tables_1_4) (i := 35) (by decide +kernel)))))) rfl
set_option maxRecDepth 20000 in
theorem u_fl_X10_127 : (.fieldLink RX10 127 "GossipArchesModel" "hasMost" "Z" : Cond) ∈ gW := gW_in (List.mem_append_right _ (List.mem_append_right _ (List.mem_append_right _ (List.mem_append_left _ (List.mem_of_getElem? (l := tables_1_4) (i := 36) (by decide +kernel)))))) rfl
set_option maxRecDepth 20000 in
theorem u_fl_X10_124 : (.fieldLink RX10 124 "GossipArchesModel" "readMost" "I" : Cond) ∈ gW := gW_in (List.mem_append_right _ (List.mem_append_right _ (List.mem_append_right _ (List.mem_append_left _ (List.mem_of_getElem? (l := tables_1_4) (i := 37) (by decide +kernel)))))) rfl
set_option maxRecDepth 20000 in
theorem u_fl_X10_135 : (.fieldLink RX10 135 "GossipArchesModel" "readPlaces" "I" : Cond) ∈ gW := gW_in (List.mem_append_right _ (List.mem_append_right _ (List.mem_append_right _ (List.mem_append_left _ (List.mem_of_getElem? (l := tables_1_4) (i := 38) (by decide +kernel)))))) rfl
set_option maxRecDepth 20000 in
theorem u_fl_X10_138 : (.fieldLink RX10 138 "GossipArchesModel" "readChannels" "I" : Cond) ∈ gW := gW_in (List.mem_append_right _ (List.mem_append_right _ (List.mem_append_right _ (List.mem_append_left _ (List.mem_of_getElem? (l := tables_1_4) (i := 39) (by decide +kernel)))))) rfl
set_option maxRecDepth 20000 in
theorem u_fl_X10_17 : (.fieldLink RX10 17 "GossipArchesModel" "readPlace" "[I" : Cond) ∈ gW := gW_in (List.mem_append_right _ (List.mem_append_right _ (List.mem_append_right _ (List.mem_append_left _ (List.mem_of_getElem? (l := tables_1_4) (i := 40) (by decide +kernel)))))) rfl
set_option maxRecDepth 20000 in
theorem u_fl_X10_20 : (.fieldLink RX10 20 "GossipArchesModel" "readChannel" "[I" : Cond) ∈ gW := gW_in (List.mem_append_right _ (List.mem_append_right _ (List.mem_append_right _ (List.mem_append_left _ (List.mem_of_getElem? (l := tables_1_4) (i := 41) (by decide +kernel)))))) rfl
set_option maxRecDepth 20000 in
theorem u_fl_X10_156 : (.fieldLink RX10 156 "GossipArchesModel" "most" "I" : Cond) ∈ gW := gW_in (List.mem_append_right _ (List.mem_append_right _ (List.mem_append_right _ (List.mem_append_left _ (List.mem_of_getElem? (l := tables_1_4) (i := 42) (by decide +kernel)))))) rfl
set_option maxRecDepth 20000 in
theorem u_fl_X10_80 : (.fieldLink RX10 80 "GossipArchesModel" "places" "I" : Cond) ∈ gW := gW_in (List.mem_append_right _ (List.mem_append_right _ (List.mem_append_right _ (List.mem_append_left _ (List.mem_of_getElem? (l := tables_1_4) (i := 43) (by decide +kernel)))))) rfl
set_option maxRecDepth 20000 in
theorem u_fl_X10_87 : (.fieldLink RX10 87 "GossipArchesModel" "channels" "I" : Cond) ∈ gW := gW_in (List.mem_append_right _ (List.mem_append_right _ (List.mem_append_right _ (List.mem_append_left _ (List.mem_of_getElem? (l := tables_1_4) (i := 44) (by decide +kernel)))))) rfl
set_option maxRecDepth 20000 in
theorem u_fl_X10_23 : (.fieldLink RX10 23 "GossipArchesModel" "place" "[I" : Cond) ∈ gW := gW_in (List.mem_append_right _ (List.mem_append_right _ (List.mem_append_right _ (List.mem_append_left _ (List.mem_of_getElem? (l := tables_1_4) (i := 45) (by decide +kernel)))))) rfl
set_option maxRecDepth 20000 in
theorem u_fl_X10_26 : (.fieldLink RX10 26 "GossipArchesModel" "channel" "[I" : Cond) ∈ gW := gW_in (List.mem_append_right _ (List.mem_append_right _ (List.mem_append_right _ (List.mem_append_left _ (List.mem_of_getElem? (l := tables_1_4) (i := 46) (by decide +kernel)))))) rfl
set_option maxRecDepth 20000 in
theorem u_fl_X10_29 : (.fieldLink RX10 29 "GossipArchesModel" "now" "[I" : Cond) ∈ gW := gW_in (List.mem_append_right _ (List.mem_append_right _ (List.mem_append_right _ (List.mem_append_left _ (List.mem_of_getElem? (l := tables_1_4) (i := 47) (by decide +kernel)))))) rfl
set_option maxRecDepth 20000 in
theorem u_fl_X10_32 : (.fieldLink RX10 32 "GossipArchesModel" "tried" "[I" : Cond) ∈ gW := gW_in (List.mem_append_right _ (List.mem_append_right _ (List.mem_append_right _ (List.mem_append_left _ (List.mem_of_getElem? (l := tables_1_4) (i := 48) (by decide +kernel)))))) rfl
set_option maxRecDepth 20000 in
theorem u_fl_X10_35 : (.fieldLink RX10 35 "GossipArchesModel" "backOf" "[I" : Cond) ∈ gW := gW_in (List.mem_append_right _ (List.mem_append_right _ (List.mem_append_right _ (List.mem_append_left _ (List.mem_of_getElem? (l := tables_1_4) (i := 49) (by decide +kernel)))))) rfl
set_option maxRecDepth 20000 in
theorem u_fl_X10_165 : (.fieldLink RX10 165 "GossipArchesModel" "backs" "I" : Cond) ∈ gW := gW_in (List.mem_append_right _ (List.mem_append_right _ (List.mem_append_right _ (List.mem_append_left _ (List.mem_of_getElem? (l := tables_1_4) (i := 50) (by decide +kernel)))))) rfl
set_option maxRecDepth 20000 in
theorem u_fl_X10_38 : (.fieldLink RX10 38 "GossipArchesModel" "image" "[I" : Cond) ∈ gW := gW_in (List.mem_append_right _ (List.mem_append_right _ (List.mem_append_right _ (List.mem_append_left _ (List.mem_of_getElem? (l := tables_1_4) (i := 51) (by decide +kernel)))))) rfl
set_option maxRecDepth 20000 in
theorem u_fl_X10_41 : (.fieldLink RX10 41 "GossipArchesModel" "imageSeed" "[I" : Cond) ∈ gW := gW_in (List.mem_append_right _ (List.mem_append_right _ (List.mem_append_right _ (List.mem_append_left _ (List.mem_of_getElem? (l := tables_1_4) (i := 52) (by decide +kernel)))))) rfl
set_option maxRecDepth 20000 in
theorem u_fl_X10_44 : (.fieldLink RX10 44 "GossipArchesModel" "isKept" "[Z" : Cond) ∈ gW := gW_in (List.mem_append_right _ (List.mem_append_right _ (List.mem_append_right _ (List.mem_append_left _ (List.mem_of_getElem? (l := tables_1_4) (i := 53) (by decide +kernel)))))) rfl
set_option maxRecDepth 20000 in
theorem u_fl_X10_212 : (.fieldLink RX10 212 "GossipArchesModel" "seed" "I" : Cond) ∈ gW := gW_in (List.mem_append_right _ (List.mem_append_right _ (List.mem_append_right _ (List.mem_append_left _ (List.mem_of_getElem? (l := tables_1_4) (i := 54) (by decide +kernel)))))) rfl
set_option maxRecDepth 20000 in
theorem u_fl_X10_159 : (.fieldLink RX10 159 "GossipArchesModel" "drips" "I" : Cond) ∈ gW := gW_in (List.mem_append_right _ (List.mem_append_right _ (List.mem_append_right _ (List.mem_append_left _ (List.mem_of_getElem? (l := tables_1_4) (i := 55) (by decide +kernel)))))) rfl
set_option maxRecDepth 20000 in
theorem u_fl_X10_48 : (.fieldLink RX10 48 "GossipArchesModel" "drip" "[I" : Cond) ∈ gW := gW_in (List.mem_append_right _ (List.mem_append_right _ (List.mem_append_right _ (List.mem_append_left _ (List.mem_of_getElem? (l := tables_1_4) (i := 56) (by decide +kernel)))))) rfl
set_option maxRecDepth 20000 in
theorem u_fl_X10_162 : (.fieldLink RX10 162 "GossipArchesModel" "entries" "I" : Cond) ∈ gW := gW_in (List.mem_append_right _ (List.mem_append_right _ (List.mem_append_right _ (List.mem_append_left _ (List.mem_of_getElem? (l := tables_1_4) (i := 57) (by decide +kernel)))))) rfl
set_option maxRecDepth 20000 in
theorem u_fl_X10_51 : (.fieldLink RX10 51 "GossipArchesModel" "entry" "[I" : Cond) ∈ gW := gW_in (List.mem_append_right _ (List.mem_append_right _ (List.mem_append_right _ (List.mem_append_left _ (List.mem_of_getElem? (l := tables_1_4) (i := 58) (by decide +kernel)))))) rfl
set_option maxRecDepth 20000 in
theorem u_fl_X10_54 : (.fieldLink RX10 54 "GossipArchesModel" "comes" "[I" : Cond) ∈ gW := gW_in (List.mem_append_right _ (List.mem_append_right _ (List.mem_append_right _ (List.mem_append_left _ (List.mem_of_getElem? (l := tables_1_4) (i := 59) (by decide +kernel)))))) rfl
set_option maxRecDepth 20000 in
theorem u_fl_X10_57 : (.fieldLink RX10 57 "GossipArchesModel" "hears" "[I" : Cond) ∈ gW := gW_in (List.mem_append_right _ (List.mem_append_right _ (List.mem_append_right _ (List.mem_append_left _ (List.mem_of_getElem? (l := tables_1_4) (i := 60) (by decide +kernel)))))) rfl
set_option maxRecDepth 20000 in
theorem u_fl_X10_60 : (.fieldLink RX10 60 "GossipArchesModel" "hoursOf" "[J" : Cond) ∈ gW := gW_in (List.mem_append_right _ (List.mem_append_right _ (List.mem_append_right _ (List.mem_append_left _ (List.mem_of_getElem? (l := tables_1_4) (i := 61) (by decide +kernel)))))) rfl
set_option maxRecDepth 20000 in
theorem u_fl_X10_64 : (.fieldLink RX10 64 "GossipArchesModel" "hoursToo" "[J" : Cond) ∈ gW := gW_in (List.mem_append_right _ (List.mem_append_right _ (List.mem_append_right _ (List.mem_append_left _ (List.mem_of_getElem? (l := tables_1_4) (i := 62) (by decide +kernel)))))) rfl
set_option maxRecDepth 20000 in
theorem u_fl_X10_67 : (.fieldLink RX10 67 "GossipArchesModel" "heardAt" "[I" : Cond) ∈ gW := gW_in (List.mem_append_right _ (List.mem_append_right _ (List.mem_append_right _ (List.mem_append_left _ (List.mem_of_getElem? (l := tables_1_4) (i := 63) (by decide +kernel)))))) rfl
set_option maxRecDepth 20000 in
theorem u_fl_X10_70 : (.fieldLink RX10 70 "GossipArchesModel" "order" "[I" : Cond) ∈ gW := gW_in (List.mem_append_right _ (List.mem_append_right _ (List.mem_append_right _ (List.mem_append_left _ (List.mem_of_getElem? (l := tables_1_4) (i := 64) (by decide +kernel)))))) rfl
set_option maxRecDepth 20000 in
theorem u_ly_X10_0 : (.lays RX10 "GossipArchesModel" "letters" "I" : Cond) ∈ gW := gW_in (List.mem_append_right _ (List.mem_append_right _ (List.mem_append_right _ (List.mem_append_left _ (List.mem_of_getElem? (l := tables_1_4) (i := 65) (by decide +kernel)))))) rfl
set_option maxRecDepth 20000 in
theorem u_ly_X10_1 : (.laysFinal RX10 "GossipArchesModel" "text" "[I" : Cond) ∈ gW := gW_in (List.mem_append_right _ (List.mem_append_right _ (List.mem_append_right _ (List.mem_append_left _ (List.mem_of_getElem? (l := tables_1_4) (i := 67) (by decide +kernel)))))) rfl
set_option maxRecDepth 20000 in
theorem u_ly_X10_2 : (.lays RX10 "GossipArchesModel" "position" "I" : Cond) ∈ gW := gW_in (List.mem_append_right _ (List.mem_append_right _ (List.mem_append_right _ (List.mem_append_left _ (List.mem_of_getElem? (l := tables_1_4) (i := 69) (by decide +kernel)))))) rfl
set_option maxRecDepth 20000 in
theorem u_ly_X10_3 : (.lays RX10 "GossipArchesModel" "tokenAt" "I" : Cond) ∈ gW := gW_in (List.mem_append_right _ (List.mem_append_right _ (List.mem_append_right _ (List.mem_append_left _ (List.mem_of_getElem? (l := tables_1_4) (i := 71) (by decide +kernel)))))) rfl
set_option maxRecDepth 20000 in
theorem u_ly_X10_4 : (.lays RX10 "GossipArchesModel" "token" "I" : Cond) ∈ gW := gW_in (List.mem_append_right _ (List.mem_append_right _ (List.mem_append_right _ (List.mem_append_left _ (List.mem_of_getElem? (l := tables_1_4) (i := 73) (by decide +kernel)))))) rfl
set_option maxRecDepth 20000 in
theorem u_ly_X10_5 : (.lays RX10 "GossipArchesModel" "number" "I" : Cond) ∈ gW := gW_in (List.mem_append_right _ (List.mem_append_right _ (List.mem_append_right _ (List.mem_append_left _ (List.mem_of_getElem? (l := tables_1_4) (i := 75) (by decide +kernel)))))) rfl
set_option maxRecDepth 20000 in
theorem u_ly_X10_6 : (.lays RX10 "GossipArchesModel" "figures" "I" : Cond) ∈ gW := gW_in (List.mem_append_right _ (List.mem_append_right _ (List.mem_append_right _ (List.mem_append_left _ (List.mem_of_getElem? (l := tables_1_4) (i := 77) (by decide +kernel)))))) rfl
set_option maxRecDepth 20000 in
theorem u_ly_X10_7 : (.lays RX10 "GossipArchesModel" "faultAt" "I" : Cond) ∈ gW := gW_in (List.mem_append_right _ (List.mem_append_right _ (List.mem_append_right _ (List.mem_append_left _ (List.mem_of_getElem? (l := tables_1_4) (i := 79) (by decide +kernel)))))) rfl
set_option maxRecDepth 20000 in
theorem u_ly_X10_8 : (.lays RX10 "GossipArchesModel" "faultIs" "I" : Cond) ∈ gW := gW_in (List.mem_append_right _ (List.mem_append_right _ (List.mem_append_right _ (List.mem_append_left _ (List.mem_of_getElem? (l := tables_1_4) (i := 81) (by decide +kernel)))))) rfl
set_option maxRecDepth 20000 in
theorem u_ly_X10_9 : (.lays RX10 "GossipArchesModel" "hasMost" "Z" : Cond) ∈ gW := gW_in (List.mem_append_right _ (List.mem_append_right _ (List.mem_append_right _ (List.mem_append_left _ (List.mem_of_getElem? (l := tables_1_4) (i := 83) (by decide +kernel)))))) rfl
set_option maxRecDepth 20000 in
theorem u_ly_X10_10 : (.lays RX10 "GossipArchesModel" "readMost" "I" : Cond) ∈ gW := gW_in (List.mem_append_right _ (List.mem_append_right _ (List.mem_append_right _ (List.mem_append_left _ (List.mem_of_getElem? (l := tables_1_4) (i := 85) (by decide +kernel)))))) rfl
set_option maxRecDepth 20000 in
theorem u_ly_X10_11 : (.lays RX10 "GossipArchesModel" "readPlaces" "I" : Cond) ∈ gW := gW_in (List.mem_append_right _ (List.mem_append_right _ (List.mem_append_right _ (List.mem_append_left _ (List.mem_of_getElem? (l := tables_1_4) (i := 87) (by decide +kernel)))))) rfl
set_option maxRecDepth 20000 in
theorem u_ly_X10_12 : (.lays RX10 "GossipArchesModel" "readChannels" "I" : Cond) ∈ gW := gW_in (List.mem_append_right _ (List.mem_append_right _ (List.mem_append_right _ (List.mem_append_left _ (List.mem_of_getElem? (l := tables_1_4) (i := 89) (by decide +kernel)))))) rfl
set_option maxRecDepth 20000 in
theorem u_ly_X10_13 : (.laysFinal RX10 "GossipArchesModel" "readPlace" "[I" : Cond) ∈ gW := gW_in (List.mem_append_right _ (List.mem_append_right _ (List.mem_append_right _ (List.mem_append_left _ (List.mem_of_getElem? (l := tables_1_4) (i := 91) (by decide +kernel)))))) rfl
set_option maxRecDepth 20000 in
theorem u_ly_X10_14 : (.laysFinal RX10 "GossipArchesModel" "readChannel" "[I" : Cond) ∈ gW := gW_in (List.mem_append_right _ (List.mem_append_right _ (List.mem_append_right _ (List.mem_append_left _ (List.mem_of_getElem? (l := tables_1_4) (i := 93) (by decide +kernel)))))) rfl
set_option maxRecDepth 20000 in
theorem u_ly_X10_15 : (.lays RX10 "GossipArchesModel" "most" "I" : Cond) ∈ gW := gW_in (List.mem_append_right _ (List.mem_append_right _ (List.mem_append_right _ (List.mem_append_left _ (List.mem_of_getElem? (l := tables_1_4) (i := 95) (by decide +kernel)))))) rfl
set_option maxRecDepth 20000 in
theorem u_ly_X10_16 : (.lays RX10 "GossipArchesModel" "places" "I" : Cond) ∈ gW := gW_in (List.mem_append_right _ (List.mem_append_right _ (List.mem_append_right _ (List.mem_append_left _ (List.mem_of_getElem? (l := tables_1_4) (i := 97) (by decide +kernel)))))) rfl
set_option maxRecDepth 20000 in
theorem u_ly_X10_17 : (.lays RX10 "GossipArchesModel" "channels" "I" : Cond) ∈ gW := gW_in (List.mem_append_right _ (List.mem_append_right _ (List.mem_append_right _ (List.mem_append_left _ (List.mem_of_getElem? (l := tables_1_4) (i := 99) (by decide +kernel)))))) rfl
set_option maxRecDepth 20000 in
theorem u_ly_X10_18 : (.laysFinal RX10 "GossipArchesModel" "place" "[I" : Cond) ∈ gW := gW_in (List.mem_append_right _ (List.mem_append_right _ (List.mem_append_right _ (List.mem_append_left _ (List.mem_of_getElem? (l := tables_1_4) (i := 101) (by decide +kernel)))))) rfl
set_option maxRecDepth 20000 in
theorem u_ly_X10_19 : (.laysFinal RX10 "GossipArchesModel" "channel" "[I" : Cond) ∈ gW := gW_in (List.mem_append_right _ (List.mem_append_right _ (List.mem_append_right _ (List.mem_append_left _ (List.mem_of_getElem? (l := tables_1_4) (i := 103) (by decide +kernel)))))) rfl
set_option maxRecDepth 20000 in
theorem u_ly_X10_20 : (.laysFinal RX10 "GossipArchesModel" "now" "[I" : Cond) ∈ gW := gW_in (List.mem_append_right _ (List.mem_append_right _ (List.mem_append_right _ (List.mem_append_left _ (List.mem_of_getElem? (l := tables_1_4) (i := 105) (by decide +kernel)))))) rfl
set_option maxRecDepth 20000 in
theorem u_ly_X10_21 : (.laysFinal RX10 "GossipArchesModel" "tried" "[I" : Cond) ∈ gW := gW_in (List.mem_append_right _ (List.mem_append_right _ (List.mem_append_right _ (List.mem_append_left _ (List.mem_of_getElem? (l := tables_1_4) (i := 107) (by decide +kernel)))))) rfl
set_option maxRecDepth 20000 in
theorem u_ly_X10_22 : (.laysFinal RX10 "GossipArchesModel" "backOf" "[I" : Cond) ∈ gW := gW_in (List.mem_append_right _ (List.mem_append_right _ (List.mem_append_right _ (List.mem_append_left _ (List.mem_of_getElem? (l := tables_1_4) (i := 109) (by decide +kernel)))))) rfl
set_option maxRecDepth 20000 in
theorem u_ly_X10_23 : (.lays RX10 "GossipArchesModel" "backs" "I" : Cond) ∈ gW := gW_in (List.mem_append_right _ (List.mem_append_right _ (List.mem_append_right _ (List.mem_append_left _ (List.mem_of_getElem? (l := tables_1_4) (i := 111) (by decide +kernel)))))) rfl
set_option maxRecDepth 20000 in
theorem u_ly_X10_24 : (.laysFinal RX10 "GossipArchesModel" "image" "[I" : Cond) ∈ gW := gW_in (List.mem_append_right _ (List.mem_append_right _ (List.mem_append_right _ (List.mem_append_left _ (List.mem_of_getElem? (l := tables_1_4) (i := 113) (by decide +kernel)))))) rfl
set_option maxRecDepth 20000 in
theorem u_ly_X10_25 : (.laysFinal RX10 "GossipArchesModel" "imageSeed" "[I" : Cond) ∈ gW := gW_in (List.mem_append_right _ (List.mem_append_right _ (List.mem_append_right _ (List.mem_append_left _ (List.mem_of_getElem? (l := tables_1_4) (i := 115) (by decide +kernel)))))) rfl
set_option maxRecDepth 20000 in
theorem u_ly_X10_26 : (.laysFinal RX10 "GossipArchesModel" "isKept" "[Z" : Cond) ∈ gW := gW_in (List.mem_append_right _ (List.mem_append_right _ (List.mem_append_right _ (List.mem_append_left _ (List.mem_of_getElem? (l := tables_1_4) (i := 117) (by decide +kernel)))))) rfl
set_option maxRecDepth 20000 in
theorem u_ly_X10_27 : (.lays RX10 "GossipArchesModel" "seed" "I" : Cond) ∈ gW := gW_in (List.mem_append_right _ (List.mem_append_right _ (List.mem_append_right _ (List.mem_append_left _ (List.mem_of_getElem? (l := tables_1_4) (i := 119) (by decide +kernel)))))) rfl
set_option maxRecDepth 20000 in
theorem u_ly_X10_28 : (.lays RX10 "GossipArchesModel" "drips" "I" : Cond) ∈ gW := gW_in (List.mem_append_right _ (List.mem_append_right _ (List.mem_append_right _ (List.mem_append_left _ (List.mem_of_getElem? (l := tables_1_4) (i := 121) (by decide +kernel)))))) rfl
set_option maxRecDepth 20000 in
theorem u_ly_X10_29 : (.laysFinal RX10 "GossipArchesModel" "drip" "[I" : Cond) ∈ gW := gW_in (List.mem_append_right _ (List.mem_append_right _ (List.mem_append_right _ (List.mem_append_left _ (List.mem_of_getElem? (l := tables_1_4) (i := 123) (by decide +kernel)))))) rfl
set_option maxRecDepth 20000 in
theorem u_ly_X10_30 : (.lays RX10 "GossipArchesModel" "entries" "I" : Cond) ∈ gW := gW_in (List.mem_append_right _ (List.mem_append_right _ (List.mem_append_right _ (List.mem_append_left _ (List.mem_of_getElem? (l := tables_1_4) (i := 125) (by decide +kernel)))))) rfl
set_option maxRecDepth 20000 in
theorem u_ly_X10_31 : (.laysFinal RX10 "GossipArchesModel" "entry" "[I" : Cond) ∈ gW := gW_in (List.mem_append_right _ (List.mem_append_right _ (List.mem_append_right _ (List.mem_append_left _ (List.mem_of_getElem? (l := tables_1_4) (i := 127) (by decide +kernel)))))) rfl
set_option maxRecDepth 20000 in
theorem u_ly_X10_32 : (.laysFinal RX10 "GossipArchesModel" "comes" "[I" : Cond) ∈ gW := gW_in (List.mem_append_right _ (List.mem_append_right _ (List.mem_append_right _ (List.mem_append_left _ (List.mem_of_getElem? (l := tables_1_4) (i := 129) (by decide +kernel)))))) rfl
set_option maxRecDepth 20000 in
theorem u_ly_X10_33 : (.laysFinal RX10 "GossipArchesModel" "hears" "[I" : Cond) ∈ gW := gW_in (List.mem_append_right _ (List.mem_append_right _ (List.mem_append_right _ (List.mem_append_left _ (List.mem_of_getElem? (l := tables_1_4) (i := 131) (by decide +kernel)))))) rfl
set_option maxRecDepth 20000 in
theorem u_ly_X10_34 : (.laysFinal RX10 "GossipArchesModel" "hoursOf" "[J" : Cond) ∈ gW := gW_in (List.mem_append_right _ (List.mem_append_right _ (List.mem_append_right _ (List.mem_append_left _ (List.mem_of_getElem? (l := tables_1_4) (i := 133) (by decide +kernel)))))) rfl
set_option maxRecDepth 20000 in
theorem u_ly_X10_35 : (.laysFinal RX10 "GossipArchesModel" "hoursToo" "[J" : Cond) ∈ gW := gW_in (List.mem_append_right _ (List.mem_append_right _ (List.mem_append_right _ (List.mem_append_left _ (List.mem_of_getElem? (l := tables_1_4) (i := 135) (by decide +kernel)))))) rfl
set_option maxRecDepth 20000 in
theorem u_ly_X10_36 : (.laysFinal RX10 "GossipArchesModel" "heardAt" "[I" : Cond) ∈ gW := gW_in (List.mem_append_right _ (List.mem_append_right _ (List.mem_append_right _ (List.mem_append_left _ (List.mem_of_getElem? (l := tables_1_4) (i := 137) (by decide +kernel)))))) rfl
set_option maxRecDepth 20000 in
theorem u_ly_X10_37 : (.laysFinal RX10 "GossipArchesModel" "order" "[I" : Cond) ∈ gW := gW_in (List.mem_append_right _ (List.mem_append_right _ (List.mem_append_right _ (List.mem_append_left _ (List.mem_of_getElem? (l := tables_1_4) (i := 139) (by decide +kernel)))))) rfl
set_option maxRecDepth 20000 in
theorem u_ac_boolean : (.arrayClass .boolean : Cond) ∈ gW := gW_in (List.mem_append_right _ (List.mem_append_right _ (List.mem_append_right _ (List.mem_append_left _ (List.mem_of_getElem? (l := tables_1_4) (i := 142) (by decide +kernel)))))) rfl
set_option maxRecDepth 20000 in
theorem u_ml_L_17 : (.methodLink RL 17 yX10_feed : Cond) ∈ gW := gW_in (List.mem_append_right _ (List.mem_append_right _ (List.mem_append_right _ (List.mem_append_left _ (List.mem_of_getElem? (l := tables_1_4) (i := 143) (by decide +kernel)))))) rfl
set_option maxRecDepth 20000 in
theorem u_im_X10_feed : (.instanceMethod yX10_feed : Cond) ∈ gW := gW_in (List.mem_append_right _ (List.mem_append_right _ (List.mem_append_right _ (List.mem_append_left _ (List.mem_of_getElem? (l := tables_1_4) (i := 144) (by decide +kernel)))))) rfl
set_option maxRecDepth 20000 in
theorem u_se_X10_feed : (.selects RX10 yX10_feed yX10_feed : Cond) ∈ gW := gW_in (List.mem_append_right _ (List.mem_append_right _ (List.mem_append_right _ (List.mem_append_left _ (List.mem_of_getElem? (l := tables_1_4) (i := 145) (by decide +kernel)))))) rfl
set_option maxRecDepth 20000 in
theorem u_co_X10_feed : (.code yX10_feed cX10_feed 2 (some .int) : Cond) ∈ gW := gW_in (List.mem_append_right _ (List.mem_append_right _ (List.mem_append_right _ (List.mem_append_left _ (List.mem_of_getElem? (l := tables_1_4) (i := 146) (rfl)))))) rfl
set_option maxRecDepth 20000 in
theorem u_ml_X10_83 : (.methodLink RX10 83 yX10_in : Cond) ∈ gW := gW_in (List.mem_append_right _ (List.mem_append_right _ (List.mem_append_right _ (List.mem_append_left _ (List.mem_of_getElem? (l := tables_1_4) (i := 147) (by decide +kernel)))))) rfl
set_option maxRecDepth 20000 in
theorem u_st_X10_in : (.static yX10_in : Cond) ∈ gW := gW_in (List.mem_append_right _ (List.mem_append_right _ (List.mem_append_right _ (List.mem_append_left _ (List.mem_of_getElem? (l := tables_1_4) (i := 148) (by decide +kernel)))))) rfl
set_option maxRecDepth 20000 in
theorem u_co_X10_in : (.code yX10_in cX10_in 3 (some .boolean) : Cond) ∈ gW := gW_in (List.mem_append_right _ (List.mem_append_right _ (List.mem_append_right _ (List.mem_append_left _ (List.mem_of_getElem? (l := tables_1_4) (i := 149) (rfl)))))) rfl
set_option maxRecDepth 20000 in
theorem u_k_X10_90 : (.constant RX10 90 (-1000000002) : Cond) ∈ gW := gW_in (List.mem_append_right _ (List.mem_append_right _ (List.mem_append_right _ (List.mem_append_left _ (List.mem_of_getElem? (l := tables_1_4) (i := 150) (by decide +kernel)))))) rfl
set_option maxRecDepth 20000 in
theorem u_k_X10_94 : (.constant RX10 94 (-1000000004) : Cond) ∈ gW := gW_in (List.mem_append_right _ (List.mem_append_right _ (List.mem_append_right _ (List.mem_append_left _ (List.mem_of_getElem? (l := tables_1_4) (i := 151) (by decide +kernel)))))) rfl
set_option maxRecDepth 20000 in
theorem u_ml_L_22 : (.methodLink RL 22 yX10_works : Cond) ∈ gW := gW_in (List.mem_append_right _ (List.mem_append_right _ (List.mem_append_right _ (List.mem_append_left _ (List.mem_of_getElem? (l := tables_1_4) (i := 152) (by decide +kernel)))))) rfl
set_option maxRecDepth 20000 in
theorem u_im_X10_works : (.instanceMethod yX10_works : Cond) ∈ gW := gW_in (List.mem_append_right _ (List.mem_append_right _ (List.mem_append_right _ (List.mem_append_left _ (List.mem_of_getElem? (l := tables_1_4) (i := 153) (by decide +kernel)))))) rfl
set_option maxRecDepth 20000 in
theorem u_se_X10_works : (.selects RX10 yX10_works yX10_works : Cond) ∈ gW := gW_in (List.mem_append_right _ (List.mem_append_right _ (List.mem_append_right _ (List.mem_append_left _ (List.mem_of_getElem? (l := tables_1_4) (i := 154) (by decide +kernel)))))) rfl
set_option maxRecDepth 20000 in
theorem u_co_X10_works : (.code yX10_works cX10_works 3 (some .int) : Cond) ∈ gW := gW_in (List.mem_append_right _ (List.mem_append_right _ (List.mem_append_right _ (List.mem_append_left _ (List.mem_of_getElem? (l := tables_1_4) (i := 155) (rfl)))))) rfl
set_option maxRecDepth 20000 in
theorem u_ml_X10_153 : (.methodLink RX10 153 yX10_isRead : Cond) ∈ gW := gW_in (List.mem_append_right _ (List.mem_append_right _ (List.mem_append_right _ (List.mem_append_left _ (List.mem_of_getElem? (l := tables_1_4) (i := 156) (by decide +kernel)))))) rfl
set_option maxRecDepth 20000 in
theorem u_im_X10_isRead : (.instanceMethod yX10_isRead : Cond) ∈ gW := gW_in (List.mem_append_right _ (List.mem_append_right _ (List.mem_append_right _ (List.mem_append_left _ (List.mem_of_getElem? (l := tables_1_4) (i := 158) (by decide +kernel)))))) rfl
set_option maxRecDepth 20000 in
theorem u_co_X10_isRead : (.code yX10_isRead cX10_isRead 1 (some .boolean) : Cond) ∈ gW := gW_in (List.mem_append_right _ (List.mem_append_right _ (List.mem_append_right _ (List.mem_append_left _ (List.mem_of_getElem? (l := tables_1_4) (i := 159) (rfl)))))) rfl
set_option maxRecDepth 20000 in
theorem u_ml_X10_113 : (.methodLink RX10 113 yX10_nextToken : Cond) ∈ gW := gW_in (List.mem_append_right _ (List.mem_append_right _ (List.mem_append_right _ (List.mem_append_left _ (List.mem_of_getElem? (l := tables_1_4) (i := 160) (by decide +kernel)))))) rfl
set_option maxRecDepth 20000 in
theorem u_im_X10_nextToken : (.instanceMethod yX10_nextToken : Cond) ∈ gW := gW_in (List.mem_append_right _ (List.mem_append_right _ (List.mem_append_right _ (List.mem_append_left _ (List.mem_of_getElem? (l := tables_1_4) (i := 162) (by decide +kernel)))))) rfl
set_option maxRecDepth 20000 in
theorem u_co_X10_nextToken : (.code yX10_nextToken cX10_nextToken 1 none : Cond) ∈ gW := gW_in (List.mem_append_right _ (List.mem_append_right _ (List.mem_append_right _ (List.mem_append_left _ (List.mem_of_getElem? (l := tables_1_4) (i := 163) (rfl)))))) rfl
set_option maxRecDepth 20000 in
theorem u_ml_X10_150 : (.methodLink RX10 150 yX10_isClause : Cond) ∈ gW := gW_in (List.mem_append_right _ (List.mem_append_right _ (List.mem_append_right _ (List.mem_append_left _ (List.mem_of_getElem? (l := tables_1_4) (i := 164) (by decide +kernel)))))) rfl
set_option maxRecDepth 20000 in
theorem u_im_X10_isClause : (.instanceMethod yX10_isClause : Cond) ∈ gW := gW_in (List.mem_append_right _ (List.mem_append_right _ (List.mem_append_right _ (List.mem_append_left _ (List.mem_of_getElem? (l := tables_1_4) (i := 166) (by decide +kernel)))))) rfl
set_option maxRecDepth 20000 in
theorem u_co_X10_isClause : (.code yX10_isClause cX10_isClause 1 (some .boolean) : Cond) ∈ gW := gW_in (List.mem_append_right _ (List.mem_append_right _ (List.mem_append_right _ (List.mem_append_left _ (List.mem_of_getElem? (l := tables_1_4) (i := 167) (rfl)))))) rfl
set_option maxRecDepth 20000 in
theorem u_ml_X10_116 : (.methodLink RX10 116 yX10_fails : Cond) ∈ gW := gW_in (List.mem_append_right _ (List.mem_append_right _ (List.mem_append_right _ (List.mem_append_left _ (List.mem_of_getElem? (l := tables_1_4) (i := 168) (by decide +kernel)))))) rfl
set_option maxRecDepth 20000 in
theorem u_im_X10_fails : (.instanceMethod yX10_fails : Cond) ∈ gW := gW_in (List.mem_append_right _ (List.mem_append_right _ (List.mem_append_right _ (List.mem_append_left _ (List.mem_of_getElem? (l := tables_1_4) (i := 170) (by decide +kernel)))))) rfl
set_option maxRecDepth 20000 in
theorem u_co_X10_fails : (.code yX10_fails cX10_fails 2 (some .boolean) : Cond) ∈ gW := gW_in (List.mem_append_right _ (List.mem_append_right _ (List.mem_append_right _ (List.mem_append_left _ (List.mem_of_getElem? (l := tables_1_4) (i := 171) (rfl)))))) rfl
set_option maxRecDepth 20000 in
theorem u_ml_X10_141 : (.methodLink RX10 141 yX10_isMostItem : Cond) ∈ gW := gW_in (List.mem_append_right _ (List.mem_append_right _ (List.mem_append_right _ (List.mem_append_left _ (List.mem_of_getElem? (l := tables_1_4) (i := 172) (by decide +kernel)))))) rfl
set_option maxRecDepth 20000 in
theorem u_im_X10_isMostItem : (.instanceMethod yX10_isMostItem : Cond) ∈ gW := gW_in (List.mem_append_right _ (List.mem_append_right _ (List.mem_append_right _ (List.mem_append_left _ (List.mem_of_getElem? (l := tables_1_4) (i := 174) (by decide +kernel)))))) rfl
set_option maxRecDepth 20000 in
theorem u_co_X10_isMostItem : (.code yX10_isMostItem cX10_isMostItem 1 (some .boolean) : Cond) ∈ gW := gW_in (List.mem_append_right _ (List.mem_append_right _ (List.mem_append_right _ (List.mem_append_left _ (List.mem_of_getElem? (l := tables_1_4) (i := 175) (rfl)))))) rfl
set_option maxRecDepth 20000 in
theorem u_ml_X10_120 : (.methodLink RX10 120 yX10_isNumber : Cond) ∈ gW := gW_in (List.mem_append_right _ (List.mem_append_right _ (List.mem_append_right _ (List.mem_append_left _ (List.mem_of_getElem? (l := tables_1_4) (i := 176) (by decide +kernel)))))) rfl
set_option maxRecDepth 20000 in
theorem u_im_X10_isNumber : (.instanceMethod yX10_isNumber : Cond) ∈ gW := gW_in (List.mem_append_right _ (List.mem_append_right _ (List.mem_append_right _ (List.mem_append_left _ (List.mem_of_getElem? (l := tables_1_4) (i := 178) (by decide +kernel)))))) rfl
set_option maxRecDepth 20000 in
theorem u_co_X10_isNumber : (.code yX10_isNumber cX10_isNumber 3 (some .boolean) : Cond) ∈ gW := gW_in (List.mem_append_right _ (List.mem_append_right _ (List.mem_append_right _ (List.mem_append_left _ (List.mem_of_getElem? (l := tables_1_4) (i := 179) (rfl)))))) rfl
set_option maxRecDepth 20000 in
theorem u_ml_X10_131 : (.methodLink RX10 131 yX10_isEnd : Cond) ∈ gW := gW_in (List.mem_append_right _ (List.mem_append_right _ (List.mem_append_right _ (List.mem_append_left _ (List.mem_of_getElem? (l := tables_1_4) (i := 180) (by decide +kernel)))))) rfl
set_option maxRecDepth 20000 in
theorem u_im_X10_isEnd : (.instanceMethod yX10_isEnd : Cond) ∈ gW := gW_in (List.mem_append_right _ (List.mem_append_right _ (List.mem_append_right _ (List.mem_append_left _ (List.mem_of_getElem? (l := tables_1_4) (i := 182) (by decide +kernel)))))) rfl
set_option maxRecDepth 20000 in
theorem u_co_X10_isEnd : (.code yX10_isEnd cX10_isEnd 1 (some .boolean) : Cond) ∈ gW := gW_in (List.mem_append_right _ (List.mem_append_right _ (List.mem_append_right _ (List.mem_append_left _ (List.mem_of_getElem? (l := tables_1_4) (i := 183) (rfl)))))) rfl
set_option maxRecDepth 20000 in
theorem u_ml_X10_144 : (.methodLink RX10 144 yX10_isPlaceItem : Cond) ∈ gW := gW_in (List.mem_append_right _ (List.mem_append_right _ (List.mem_append_right _ (List.mem_append_left _ (List.mem_of_getElem? (l := tables_1_4) (i := 184) (by decide +kernel)))))) rfl
set_option maxRecDepth 20000 in
theorem u_im_X10_isPlaceItem : (.instanceMethod yX10_isPlaceItem : Cond) ∈ gW := gW_in (List.mem_append_right _ (List.mem_append_right _ (List.mem_append_right _ (List.mem_append_left _ (List.mem_of_getElem? (l := tables_1_4) (i := 186) (by decide +kernel)))))) rfl
set_option maxRecDepth 20000 in
theorem u_co_X10_isPlaceItem : (.code yX10_isPlaceItem cX10_isPlaceItem 2 (some .boolean) : Cond) ∈ gW := gW_in (List.mem_append_right _ (List.mem_append_right _ (List.mem_append_right _ (List.mem_append_left _ (List.mem_of_getElem? (l := tables_1_4) (i := 187) (rfl)))))) rfl
set_option maxRecDepth 20000 in
theorem u_ml_X10_147 : (.methodLink RX10 147 yX10_isChannelItem : Cond) ∈ gW := gW_in (List.mem_append_right _ (List.mem_append_right _ (List.mem_append_right _ (List.mem_append_left _ (List.mem_of_getElem? (l := tables_1_4) (i := 188) (by decide +kernel)))))) rfl
set_option maxRecDepth 20000 in
theorem u_im_X10_isChannelItem : (.instanceMethod yX10_isChannelItem : Cond) ∈ gW := gW_in (List.mem_append_right _ (List.mem_append_right _ (List.mem_append_right _ (List.mem_append_left _ (List.mem_of_getElem? (l := tables_1_4) (i := 190) (by decide +kernel)))))) rfl
set_option maxRecDepth 20000 in
theorem u_co_X10_isChannelItem : (.code yX10_isChannelItem cX10_isChannelItem 5 (some .boolean) : Cond) ∈ gW := gW_in (List.mem_append_right _ (List.mem_append_right _ (List.mem_append_right _ (List.mem_append_left _ (List.mem_of_getElem? (l := tables_1_4) (i := 191) (rfl)))))) rfl
set_option maxRecDepth 20000 in
theorem u_ml_L_26 : (.methodLink RL 26 yX10_fault : Cond) ∈ gW := gW_in (List.mem_append_right _ (List.mem_append_right _ (List.mem_append_right _ (List.mem_append_left _ (List.mem_of_getElem? (l := tables_1_4) (i := 192) (by decide +kernel)))))) rfl
set_option maxRecDepth 20000 in
theorem u_im_X10_fault : (.instanceMethod yX10_fault : Cond) ∈ gW := gW_in (List.mem_append_right _ (List.mem_append_right _ (List.mem_append_right _ (List.mem_append_left _ (List.mem_of_getElem? (l := tables_1_4) (i := 193) (by decide +kernel)))))) rfl
set_option maxRecDepth 20000 in
theorem u_se_X10_fault : (.selects RX10 yX10_fault yX10_fault : Cond) ∈ gW := gW_in (List.mem_append_right _ (List.mem_append_right _ (List.mem_append_right _ (List.mem_append_left _ (List.mem_of_getElem? (l := tables_1_4) (i := 194) (by decide +kernel)))))) rfl
set_option maxRecDepth 20000 in
theorem u_co_X10_fault : (.code yX10_fault cX10_fault 1 (some .int) : Cond) ∈ gW := gW_in (List.mem_append_right _ (List.mem_append_right _ (List.mem_append_right _ (List.mem_append_left _ (List.mem_of_getElem? (l := tables_1_4) (i := 195) (rfl)))))) rfl
set_option maxRecDepth 20000 in
theorem u_ml_L_30 : (.methodLink RL 30 yX10_told : Cond) ∈ gW := gW_in (List.mem_append_right _ (List.mem_append_right _ (List.mem_append_right _ (List.mem_append_left _ (List.mem_of_getElem? (l := tables_1_4) (i := 196) (by decide +kernel)))))) rfl
set_option maxRecDepth 20000 in
theorem u_im_X10_told : (.instanceMethod yX10_told : Cond) ∈ gW := gW_in (List.mem_append_right _ (List.mem_append_right _ (List.mem_append_right _ (List.mem_append_left _ (List.mem_of_getElem? (l := tables_1_4) (i := 197) (by decide +kernel)))))) rfl
set_option maxRecDepth 20000 in
theorem u_se_X10_told : (.selects RX10 yX10_told yX10_told : Cond) ∈ gW := gW_in (List.mem_append_right _ (List.mem_append_right _ (List.mem_append_right _ (List.mem_append_left _ (List.mem_of_getElem? (l := tables_1_4) (i := 198) (by decide +kernel)))))) rfl
set_option maxRecDepth 20000 in
theorem u_co_X10_told : (.code yX10_told cX10_told 2 (some .int) : Cond) ∈ gW := gW_in (List.mem_append_right _ (List.mem_append_right _ (List.mem_append_right _ (List.mem_append_left _ (List.mem_of_getElem? (l := tables_1_4) (i := 199) (rfl)))))) rfl
set_option maxRecDepth 20000 in
theorem u_ml_X10_172 : (.methodLink RX10 172 yX10_blockedIn : Cond) ∈ gW := gW_in (List.mem_append_right _ (List.mem_append_right _ (List.mem_append_right _ (List.mem_append_left _ (List.mem_of_getElem? (l := tables_1_4) (i := 200) (by decide +kernel)))))) rfl
set_option maxRecDepth 20000 in
theorem u_im_X10_blockedIn : (.instanceMethod yX10_blockedIn : Cond) ∈ gW := gW_in (List.mem_append_right _ (List.mem_append_right _ (List.mem_append_right _ (List.mem_append_left _ (List.mem_of_getElem? (l := tables_1_4) (i := 202) (by decide +kernel)))))) rfl
set_option maxRecDepth 20000 in
theorem u_co_X10_blockedIn : (.code yX10_blockedIn cX10_blockedIn 4 (some .int) : Cond) ∈ gW := gW_in (List.mem_append_right _ (List.mem_append_right _ (List.mem_append_right _ (List.mem_append_left _ (List.mem_of_getElem? (l := tables_1_4) (i := 203) (rfl)))))) rfl
set_option maxRecDepth 20000 in
theorem u_ml_X10_176 : (.methodLink RX10 176 yX10_onTheWay : Cond) ∈ gW := gW_in (List.mem_append_right _ (List.mem_append_right _ (List.mem_append_right _ (List.mem_append_left _ (List.mem_of_getElem? (l := tables_1_4) (i := 204) (by decide +kernel)))))) rfl
set_option maxRecDepth 20000 in
theorem u_im_X10_onTheWay : (.instanceMethod yX10_onTheWay : Cond) ∈ gW := gW_in (List.mem_append_right _ (List.mem_append_right _ (List.mem_append_right _ (List.mem_append_left _ (List.mem_of_getElem? (l := tables_1_4) (i := 206) (by decide +kernel)))))) rfl
set_option maxRecDepth 20000 in
theorem u_co_X10_onTheWay : (.code yX10_onTheWay cX10_onTheWay 3 (some .int) : Cond) ∈ gW := gW_in (List.mem_append_right _ (List.mem_append_right _ (List.mem_append_right _ (List.mem_append_left _ (List.mem_of_getElem? (l := tables_1_4) (i := 207) (rfl)))))) rfl
set_option maxRecDepth 20000 in
theorem u_ml_X10_168 : (.methodLink RX10 168 yX10_bits : Cond) ∈ gW := gW_in (List.mem_append_right _ (List.mem_append_right _ (List.mem_append_right _ (List.mem_append_left _ (List.mem_of_getElem? (l := tables_1_4) (i := 208) (by decide +kernel)))))) rfl
set_option maxRecDepth 20000 in
theorem u_st_X10_bits : (.static yX10_bits : Cond) ∈ gW := gW_in (List.mem_append_right _ (List.mem_append_right _ (List.mem_append_right _ (List.mem_append_left _ (List.mem_of_getElem? (l := tables_1_4) (i := 209) (by decide +kernel)))))) rfl
set_option maxRecDepth 20000 in
theorem u_co_X10_bits : (.code yX10_bits cX10_bits 3 (some .int) : Cond) ∈ gW := gW_in (List.mem_append_right _ (List.mem_append_right _ (List.mem_append_right _ (List.mem_append_left _ (List.mem_of_getElem? (l := tables_1_4) (i := 210) (rfl)))))) rfl
set_option maxRecDepth 20000 in
theorem u_ml_L_35 : (.methodLink RL 35 yX10_place : Cond) ∈ gW := gW_in (List.mem_append_right _ (List.mem_append_right _ (List.mem_append_right _ (List.mem_append_left _ (List.mem_of_getElem? (l := tables_1_4) (i := 211) (by decide +kernel)))))) rfl
set_option maxRecDepth 20000 in
theorem u_im_X10_place : (.instanceMethod yX10_place : Cond) ∈ gW := gW_in (List.mem_append_right _ (List.mem_append_right _ (List.mem_append_right _ (List.mem_append_left _ (List.mem_of_getElem? (l := tables_1_4) (i := 212) (by decide +kernel)))))) rfl
set_option maxRecDepth 20000 in
theorem u_se_X10_place : (.selects RX10 yX10_place yX10_place : Cond) ∈ gW := gW_in (List.mem_append_right _ (List.mem_append_right _ (List.mem_append_right _ (List.mem_append_left _ (List.mem_of_getElem? (l := tables_1_4) (i := 213) (by decide +kernel)))))) rfl
set_option maxRecDepth 20000 in
theorem u_co_X10_place : (.code yX10_place cX10_place 3 (some .int) : Cond) ∈ gW := gW_in (List.mem_append_right _ (List.mem_append_right _ (List.mem_append_right _ (List.mem_append_left _ (List.mem_of_getElem? (l := tables_1_4) (i := 214) (rfl)))))) rfl
set_option maxRecDepth 20000 in
theorem u_ml_X10_180 : (.methodLink RX10 180 yX10_isPlace : Cond) ∈ gW := gW_in (List.mem_append_right _ (List.mem_append_right _ (List.mem_append_right _ (List.mem_append_left _ (List.mem_of_getElem? (l := tables_1_4) (i := 215) (by decide +kernel)))))) rfl
set_option maxRecDepth 20000 in
theorem u_im_X10_isPlace : (.instanceMethod yX10_isPlace : Cond) ∈ gW := gW_in (List.mem_append_right _ (List.mem_append_right _ (List.mem_append_right _ (List.mem_append_left _ (List.mem_of_getElem? (l := tables_1_4) (i := 217) (by decide +kernel)))))) rfl
set_option maxRecDepth 20000 in
theorem u_co_X10_isPlace : (.code yX10_isPlace cX10_isPlace 2 (some .boolean) : Cond) ∈ gW := gW_in (List.mem_append_right _ (List.mem_append_right _ (List.mem_append_right _ (List.mem_append_left _ (List.mem_of_getElem? (l := tables_1_4) (i := 218) (rfl)))))) rfl
set_option maxRecDepth 20000 in
theorem u_k_X10_183 : (.constant RX10 183 (-1000000001) : Cond) ∈ gW := gW_in (List.mem_append_right _ (List.mem_append_right _ (List.mem_append_right _ (List.mem_append_left _ (List.mem_of_getElem? (l := tables_1_4) (i := 219) (by decide +kernel)))))) rfl
set_option maxRecDepth 20000 in
theorem u_ml_L_39 : (.methodLink RL 39 yX10_channel : Cond) ∈ gW := gW_in (List.mem_append_right _ (List.mem_append_right _ (List.mem_append_right _ (List.mem_append_left _ (List.mem_of_getElem? (l := tables_1_4) (i := 220) (by decide +kernel)))))) rfl
set_option maxRecDepth 20000 in
theorem u_im_X10_channel : (.instanceMethod yX10_channel : Cond) ∈ gW := gW_in (List.mem_append_right _ (List.mem_append_right _ (List.mem_append_right _ (List.mem_append_left _ (List.mem_of_getElem? (l := tables_1_4) (i := 221) (by decide +kernel)))))) rfl
set_option maxRecDepth 20000 in
theorem u_se_X10_channel : (.selects RX10 yX10_channel yX10_channel : Cond) ∈ gW := gW_in (List.mem_append_right _ (List.mem_append_right _ (List.mem_append_right _ (List.mem_append_left _ (List.mem_of_getElem? (l := tables_1_4) (i := 222) (by decide +kernel)))))) rfl
set_option maxRecDepth 20000 in
theorem u_co_X10_channel : (.code yX10_channel cX10_channel 3 (some .int) : Cond) ∈ gW := gW_in (List.mem_append_right _ (List.mem_append_right _ (List.mem_append_right _ (List.mem_append_left _ (List.mem_of_getElem? (l := tables_1_4) (i := 223) (rfl)))))) rfl
set_option maxRecDepth 20000 in
theorem u_ml_X10_184 : (.methodLink RX10 184 yX10_isChannel : Cond) ∈ gW := gW_in (List.mem_append_right _ (List.mem_append_right _ (List.mem_append_right _ (List.mem_append_left _ (List.mem_of_getElem? (l := tables_1_4) (i := 224) (by decide +kernel)))))) rfl
set_option maxRecDepth 20000 in
theorem u_im_X10_isChannel : (.instanceMethod yX10_isChannel : Cond) ∈ gW := gW_in (List.mem_append_right _ (List.mem_append_right _ (List.mem_append_right _ (List.mem_append_left _ (List.mem_of_getElem? (l := tables_1_4) (i := 226) (by decide +kernel)))))) rfl
set_option maxRecDepth 20000 in
theorem u_co_X10_isChannel : (.code yX10_isChannel cX10_isChannel 2 (some .boolean) : Cond) ∈ gW := gW_in (List.mem_append_right _ (List.mem_append_right _ (List.mem_append_right _ (List.mem_append_left _ (List.mem_of_getElem? (l := tables_1_4) (i := 227) (rfl)))))) rfl
set_option maxRecDepth 20000 in
theorem u_ml_L_43 : (.methodLink RL 43 yX10_first : Cond) ∈ gW := gW_in (List.mem_append_right _ (List.mem_append_right _ (List.mem_append_right _ (List.mem_append_left _ (List.mem_of_getElem? (l := tables_1_4) (i := 228) (by decide +kernel)))))) rfl
set_option maxRecDepth 20000 in
theorem u_im_X10_first : (.instanceMethod yX10_first : Cond) ∈ gW := gW_in (List.mem_append_right _ (List.mem_append_right _ (List.mem_append_right _ (List.mem_append_left _ (List.mem_of_getElem? (l := tables_1_4) (i := 229) (by decide +kernel)))))) rfl
set_option maxRecDepth 20000 in
theorem u_se_X10_first : (.selects RX10 yX10_first yX10_first : Cond) ∈ gW := gW_in (List.mem_append_right _ (List.mem_append_right _ (List.mem_append_right _ (List.mem_append_left _ (List.mem_of_getElem? (l := tables_1_4) (i := 230) (by decide +kernel)))))) rfl
set_option maxRecDepth 20000 in
theorem u_co_X10_first : (.code yX10_first cX10_first 3 (some .int) : Cond) ∈ gW := gW_in (List.mem_append_right _ (List.mem_append_right _ (List.mem_append_right _ (List.mem_append_left _ (List.mem_of_getElem? (l := tables_1_4) (i := 231) (rfl)))))) rfl
set_option maxRecDepth 20000 in
theorem u_ml_X10_187 : (.methodLink RX10 187 yX10_isSaying : Cond) ∈ gW := gW_in (List.mem_append_right _ (List.mem_append_right _ (List.mem_append_right _ (List.mem_append_left _ (List.mem_of_getElem? (l := tables_1_4) (i := 232) (by decide +kernel)))))) rfl
set_option maxRecDepth 20000 in
theorem u_st_X10_isSaying : (.static yX10_isSaying : Cond) ∈ gW := gW_in (List.mem_append_right _ (List.mem_append_right _ (List.mem_append_right _ (List.mem_append_left _ (List.mem_of_getElem? (l := tables_1_4) (i := 233) (by decide +kernel)))))) rfl
set_option maxRecDepth 20000 in
theorem u_co_X10_isSaying : (.code yX10_isSaying cX10_isSaying 1 (some .boolean) : Cond) ∈ gW := gW_in (List.mem_append_right _ (List.mem_append_right _ (List.mem_append_right _ (List.mem_append_left _ (List.mem_of_getElem? (l := tables_1_4) (i := 234) (rfl)))))) rfl
set_option maxRecDepth 20000 in
theorem u_ml_L_47 : (.methodLink RL 47 yX10_letIn : Cond) ∈ gW := gW_in (List.mem_append_right _ (List.mem_append_right _ (List.mem_append_right _ (List.mem_append_left _ (List.mem_of_getElem? (l := tables_1_4) (i := 235) (by decide +kernel)))))) rfl
set_option maxRecDepth 20000 in
theorem u_im_X10_letIn : (.instanceMethod yX10_letIn : Cond) ∈ gW := gW_in (List.mem_append_right _ (List.mem_append_right _ (List.mem_append_right _ (List.mem_append_left _ (List.mem_of_getElem? (l := tables_1_4) (i := 236) (by decide +kernel)))))) rfl
set_option maxRecDepth 20000 in
theorem u_se_X10_letIn : (.selects RX10 yX10_letIn yX10_letIn : Cond) ∈ gW := gW_in (List.mem_append_right _ (List.mem_append_right _ (List.mem_append_right _ (List.mem_append_left _ (List.mem_of_getElem? (l := tables_1_4) (i := 237) (by decide +kernel)))))) rfl
set_option maxRecDepth 20000 in
theorem u_co_X10_letIn : (.code yX10_letIn cX10_letIn 2 (some .int) : Cond) ∈ gW := gW_in (List.mem_append_right _ (List.mem_append_right _ (List.mem_append_right _ (List.mem_append_left _ (List.mem_of_getElem? (l := tables_1_4) (i := 238) (rfl)))))) rfl
set_option maxRecDepth 20000 in
theorem u_k_X10_205 : (.constant RX10 205 (-1000000003) : Cond) ∈ gW := gW_in (List.mem_append_right _ (List.mem_append_right _ (List.mem_append_right _ (List.mem_append_left _ (List.mem_of_getElem? (l := tables_1_4) (i := 239) (by decide +kernel)))))) rfl
set_option maxRecDepth 20000 in
theorem u_ml_X10_206 : (.methodLink RX10 206 yX10_note : Cond) ∈ gW := gW_in (List.mem_append_right _ (List.mem_append_right _ (List.mem_append_right _ (List.mem_append_right _ (List.mem_of_getElem? (l := tables_1_5) (i := 0) (by decide +kernel)))))) rfl
set_option maxRecDepth 20000 in
theorem u_im_X10_note : (.instanceMethod yX10_note : Cond) ∈ gW := gW_in (List.mem_append_right _ (List.mem_append_right _ (List.mem_append_right _ (List.mem_append_right _ (List.mem_of_getElem? (l := tables_1_5) (i := 2) (by decide +kernel)))))) rfl
set_option maxRecDepth 20000 in
theorem u_co_X10_note : (.code yX10_note cX10_note 2 none : Cond) ∈ gW := gW_in (List.mem_append_right _ (List.mem_append_right _ (List.mem_append_right _ (List.mem_append_right _ (List.mem_of_getElem? (l := tables_1_5) (i := 3) (rfl)))))) rfl
set_option maxRecDepth 20000 in
theorem u_ml_X10_190 : (.methodLink RX10 190 yX10_copy : Cond) ∈ gW := gW_in (List.mem_append_right _ (List.mem_append_right _ (List.mem_append_right _ (List.mem_append_right _ (List.mem_of_getElem? (l := tables_1_5) (i := 4) (by decide +kernel)))))) rfl
set_option maxRecDepth 20000 in
theorem u_st_X10_copy : (.static yX10_copy : Cond) ∈ gW := gW_in (List.mem_append_right _ (List.mem_append_right _ (List.mem_append_right _ (List.mem_append_right _ (List.mem_of_getElem? (l := tables_1_5) (i := 5) (by decide +kernel)))))) rfl
set_option maxRecDepth 20000 in
theorem u_co_X10_copy : (.code yX10_copy cX10_copy 5 none : Cond) ∈ gW := gW_in (List.mem_append_right _ (List.mem_append_right _ (List.mem_append_right _ (List.mem_append_right _ (List.mem_of_getElem? (l := tables_1_5) (i := 6) (rfl)))))) rfl
set_option maxRecDepth 20000 in
theorem u_ml_L_51 : (.methodLink RL 51 yX10_hour : Cond) ∈ gW := gW_in (List.mem_append_right _ (List.mem_append_right _ (List.mem_append_right _ (List.mem_append_right _ (List.mem_of_getElem? (l := tables_1_5) (i := 7) (by decide +kernel)))))) rfl
set_option maxRecDepth 20000 in
theorem u_im_X10_hour : (.instanceMethod yX10_hour : Cond) ∈ gW := gW_in (List.mem_append_right _ (List.mem_append_right _ (List.mem_append_right _ (List.mem_append_right _ (List.mem_of_getElem? (l := tables_1_5) (i := 8) (by decide +kernel)))))) rfl
set_option maxRecDepth 20000 in
theorem u_se_X10_hour : (.selects RX10 yX10_hour yX10_hour : Cond) ∈ gW := gW_in (List.mem_append_right _ (List.mem_append_right _ (List.mem_append_right _ (List.mem_append_right _ (List.mem_of_getElem? (l := tables_1_5) (i := 9) (by decide +kernel)))))) rfl
set_option maxRecDepth 20000 in
theorem u_co_X10_hour : (.code yX10_hour cX10_hour 3 (some .int) : Cond) ∈ gW := gW_in (List.mem_append_right _ (List.mem_append_right _ (List.mem_append_right _ (List.mem_append_right _ (List.mem_of_getElem? (l := tables_1_5) (i := 10) (rfl)))))) rfl
set_option maxRecDepth 20000 in
theorem u_ml_X10_209 : (.methodLink RX10 209 yX10_passHour : Cond) ∈ gW := gW_in (List.mem_append_right _ (List.mem_append_right _ (List.mem_append_right _ (List.mem_append_right _ (List.mem_of_getElem? (l := tables_1_5) (i := 11) (by decide +kernel)))))) rfl
set_option maxRecDepth 20000 in
theorem u_im_X10_passHour : (.instanceMethod yX10_passHour : Cond) ∈ gW := gW_in (List.mem_append_right _ (List.mem_append_right _ (List.mem_append_right _ (List.mem_append_right _ (List.mem_of_getElem? (l := tables_1_5) (i := 13) (by decide +kernel)))))) rfl
set_option maxRecDepth 20000 in
theorem u_co_X10_passHour : (.code yX10_passHour cX10_passHour 7 none : Cond) ∈ gW := gW_in (List.mem_append_right _ (List.mem_append_right _ (List.mem_append_right _ (List.mem_append_right _ (List.mem_of_getElem? (l := tables_1_5) (i := 14) (rfl)))))) rfl
set_option maxRecDepth 20000 in
theorem u_ml_X10_197 : (.methodLink RX10 197 yX10_hearAt : Cond) ∈ gW := gW_in (List.mem_append_right _ (List.mem_append_right _ (List.mem_append_right _ (List.mem_append_right _ (List.mem_of_getElem? (l := tables_1_5) (i := 15) (by decide +kernel)))))) rfl
set_option maxRecDepth 20000 in
theorem u_st_X10_hearAt : (.static yX10_hearAt : Cond) ∈ gW := gW_in (List.mem_append_right _ (List.mem_append_right _ (List.mem_append_right _ (List.mem_append_right _ (List.mem_of_getElem? (l := tables_1_5) (i := 16) (by decide +kernel)))))) rfl
set_option maxRecDepth 20000 in
theorem u_co_X10_hearAt : (.code yX10_hearAt cX10_hearAt 5 none : Cond) ∈ gW := gW_in (List.mem_append_right _ (List.mem_append_right _ (List.mem_append_right _ (List.mem_append_right _ (List.mem_of_getElem? (l := tables_1_5) (i := 17) (rfl)))))) rfl
set_option maxRecDepth 20000 in
theorem u_ml_X10_194 : (.methodLink RX10 194 yX10_has : Cond) ∈ gW := gW_in (List.mem_append_right _ (List.mem_append_right _ (List.mem_append_right _ (List.mem_append_right _ (List.mem_of_getElem? (l := tables_1_5) (i := 18) (by decide +kernel)))))) rfl
set_option maxRecDepth 20000 in
theorem u_st_X10_has : (.static yX10_has : Cond) ∈ gW := gW_in (List.mem_append_right _ (List.mem_append_right _ (List.mem_append_right _ (List.mem_append_right _ (List.mem_of_getElem? (l := tables_1_5) (i := 19) (by decide +kernel)))))) rfl
set_option maxRecDepth 20000 in
theorem u_co_X10_has : (.code yX10_has cX10_has 2 (some .boolean) : Cond) ∈ gW := gW_in (List.mem_append_right _ (List.mem_append_right _ (List.mem_append_right _ (List.mem_append_right _ (List.mem_of_getElem? (l := tables_1_5) (i := 20) (rfl)))))) rfl
set_option maxRecDepth 20000 in
theorem u_ml_X10_201 : (.methodLink RX10 201 yX10_goesOn : Cond) ∈ gW := gW_in (List.mem_append_right _ (List.mem_append_right _ (List.mem_append_right _ (List.mem_append_right _ (List.mem_of_getElem? (l := tables_1_5) (i := 21) (by decide +kernel)))))) rfl
set_option maxRecDepth 20000 in
theorem u_im_X10_goesOn : (.instanceMethod yX10_goesOn : Cond) ∈ gW := gW_in (List.mem_append_right _ (List.mem_append_right _ (List.mem_append_right _ (List.mem_append_right _ (List.mem_of_getElem? (l := tables_1_5) (i := 23) (by decide +kernel)))))) rfl
set_option maxRecDepth 20000 in
theorem u_co_X10_goesOn : (.code yX10_goesOn cX10_goesOn 4 (some .int) : Cond) ∈ gW := gW_in (List.mem_append_right _ (List.mem_append_right _ (List.mem_append_right _ (List.mem_append_right _ (List.mem_of_getElem? (l := tables_1_5) (i := 24) (rfl)))))) rfl
set_option maxRecDepth 20000 in
theorem u_ml_L_56 : (.methodLink RL 56 yX10_gate : Cond) ∈ gW := gW_in (List.mem_append_right _ (List.mem_append_right _ (List.mem_append_right _ (List.mem_append_right _ (List.mem_of_getElem? (l := tables_1_5) (i := 25) (by decide +kernel)))))) rfl
set_option maxRecDepth 20000 in
theorem u_im_X10_gate : (.instanceMethod yX10_gate : Cond) ∈ gW := gW_in (List.mem_append_right _ (List.mem_append_right _ (List.mem_append_right _ (List.mem_append_right _ (List.mem_of_getElem? (l := tables_1_5) (i := 26) (by decide +kernel)))))) rfl
set_option maxRecDepth 20000 in
theorem u_se_X10_gate : (.selects RX10 yX10_gate yX10_gate : Cond) ∈ gW := gW_in (List.mem_append_right _ (List.mem_append_right _ (List.mem_append_right _ (List.mem_append_right _ (List.mem_of_getElem? (l := tables_1_5) (i := 27) (by decide +kernel)))))) rfl
set_option maxRecDepth 20000 in
theorem u_co_X10_gate : (.code yX10_gate cX10_gate 4 (some .int) : Cond) ∈ gW := gW_in (List.mem_append_right _ (List.mem_append_right _ (List.mem_append_right _ (List.mem_append_right _ (List.mem_of_getElem? (l := tables_1_5) (i := 28) (rfl)))))) rfl
set_option maxRecDepth 20000 in
theorem u_ml_L_60 : (.methodLink RL 60 yX10_clear : Cond) ∈ gW := gW_in (List.mem_append_right _ (List.mem_append_right _ (List.mem_append_right _ (List.mem_append_right _ (List.mem_of_getElem? (l := tables_1_5) (i := 29) (by decide +kernel)))))) rfl
set_option maxRecDepth 20000 in
theorem u_im_X10_clear : (.instanceMethod yX10_clear : Cond) ∈ gW := gW_in (List.mem_append_right _ (List.mem_append_right _ (List.mem_append_right _ (List.mem_append_right _ (List.mem_of_getElem? (l := tables_1_5) (i := 30) (by decide +kernel)))))) rfl
set_option maxRecDepth 20000 in
theorem u_se_X10_clear : (.selects RX10 yX10_clear yX10_clear : Cond) ∈ gW := gW_in (List.mem_append_right _ (List.mem_append_right _ (List.mem_append_right _ (List.mem_append_right _ (List.mem_of_getElem? (l := tables_1_5) (i := 31) (by decide +kernel)))))) rfl
set_option maxRecDepth 20000 in
theorem u_co_X10_clear : (.code yX10_clear cX10_clear 3 (some .int) : Cond) ∈ gW := gW_in (List.mem_append_right _ (List.mem_append_right _ (List.mem_append_right _ (List.mem_append_right _ (List.mem_of_getElem? (l := tables_1_5) (i := 32) (rfl)))))) rfl
set_option maxRecDepth 20000 in
theorem u_ml_L_64 : (.methodLink RL 64 yX10_crack : Cond) ∈ gW := gW_in (List.mem_append_right _ (List.mem_append_right _ (List.mem_append_right _ (List.mem_append_right _ (List.mem_of_getElem? (l := tables_1_5) (i := 33) (by decide +kernel)))))) rfl
set_option maxRecDepth 20000 in
theorem u_im_X10_crack : (.instanceMethod yX10_crack : Cond) ∈ gW := gW_in (List.mem_append_right _ (List.mem_append_right _ (List.mem_append_right _ (List.mem_append_right _ (List.mem_of_getElem? (l := tables_1_5) (i := 34) (by decide +kernel)))))) rfl
set_option maxRecDepth 20000 in
theorem u_se_X10_crack : (.selects RX10 yX10_crack yX10_crack : Cond) ∈ gW := gW_in (List.mem_append_right _ (List.mem_append_right _ (List.mem_append_right _ (List.mem_append_right _ (List.mem_of_getElem? (l := tables_1_5) (i := 35) (by decide +kernel)))))) rfl
set_option maxRecDepth 20000 in
theorem u_co_X10_crack : (.code yX10_crack cX10_crack 4 (some .int) : Cond) ∈ gW := gW_in (List.mem_append_right _ (List.mem_append_right _ (List.mem_append_right _ (List.mem_append_right _ (List.mem_of_getElem? (l := tables_1_5) (i := 36) (rfl)))))) rfl
set_option maxRecDepth 20000 in
theorem u_ml_L_68 : (.methodLink RL 68 yX10_empty : Cond) ∈ gW := gW_in (List.mem_append_right _ (List.mem_append_right _ (List.mem_append_right _ (List.mem_append_right _ (List.mem_of_getElem? (l := tables_1_5) (i := 37) (by decide +kernel)))))) rfl
set_option maxRecDepth 20000 in
theorem u_im_X10_empty : (.instanceMethod yX10_empty : Cond) ∈ gW := gW_in (List.mem_append_right _ (List.mem_append_right _ (List.mem_append_right _ (List.mem_append_right _ (List.mem_of_getElem? (l := tables_1_5) (i := 38) (by decide +kernel)))))) rfl
set_option maxRecDepth 20000 in
theorem u_se_X10_empty : (.selects RX10 yX10_empty yX10_empty : Cond) ∈ gW := gW_in (List.mem_append_right _ (List.mem_append_right _ (List.mem_append_right _ (List.mem_append_right _ (List.mem_of_getElem? (l := tables_1_5) (i := 39) (by decide +kernel)))))) rfl
set_option maxRecDepth 20000 in
theorem u_co_X10_empty : (.code yX10_empty cX10_empty 2 (some .int) : Cond) ∈ gW := gW_in (List.mem_append_right _ (List.mem_append_right _ (List.mem_append_right _ (List.mem_append_right _ (List.mem_of_getElem? (l := tables_1_5) (i := 40) (rfl)))))) rfl
set_option maxRecDepth 20000 in
theorem u_ml_L_72 : (.methodLink RL 72 yX10_drift : Cond) ∈ gW := gW_in (List.mem_append_right _ (List.mem_append_right _ (List.mem_append_right _ (List.mem_append_right _ (List.mem_of_getElem? (l := tables_1_5) (i := 41) (by decide +kernel)))))) rfl
set_option maxRecDepth 20000 in
theorem u_im_X10_drift : (.instanceMethod yX10_drift : Cond) ∈ gW := gW_in (List.mem_append_right _ (List.mem_append_right _ (List.mem_append_right _ (List.mem_append_right _ (List.mem_of_getElem? (l := tables_1_5) (i := 42) (by decide +kernel)))))) rfl
set_option maxRecDepth 20000 in
theorem u_se_X10_drift : (.selects RX10 yX10_drift yX10_drift : Cond) ∈ gW := gW_in (List.mem_append_right _ (List.mem_append_right _ (List.mem_append_right _ (List.mem_append_right _ (List.mem_of_getElem? (l := tables_1_5) (i := 43) (by decide +kernel)))))) rfl
set_option maxRecDepth 20000 in
theorem u_co_X10_drift : (.code yX10_drift cX10_drift 3 (some .int) : Cond) ∈ gW := gW_in (List.mem_append_right _ (List.mem_append_right _ (List.mem_append_right _ (List.mem_append_right _ (List.mem_of_getElem? (l := tables_1_5) (i := 44) (rfl)))))) rfl
set_option maxRecDepth 20000 in
theorem u_ml_X10_222 : (.methodLink RX10 222 yX10_draw : Cond) ∈ gW := gW_in (List.mem_append_right _ (List.mem_append_right _ (List.mem_append_right _ (List.mem_append_right _ (List.mem_of_getElem? (l := tables_1_5) (i := 45) (by decide +kernel)))))) rfl
set_option maxRecDepth 20000 in
theorem u_im_X10_draw : (.instanceMethod yX10_draw : Cond) ∈ gW := gW_in (List.mem_append_right _ (List.mem_append_right _ (List.mem_append_right _ (List.mem_append_right _ (List.mem_of_getElem? (l := tables_1_5) (i := 47) (by decide +kernel)))))) rfl
set_option maxRecDepth 20000 in
theorem u_co_X10_draw : (.code yX10_draw cX10_draw 2 (some .int) : Cond) ∈ gW := gW_in (List.mem_append_right _ (List.mem_append_right _ (List.mem_append_right _ (List.mem_append_right _ (List.mem_of_getElem? (l := tables_1_5) (i := 48) (rfl)))))) rfl
set_option maxRecDepth 20000 in
theorem u_kl_X10_215 : (.constantLong RX10 215 (1103515245) : Cond) ∈ gW := gW_in (List.mem_append_right _ (List.mem_append_right _ (List.mem_append_right _ (List.mem_append_right _ (List.mem_of_getElem? (l := tables_1_5) (i := 49) (by decide +kernel)))))) rfl
set_option maxRecDepth 20000 in
theorem u_kl_X10_217 : (.constantLong RX10 217 (12345) : Cond) ∈ gW := gW_in (List.mem_append_right _ (List.mem_append_right _ (List.mem_append_right _ (List.mem_append_right _ (List.mem_of_getElem? (l := tables_1_5) (i := 50) (by decide +kernel)))))) rfl
set_option maxRecDepth 20000 in
theorem u_kl_X10_219 : (.constantLong RX10 219 (2147483648) : Cond) ∈ gW := gW_in (List.mem_append_right _ (List.mem_append_right _ (List.mem_append_right _ (List.mem_append_right _ (List.mem_of_getElem? (l := tables_1_5) (i := 51) (by decide +kernel)))))) rfl
set_option maxRecDepth 20000 in
theorem u_k_X10_221 : (.constant RX10 221 (65536) : Cond) ∈ gW := gW_in (List.mem_append_right _ (List.mem_append_right _ (List.mem_append_right _ (List.mem_append_right _ (List.mem_of_getElem? (l := tables_1_5) (i := 52) (by decide +kernel)))))) rfl
set_option maxRecDepth 20000 in
theorem u_ml_L_76 : (.methodLink RL 76 yX10_undo : Cond) ∈ gW := gW_in (List.mem_append_right _ (List.mem_append_right _ (List.mem_append_right _ (List.mem_append_right _ (List.mem_of_getElem? (l := tables_1_5) (i := 53) (by decide +kernel)))))) rfl
set_option maxRecDepth 20000 in
theorem u_im_X10_undo : (.instanceMethod yX10_undo : Cond) ∈ gW := gW_in (List.mem_append_right _ (List.mem_append_right _ (List.mem_append_right _ (List.mem_append_right _ (List.mem_of_getElem? (l := tables_1_5) (i := 54) (by decide +kernel)))))) rfl
set_option maxRecDepth 20000 in
theorem u_se_X10_undo : (.selects RX10 yX10_undo yX10_undo : Cond) ∈ gW := gW_in (List.mem_append_right _ (List.mem_append_right _ (List.mem_append_right _ (List.mem_append_right _ (List.mem_of_getElem? (l := tables_1_5) (i := 55) (by decide +kernel)))))) rfl
set_option maxRecDepth 20000 in
theorem u_co_X10_undo : (.code yX10_undo cX10_undo 1 (some .int) : Cond) ∈ gW := gW_in (List.mem_append_right _ (List.mem_append_right _ (List.mem_append_right _ (List.mem_append_right _ (List.mem_of_getElem? (l := tables_1_5) (i := 56) (rfl)))))) rfl
set_option maxRecDepth 20000 in
theorem u_ml_L_80 : (.methodLink RL 80 yX10_hears : Cond) ∈ gW := gW_in (List.mem_append_right _ (List.mem_append_right _ (List.mem_append_right _ (List.mem_append_right _ (List.mem_of_getElem? (l := tables_1_5) (i := 57) (by decide +kernel)))))) rfl
set_option maxRecDepth 20000 in
theorem u_im_X10_hears : (.instanceMethod yX10_hears : Cond) ∈ gW := gW_in (List.mem_append_right _ (List.mem_append_right _ (List.mem_append_right _ (List.mem_append_right _ (List.mem_of_getElem? (l := tables_1_5) (i := 58) (by decide +kernel)))))) rfl
set_option maxRecDepth 20000 in
theorem u_se_X10_hears : (.selects RX10 yX10_hears yX10_hears : Cond) ∈ gW := gW_in (List.mem_append_right _ (List.mem_append_right _ (List.mem_append_right _ (List.mem_append_right _ (List.mem_of_getElem? (l := tables_1_5) (i := 59) (by decide +kernel)))))) rfl
set_option maxRecDepth 20000 in
theorem u_co_X10_hears : (.code yX10_hears cX10_hears 3 (some .int) : Cond) ∈ gW := gW_in (List.mem_append_right _ (List.mem_append_right _ (List.mem_append_right _ (List.mem_append_right _ (List.mem_of_getElem? (l := tables_1_5) (i := 60) (rfl)))))) rfl
set_option maxRecDepth 20000 in
theorem u_ml_X10_225 : (.methodLink RX10 225 yX10_layTried : Cond) ∈ gW := gW_in (List.mem_append_right _ (List.mem_append_right _ (List.mem_append_right _ (List.mem_append_right _ (List.mem_of_getElem? (l := tables_1_5) (i := 61) (by decide +kernel)))))) rfl
set_option maxRecDepth 20000 in
theorem u_im_X10_layTried : (.instanceMethod yX10_layTried : Cond) ∈ gW := gW_in (List.mem_append_right _ (List.mem_append_right _ (List.mem_append_right _ (List.mem_append_right _ (List.mem_of_getElem? (l := tables_1_5) (i := 63) (by decide +kernel)))))) rfl
set_option maxRecDepth 20000 in
theorem u_co_X10_layTried : (.code yX10_layTried cX10_layTried 3 none : Cond) ∈ gW := gW_in (List.mem_append_right _ (List.mem_append_right _ (List.mem_append_right _ (List.mem_append_right _ (List.mem_of_getElem? (l := tables_1_5) (i := 64) (rfl)))))) rfl
set_option maxRecDepth 20000 in
theorem u_ml_L_84 : (.methodLink RL 84 yX10_soonest : Cond) ∈ gW := gW_in (List.mem_append_right _ (List.mem_append_right _ (List.mem_append_right _ (List.mem_append_right _ (List.mem_of_getElem? (l := tables_1_5) (i := 65) (by decide +kernel)))))) rfl
set_option maxRecDepth 20000 in
theorem u_im_X10_soonest : (.instanceMethod yX10_soonest : Cond) ∈ gW := gW_in (List.mem_append_right _ (List.mem_append_right _ (List.mem_append_right _ (List.mem_append_right _ (List.mem_of_getElem? (l := tables_1_5) (i := 66) (by decide +kernel)))))) rfl
set_option maxRecDepth 20000 in
theorem u_se_X10_soonest : (.selects RX10 yX10_soonest yX10_soonest : Cond) ∈ gW := gW_in (List.mem_append_right _ (List.mem_append_right _ (List.mem_append_right _ (List.mem_append_right _ (List.mem_of_getElem? (l := tables_1_5) (i := 67) (by decide +kernel)))))) rfl
set_option maxRecDepth 20000 in
theorem u_co_X10_soonest : (.code yX10_soonest cX10_soonest 6 (some .int) : Cond) ∈ gW := gW_in (List.mem_append_right _ (List.mem_append_right _ (List.mem_append_right _ (List.mem_append_right _ (List.mem_of_getElem? (l := tables_1_5) (i := 68) (rfl)))))) rfl
set_option maxRecDepth 20000 in
theorem u_ml_L_89 : (.methodLink RL 89 yX10_gates : Cond) ∈ gW := gW_in (List.mem_append_right _ (List.mem_append_right _ (List.mem_append_right _ (List.mem_append_right _ (List.mem_of_getElem? (l := tables_1_5) (i := 69) (by decide +kernel)))))) rfl
set_option maxRecDepth 20000 in
theorem u_im_X10_gates : (.instanceMethod yX10_gates : Cond) ∈ gW := gW_in (List.mem_append_right _ (List.mem_append_right _ (List.mem_append_right _ (List.mem_append_right _ (List.mem_of_getElem? (l := tables_1_5) (i := 70) (by decide +kernel)))))) rfl
set_option maxRecDepth 20000 in
theorem u_se_X10_gates : (.selects RX10 yX10_gates yX10_gates : Cond) ∈ gW := gW_in (List.mem_append_right _ (List.mem_append_right _ (List.mem_append_right _ (List.mem_append_right _ (List.mem_of_getElem? (l := tables_1_5) (i := 71) (by decide +kernel)))))) rfl
set_option maxRecDepth 20000 in
theorem u_co_X10_gates : (.code yX10_gates cX10_gates 8 (some .int) : Cond) ∈ gW := gW_in (List.mem_append_right _ (List.mem_append_right _ (List.mem_append_right _ (List.mem_append_right _ (List.mem_of_getElem? (l := tables_1_5) (i := 72) (rfl)))))) rfl
set_option maxRecDepth 20000 in
theorem u_ml_X10_229 : (.methodLink RX10 229 yX10_layComes : Cond) ∈ gW := gW_in (List.mem_append_right _ (List.mem_append_right _ (List.mem_append_right _ (List.mem_append_right _ (List.mem_of_getElem? (l := tables_1_5) (i := 73) (by decide +kernel)))))) rfl
set_option maxRecDepth 20000 in
theorem u_im_X10_layComes : (.instanceMethod yX10_layComes : Cond) ∈ gW := gW_in (List.mem_append_right _ (List.mem_append_right _ (List.mem_append_right _ (List.mem_append_right _ (List.mem_of_getElem? (l := tables_1_5) (i := 75) (by decide +kernel)))))) rfl
set_option maxRecDepth 20000 in
theorem u_co_X10_layComes : (.code yX10_layComes cX10_layComes 11 none : Cond) ∈ gW := gW_in (List.mem_append_right _ (List.mem_append_right _ (List.mem_append_right _ (List.mem_append_right _ (List.mem_of_getElem? (l := tables_1_5) (i := 76) (rfl)))))) rfl
set_option maxRecDepth 20000 in
theorem u_ml_L_93 : (.methodLink RL 93 yX10_cut : Cond) ∈ gW := gW_in (List.mem_append_right _ (List.mem_append_right _ (List.mem_append_right _ (List.mem_append_right _ (List.mem_of_getElem? (l := tables_1_5) (i := 77) (by decide +kernel)))))) rfl
set_option maxRecDepth 20000 in
theorem u_im_X10_cut : (.instanceMethod yX10_cut : Cond) ∈ gW := gW_in (List.mem_append_right _ (List.mem_append_right _ (List.mem_append_right _ (List.mem_append_right _ (List.mem_of_getElem? (l := tables_1_5) (i := 78) (by decide +kernel)))))) rfl
set_option maxRecDepth 20000 in
theorem u_se_X10_cut : (.selects RX10 yX10_cut yX10_cut : Cond) ∈ gW := gW_in (List.mem_append_right _ (List.mem_append_right _ (List.mem_append_right _ (List.mem_append_right _ (List.mem_of_getElem? (l := tables_1_5) (i := 79) (by decide +kernel)))))) rfl
set_option maxRecDepth 20000 in
theorem u_co_X10_cut : (.code yX10_cut cX10_cut 6 (some .int) : Cond) ∈ gW := gW_in (List.mem_append_right _ (List.mem_append_right _ (List.mem_append_right _ (List.mem_append_right _ (List.mem_of_getElem? (l := tables_1_5) (i := 80) (rfl)))))) rfl
set_option maxRecDepth 20000 in
theorem u_ml_L_97 : (.methodLink RL 97 yX10_meet : Cond) ∈ gW := gW_in (List.mem_append_right _ (List.mem_append_right _ (List.mem_append_right _ (List.mem_append_right _ (List.mem_of_getElem? (l := tables_1_5) (i := 81) (by decide +kernel)))))) rfl
set_option maxRecDepth 20000 in
theorem u_im_X10_meet : (.instanceMethod yX10_meet : Cond) ∈ gW := gW_in (List.mem_append_right _ (List.mem_append_right _ (List.mem_append_right _ (List.mem_append_right _ (List.mem_of_getElem? (l := tables_1_5) (i := 82) (by decide +kernel)))))) rfl
set_option maxRecDepth 20000 in
theorem u_se_X10_meet : (.selects RX10 yX10_meet yX10_meet : Cond) ∈ gW := gW_in (List.mem_append_right _ (List.mem_append_right _ (List.mem_append_right _ (List.mem_append_right _ (List.mem_of_getElem? (l := tables_1_5) (i := 83) (by decide +kernel)))))) rfl
set_option maxRecDepth 20000 in
theorem u_co_X10_meet : (.code yX10_meet cX10_meet 9 (some .int) : Cond) ∈ gW := gW_in (List.mem_append_right _ (List.mem_append_right _ (List.mem_append_right _ (List.mem_append_right _ (List.mem_of_getElem? (l := tables_1_5) (i := 84) (rfl)))))) rfl
set_option maxRecDepth 20000 in
theorem u_ml_X10_235 : (.methodLink RX10 235 yX10_layHours : Cond) ∈ gW := gW_in (List.mem_append_right _ (List.mem_append_right _ (List.mem_append_right _ (List.mem_append_right _ (List.mem_of_getElem? (l := tables_1_5) (i := 85) (by decide +kernel)))))) rfl
set_option maxRecDepth 20000 in
theorem u_im_X10_layHours : (.instanceMethod yX10_layHours : Cond) ∈ gW := gW_in (List.mem_append_right _ (List.mem_append_right _ (List.mem_append_right _ (List.mem_append_right _ (List.mem_of_getElem? (l := tables_1_5) (i := 87) (by decide +kernel)))))) rfl
set_option maxRecDepth 20000 in
theorem u_co_X10_layHours : (.code yX10_layHours cX10_layHours 9 none : Cond) ∈ gW := gW_in (List.mem_append_right _ (List.mem_append_right _ (List.mem_append_right _ (List.mem_append_right _ (List.mem_of_getElem? (l := tables_1_5) (i := 88) (rfl)))))) rfl
set_option maxRecDepth 20000 in
theorem u_kl_X10_233 : (.constantLong RX10 233 (2305843009213693951) : Cond) ∈ gW := gW_in (List.mem_append_right _ (List.mem_append_right _ (List.mem_append_right _ (List.mem_append_right _ (List.mem_of_getElem? (l := tables_1_5) (i := 89) (by decide +kernel)))))) rfl
set_option maxRecDepth 20000 in
theorem u_ml_L_101 : (.methodLink RL 101 yX10_longest : Cond) ∈ gW := gW_in (List.mem_append_right _ (List.mem_append_right _ (List.mem_append_right _ (List.mem_append_right _ (List.mem_of_getElem? (l := tables_1_5) (i := 90) (by decide +kernel)))))) rfl
set_option maxRecDepth 20000 in
theorem u_im_X10_longest : (.instanceMethod yX10_longest : Cond) ∈ gW := gW_in (List.mem_append_right _ (List.mem_append_right _ (List.mem_append_right _ (List.mem_append_right _ (List.mem_of_getElem? (l := tables_1_5) (i := 91) (by decide +kernel)))))) rfl
set_option maxRecDepth 20000 in
theorem u_se_X10_longest : (.selects RX10 yX10_longest yX10_longest : Cond) ∈ gW := gW_in (List.mem_append_right _ (List.mem_append_right _ (List.mem_append_right _ (List.mem_append_right _ (List.mem_of_getElem? (l := tables_1_5) (i := 92) (by decide +kernel)))))) rfl
set_option maxRecDepth 20000 in
theorem u_co_X10_longest : (.code yX10_longest cX10_longest 2 (some .int) : Cond) ∈ gW := gW_in (List.mem_append_right _ (List.mem_append_right _ (List.mem_append_right _ (List.mem_append_right _ (List.mem_of_getElem? (l := tables_1_5) (i := 93) (rfl)))))) rfl
set_option maxRecDepth 20000 in
theorem u_ml_X10_242 : (.methodLink RX10 242 yX10_layWays : Cond) ∈ gW := gW_in (List.mem_append_right _ (List.mem_append_right _ (List.mem_append_right _ (List.mem_append_right _ (List.mem_of_getElem? (l := tables_1_5) (i := 94) (by decide +kernel)))))) rfl
set_option maxRecDepth 20000 in
theorem u_im_X10_layWays : (.instanceMethod yX10_layWays : Cond) ∈ gW := gW_in (List.mem_append_right _ (List.mem_append_right _ (List.mem_append_right _ (List.mem_append_right _ (List.mem_of_getElem? (l := tables_1_5) (i := 96) (by decide +kernel)))))) rfl
set_option maxRecDepth 20000 in
theorem u_co_X10_layWays : (.code yX10_layWays cX10_layWays 6 none : Cond) ∈ gW := gW_in (List.mem_append_right _ (List.mem_append_right _ (List.mem_append_right _ (List.mem_append_right _ (List.mem_of_getElem? (l := tables_1_5) (i := 97) (rfl)))))) rfl
set_option maxRecDepth 20000 in
theorem u_ml_X10_239 : (.methodLink RX10 239 yX10_layOrder : Cond) ∈ gW := gW_in (List.mem_append_right _ (List.mem_append_right _ (List.mem_append_right _ (List.mem_append_right _ (List.mem_of_getElem? (l := tables_1_5) (i := 98) (by decide +kernel)))))) rfl
set_option maxRecDepth 20000 in
theorem u_im_X10_layOrder : (.instanceMethod yX10_layOrder : Cond) ∈ gW := gW_in (List.mem_append_right _ (List.mem_append_right _ (List.mem_append_right _ (List.mem_append_right _ (List.mem_of_getElem? (l := tables_1_5) (i := 100) (by decide +kernel)))))) rfl
set_option maxRecDepth 20000 in
theorem u_co_X10_layOrder : (.code yX10_layOrder cX10_layOrder 3 none : Cond) ∈ gW := gW_in (List.mem_append_right _ (List.mem_append_right _ (List.mem_append_right _ (List.mem_append_right _ (List.mem_of_getElem? (l := tables_1_5) (i := 101) (rfl)))))) rfl
set_option maxRecDepth 20000 in
theorem u_ml_L_105 : (.methodLink RL 105 yX10_ways : Cond) ∈ gW := gW_in (List.mem_append_right _ (List.mem_append_right _ (List.mem_append_right _ (List.mem_append_right _ (List.mem_of_getElem? (l := tables_1_5) (i := 102) (by decide +kernel)))))) rfl
set_option maxRecDepth 20000 in
theorem u_im_X10_ways : (.instanceMethod yX10_ways : Cond) ∈ gW := gW_in (List.mem_append_right _ (List.mem_append_right _ (List.mem_append_right _ (List.mem_append_right _ (List.mem_of_getElem? (l := tables_1_5) (i := 103) (by decide +kernel)))))) rfl
set_option maxRecDepth 20000 in
theorem u_se_X10_ways : (.selects RX10 yX10_ways yX10_ways : Cond) ∈ gW := gW_in (List.mem_append_right _ (List.mem_append_right _ (List.mem_append_right _ (List.mem_append_right _ (List.mem_of_getElem? (l := tables_1_5) (i := 104) (by decide +kernel)))))) rfl
set_option maxRecDepth 20000 in
theorem u_co_X10_ways : (.code yX10_ways cX10_ways 2 (some .int) : Cond) ∈ gW := gW_in (List.mem_append_right _ (List.mem_append_right _ (List.mem_append_right _ (List.mem_append_right _ (List.mem_of_getElem? (l := tables_1_5) (i := 105) (rfl)))))) rfl
set_option maxRecDepth 20000 in
theorem u_ml_L_109 : (.methodLink RL 109 yX10_firstBlocked : Cond) ∈ gW := gW_in (List.mem_append_right _ (List.mem_append_right _ (List.mem_append_right _ (List.mem_append_right _ (List.mem_of_getElem? (l := tables_1_5) (i := 106) (by decide +kernel)))))) rfl
set_option maxRecDepth 20000 in
theorem u_im_X10_firstBlocked : (.instanceMethod yX10_firstBlocked : Cond) ∈ gW := gW_in (List.mem_append_right _ (List.mem_append_right _ (List.mem_append_right _ (List.mem_append_right _ (List.mem_of_getElem? (l := tables_1_5) (i := 107) (by decide +kernel)))))) rfl
set_option maxRecDepth 20000 in
theorem u_se_X10_firstBlocked : (.selects RX10 yX10_firstBlocked yX10_firstBlocked : Cond) ∈ gW := gW_in (List.mem_append_right _ (List.mem_append_right _ (List.mem_append_right _ (List.mem_append_right _ (List.mem_of_getElem? (l := tables_1_5) (i := 108) (by decide +kernel)))))) rfl
set_option maxRecDepth 20000 in
theorem u_co_X10_firstBlocked : (.code yX10_firstBlocked cX10_firstBlocked 5 (some .int) : Cond) ∈ gW := gW_in (List.mem_append_right _ (List.mem_append_right _ (List.mem_append_right _ (List.mem_append_right _ (List.mem_of_getElem? (l := tables_1_5) (i := 109) (rfl)))))) rfl
set_option maxRecDepth 20000 in
theorem u_ml_L_113 : (.methodLink RL 113 yX10_share : Cond) ∈ gW := gW_in (List.mem_append_right _ (List.mem_append_right _ (List.mem_append_right _ (List.mem_append_right _ (List.mem_of_getElem? (l := tables_1_5) (i := 110) (by decide +kernel)))))) rfl
set_option maxRecDepth 20000 in
theorem u_im_X10_share : (.instanceMethod yX10_share : Cond) ∈ gW := gW_in (List.mem_append_right _ (List.mem_append_right _ (List.mem_append_right _ (List.mem_append_right _ (List.mem_of_getElem? (l := tables_1_5) (i := 111) (by decide +kernel)))))) rfl
set_option maxRecDepth 20000 in
theorem u_se_X10_share : (.selects RX10 yX10_share yX10_share : Cond) ∈ gW := gW_in (List.mem_append_right _ (List.mem_append_right _ (List.mem_append_right _ (List.mem_append_right _ (List.mem_of_getElem? (l := tables_1_5) (i := 112) (by decide +kernel)))))) rfl
set_option maxRecDepth 20000 in
theorem u_co_X10_share : (.code yX10_share cX10_share 4 (some .int) : Cond) ∈ gW := gW_in (List.mem_append_right _ (List.mem_append_right _ (List.mem_append_right _ (List.mem_append_right _ (List.mem_of_getElem? (l := tables_1_5) (i := 113) (rfl)))))) rfl
set_option maxRecDepth 20000 in
theorem u_ml_L_117 : (.methodLink RL 117 yX10_frost : Cond) ∈ gW := gW_in (List.mem_append_right _ (List.mem_append_right _ (List.mem_append_right _ (List.mem_append_right _ (List.mem_of_getElem? (l := tables_1_5) (i := 114) (by decide +kernel)))))) rfl
set_option maxRecDepth 20000 in
theorem u_im_X10_frost : (.instanceMethod yX10_frost : Cond) ∈ gW := gW_in (List.mem_append_right _ (List.mem_append_right _ (List.mem_append_right _ (List.mem_append_right _ (List.mem_of_getElem? (l := tables_1_5) (i := 115) (by decide +kernel)))))) rfl
set_option maxRecDepth 20000 in
theorem u_se_X10_frost : (.selects RX10 yX10_frost yX10_frost : Cond) ∈ gW := gW_in (List.mem_append_right _ (List.mem_append_right _ (List.mem_append_right _ (List.mem_append_right _ (List.mem_of_getElem? (l := tables_1_5) (i := 116) (by decide +kernel)))))) rfl
set_option maxRecDepth 20000 in
theorem u_co_X10_frost : (.code yX10_frost cX10_frost 6 (some .int) : Cond) ∈ gW := gW_in (List.mem_append_right _ (List.mem_append_right _ (List.mem_append_right _ (List.mem_append_right _ (List.mem_of_getElem? (l := tables_1_5) (i := 117) (rfl)))))) rfl
set_option maxRecDepth 20000 in
theorem u_kl_X10_245 : (.constantLong RX10 245 (1000000000) : Cond) ∈ gW := gW_in (List.mem_append_right _ (List.mem_append_right _ (List.mem_append_right _ (List.mem_append_right _ (List.mem_of_getElem? (l := tables_1_5) (i := 118) (by decide +kernel)))))) rfl
set_option maxRecDepth 20000 in
theorem u_kl_X10_247 : (.constantLong RX10 247 (100) : Cond) ∈ gW := gW_in (List.mem_append_right _ (List.mem_append_right _ (List.mem_append_right _ (List.mem_append_right _ (List.mem_of_getElem? (l := tables_1_5) (i := 119) (by decide +kernel)))))) rfl
set_option maxRecDepth 20000 in
theorem u_ml_L_121 : (.methodLink RL 121 yX10_drip : Cond) ∈ gW := gW_in (List.mem_append_right _ (List.mem_append_right _ (List.mem_append_right _ (List.mem_append_right _ (List.mem_of_getElem? (l := tables_1_5) (i := 120) (by decide +kernel)))))) rfl
set_option maxRecDepth 20000 in
theorem u_im_X10_drip : (.instanceMethod yX10_drip : Cond) ∈ gW := gW_in (List.mem_append_right _ (List.mem_append_right _ (List.mem_append_right _ (List.mem_append_right _ (List.mem_of_getElem? (l := tables_1_5) (i := 121) (by decide +kernel)))))) rfl
set_option maxRecDepth 20000 in
theorem u_se_X10_drip : (.selects RX10 yX10_drip yX10_drip : Cond) ∈ gW := gW_in (List.mem_append_right _ (List.mem_append_right _ (List.mem_append_right _ (List.mem_append_right _ (List.mem_of_getElem? (l := tables_1_5) (i := 122) (by decide +kernel)))))) rfl
set_option maxRecDepth 20000 in
theorem u_co_X10_drip : (.code yX10_drip cX10_drip 4 (some .int) : Cond) ∈ gW := gW_in (List.mem_append_right _ (List.mem_append_right _ (List.mem_append_right _ (List.mem_append_right _ (List.mem_of_getElem? (l := tables_1_5) (i := 123) (rfl)))))) rfl
set_option maxRecDepth 20000 in
theorem u_ml_L_125 : (.methodLink RL 125 yX10_cracked : Cond) ∈ gW := gW_in (List.mem_append_right _ (List.mem_append_right _ (List.mem_append_right _ (List.mem_append_right _ (List.mem_of_getElem? (l := tables_1_5) (i := 124) (by decide +kernel)))))) rfl
set_option maxRecDepth 20000 in
theorem u_im_X10_cracked : (.instanceMethod yX10_cracked : Cond) ∈ gW := gW_in (List.mem_append_right _ (List.mem_append_right _ (List.mem_append_right _ (List.mem_append_right _ (List.mem_of_getElem? (l := tables_1_5) (i := 125) (by decide +kernel)))))) rfl
set_option maxRecDepth 20000 in
theorem u_se_X10_cracked : (.selects RX10 yX10_cracked yX10_cracked : Cond) ∈ gW := gW_in (List.mem_append_right _ (List.mem_append_right _ (List.mem_append_right _ (List.mem_append_right _ (List.mem_of_getElem? (l := tables_1_5) (i := 126) (by decide +kernel)))))) rfl
set_option maxRecDepth 20000 in
theorem u_co_X10_cracked : (.code yX10_cracked cX10_cracked 2 (some .int) : Cond) ∈ gW := gW_in (List.mem_append_right _ (List.mem_append_right _ (List.mem_append_right _ (List.mem_append_right _ (List.mem_of_getElem? (l := tables_1_5) (i := 127) (rfl)))))) rfl
set_option maxRecDepth 20000 in
theorem u_ml_X10_249 : (.methodLink RX10 249 yX10_crackedBy : Cond) ∈ gW := gW_in (List.mem_append_right _ (List.mem_append_right _ (List.mem_append_right _ (List.mem_append_right _ (List.mem_of_getElem? (l := tables_1_5) (i := 128) (by decide +kernel)))))) rfl
set_option maxRecDepth 20000 in
theorem u_im_X10_crackedBy : (.instanceMethod yX10_crackedBy : Cond) ∈ gW := gW_in (List.mem_append_right _ (List.mem_append_right _ (List.mem_append_right _ (List.mem_append_right _ (List.mem_of_getElem? (l := tables_1_5) (i := 130) (by decide +kernel)))))) rfl
set_option maxRecDepth 20000 in
theorem u_co_X10_crackedBy : (.code yX10_crackedBy cX10_crackedBy 6 (some .int) : Cond) ∈ gW := gW_in (List.mem_append_right _ (List.mem_append_right _ (List.mem_append_right _ (List.mem_append_right _ (List.mem_of_getElem? (l := tables_1_5) (i := 131) (rfl)))))) rfl
set_option maxRecDepth 20000 in
theorem u_ml_L_129 : (.methodLink RL 129 yX10_listen : Cond) ∈ gW := gW_in (List.mem_append_right _ (List.mem_append_right _ (List.mem_append_right _ (List.mem_append_right _ (List.mem_of_getElem? (l := tables_1_5) (i := 132) (by decide +kernel)))))) rfl
set_option maxRecDepth 20000 in
theorem u_im_X10_listen : (.instanceMethod yX10_listen : Cond) ∈ gW := gW_in (List.mem_append_right _ (List.mem_append_right _ (List.mem_append_right _ (List.mem_append_right _ (List.mem_of_getElem? (l := tables_1_5) (i := 133) (by decide +kernel)))))) rfl
set_option maxRecDepth 20000 in
theorem u_se_X10_listen : (.selects RX10 yX10_listen yX10_listen : Cond) ∈ gW := gW_in (List.mem_append_right _ (List.mem_append_right _ (List.mem_append_right _ (List.mem_append_right _ (List.mem_of_getElem? (l := tables_1_5) (i := 134) (by decide +kernel)))))) rfl
set_option maxRecDepth 20000 in
theorem u_co_X10_listen : (.code yX10_listen cX10_listen 10 (some .int) : Cond) ∈ gW := gW_in (List.mem_append_right _ (List.mem_append_right _ (List.mem_append_right _ (List.mem_append_right _ (List.mem_of_getElem? (l := tables_1_5) (i := 135) (rfl)))))) rfl
set_option maxRecDepth 20000 in
theorem u_ml_L_133 : (.methodLink RL 133 yX10_write : Cond) ∈ gW := gW_in (List.mem_append_right _ (List.mem_append_right _ (List.mem_append_right _ (List.mem_append_right _ (List.mem_of_getElem? (l := tables_1_5) (i := 136) (by decide +kernel)))))) rfl
set_option maxRecDepth 20000 in
theorem u_im_X10_write : (.instanceMethod yX10_write : Cond) ∈ gW := gW_in (List.mem_append_right _ (List.mem_append_right _ (List.mem_append_right _ (List.mem_append_right _ (List.mem_of_getElem? (l := tables_1_5) (i := 137) (by decide +kernel)))))) rfl
set_option maxRecDepth 20000 in
theorem u_se_X10_write : (.selects RX10 yX10_write yX10_write : Cond) ∈ gW := gW_in (List.mem_append_right _ (List.mem_append_right _ (List.mem_append_right _ (List.mem_append_right _ (List.mem_of_getElem? (l := tables_1_5) (i := 138) (by decide +kernel)))))) rfl
set_option maxRecDepth 20000 in
theorem u_co_X10_write : (.code yX10_write cX10_write 3 (some .int) : Cond) ∈ gW := gW_in (List.mem_append_right _ (List.mem_append_right _ (List.mem_append_right _ (List.mem_append_right _ (List.mem_of_getElem? (l := tables_1_5) (i := 139) (rfl)))))) rfl
set_option maxRecDepth 20000 in
theorem u_ml_L_137 : (.methodLink RL 137 yX10_tear : Cond) ∈ gW := gW_in (List.mem_append_right _ (List.mem_append_right _ (List.mem_append_right _ (List.mem_append_right _ (List.mem_of_getElem? (l := tables_1_5) (i := 140) (by decide +kernel)))))) rfl
set_option maxRecDepth 20000 in
theorem u_im_X10_tear : (.instanceMethod yX10_tear : Cond) ∈ gW := gW_in (List.mem_append_right _ (List.mem_append_right _ (List.mem_append_right _ (List.mem_append_right _ (List.mem_of_getElem? (l := tables_1_5) (i := 141) (by decide +kernel)))))) rfl
set_option maxRecDepth 20000 in
theorem u_se_X10_tear : (.selects RX10 yX10_tear yX10_tear : Cond) ∈ gW := gW_in (List.mem_append_right _ (List.mem_append_right _ (List.mem_append_right _ (List.mem_append_right _ (List.mem_of_getElem? (l := tables_1_5) (i := 142) (by decide +kernel)))))) rfl
set_option maxRecDepth 20000 in
theorem u_co_X10_tear : (.code yX10_tear cX10_tear 2 (some .int) : Cond) ∈ gW := gW_in (List.mem_append_right _ (List.mem_append_right _ (List.mem_append_right _ (List.mem_append_right _ (List.mem_of_getElem? (l := tables_1_5) (i := 143) (rfl)))))) rfl
set_option maxRecDepth 20000 in
theorem u_ml_L_141 : (.methodLink RL 141 yX10_judge : Cond) ∈ gW := gW_in (List.mem_append_right _ (List.mem_append_right _ (List.mem_append_right _ (List.mem_append_right _ (List.mem_of_getElem? (l := tables_1_5) (i := 144) (by decide +kernel)))))) rfl
set_option maxRecDepth 20000 in
theorem u_im_X10_judge : (.instanceMethod yX10_judge : Cond) ∈ gW := gW_in (List.mem_append_right _ (List.mem_append_right _ (List.mem_append_right _ (List.mem_append_right _ (List.mem_of_getElem? (l := tables_1_5) (i := 145) (by decide +kernel)))))) rfl
set_option maxRecDepth 20000 in
theorem u_se_X10_judge : (.selects RX10 yX10_judge yX10_judge : Cond) ∈ gW := gW_in (List.mem_append_right _ (List.mem_append_right _ (List.mem_append_right _ (List.mem_append_right _ (List.mem_of_getElem? (l := tables_1_5) (i := 146) (by decide +kernel)))))) rfl
set_option maxRecDepth 20000 in
theorem u_co_X10_judge : (.code yX10_judge cX10_judge 2 (some .int) : Cond) ∈ gW := gW_in (List.mem_append_right _ (List.mem_append_right _ (List.mem_append_right _ (List.mem_append_right _ (List.mem_of_getElem? (l := tables_1_5) (i := 147) (rfl)))))) rfl
set_option maxRecDepth 20000 in
theorem u_ml_L_145 : (.methodLink RL 145 yX10_seed : Cond) ∈ gW := gW_in (List.mem_append_right _ (List.mem_append_right _ (List.mem_append_right _ (List.mem_append_right _ (List.mem_of_getElem? (l := tables_1_5) (i := 148) (by decide +kernel)))))) rfl
set_option maxRecDepth 20000 in
theorem u_im_X10_seed : (.instanceMethod yX10_seed : Cond) ∈ gW := gW_in (List.mem_append_right _ (List.mem_append_right _ (List.mem_append_right _ (List.mem_append_right _ (List.mem_of_getElem? (l := tables_1_5) (i := 149) (by decide +kernel)))))) rfl
set_option maxRecDepth 20000 in
theorem u_se_X10_seed : (.selects RX10 yX10_seed yX10_seed : Cond) ∈ gW := gW_in (List.mem_append_right _ (List.mem_append_right _ (List.mem_append_right _ (List.mem_append_right _ (List.mem_of_getElem? (l := tables_1_5) (i := 150) (by decide +kernel)))))) rfl
set_option maxRecDepth 20000 in
theorem u_co_X10_seed : (.code yX10_seed cX10_seed 3 (some .int) : Cond) ∈ gW := gW_in (List.mem_append_right _ (List.mem_append_right _ (List.mem_append_right _ (List.mem_append_right _ (List.mem_of_getElem? (l := tables_1_5) (i := 151) (rfl)))))) rfl
set_option maxRecDepth 20000 in
theorem u_ml_L_149 : (.methodLink RL 149 yX10_keep : Cond) ∈ gW := gW_in (List.mem_append_right _ (List.mem_append_right _ (List.mem_append_right _ (List.mem_append_right _ (List.mem_of_getElem? (l := tables_1_5) (i := 152) (by decide +kernel)))))) rfl
set_option maxRecDepth 20000 in
theorem u_im_X10_keep : (.instanceMethod yX10_keep : Cond) ∈ gW := gW_in (List.mem_append_right _ (List.mem_append_right _ (List.mem_append_right _ (List.mem_append_right _ (List.mem_of_getElem? (l := tables_1_5) (i := 153) (by decide +kernel)))))) rfl
set_option maxRecDepth 20000 in
theorem u_se_X10_keep : (.selects RX10 yX10_keep yX10_keep : Cond) ∈ gW := gW_in (List.mem_append_right _ (List.mem_append_right _ (List.mem_append_right _ (List.mem_append_right _ (List.mem_of_getElem? (l := tables_1_5) (i := 154) (by decide +kernel)))))) rfl
set_option maxRecDepth 20000 in
theorem u_co_X10_keep : (.code yX10_keep cX10_keep 2 (some .int) : Cond) ∈ gW := gW_in (List.mem_append_right _ (List.mem_append_right _ (List.mem_append_right _ (List.mem_append_right _ (List.mem_of_getElem? (l := tables_1_5) (i := 155) (rfl)))))) rfl
set_option maxRecDepth 20000 in
theorem u_ml_L_153 : (.methodLink RL 153 yX10_goBack : Cond) ∈ gW := gW_in (List.mem_append_right _ (List.mem_append_right _ (List.mem_append_right _ (List.mem_append_right _ (List.mem_of_getElem? (l := tables_1_5) (i := 156) (by decide +kernel)))))) rfl
set_option maxRecDepth 20000 in
theorem u_im_X10_goBack : (.instanceMethod yX10_goBack : Cond) ∈ gW := gW_in (List.mem_append_right _ (List.mem_append_right _ (List.mem_append_right _ (List.mem_append_right _ (List.mem_of_getElem? (l := tables_1_5) (i := 157) (by decide +kernel)))))) rfl
set_option maxRecDepth 20000 in
theorem u_se_X10_goBack : (.selects RX10 yX10_goBack yX10_goBack : Cond) ∈ gW := gW_in (List.mem_append_right _ (List.mem_append_right _ (List.mem_append_right _ (List.mem_append_right _ (List.mem_of_getElem? (l := tables_1_5) (i := 158) (by decide +kernel)))))) rfl
set_option maxRecDepth 20000 in
theorem u_co_X10_goBack : (.code yX10_goBack cX10_goBack 2 (some .int) : Cond) ∈ gW := gW_in (List.mem_append_right _ (List.mem_append_right _ (List.mem_append_right _ (List.mem_append_right _ (List.mem_of_getElem? (l := tables_1_5) (i := 159) (rfl)))))) rfl
theorem u_se_X5_skipBlanks : (.selects RX5 yX5_skipBlanks yX5_skipBlanks : Cond) ∈ gW := gW_se (List.mem_map.mpr ⟨(yX5_skipBlanks, 6), List.mem_append_left _ (List.mem_of_getElem? (l := lw_privs_1) (i := 0) (by decide +kernel)), rfl⟩) rfl
theorem u_se_X5_current : (.selects RX5 yX5_current yX5_current : Cond) ∈ gW := gW_se (List.mem_map.mpr ⟨(yX5_current, 6), List.mem_append_left _ (List.mem_of_getElem? (l := lw_privs_1) (i := 1) (by decide +kernel)), rfl⟩) rfl
theorem u_se_X5_readClause : (.selects RX5 yX5_readClause yX5_readClause : Cond) ∈ gW := gW_se (List.mem_map.mpr ⟨(yX5_readClause, 6), List.mem_append_left _ (List.mem_of_getElem? (l := lw_privs_1) (i := 2) (by decide +kernel)), rfl⟩) rfl
theorem u_se_X5_blame : (.selects RX5 yX5_blame yX5_blame : Cond) ∈ gW := gW_se (List.mem_map.mpr ⟨(yX5_blame, 6), List.mem_append_left _ (List.mem_of_getElem? (l := lw_privs_1) (i := 3) (by decide +kernel)), rfl⟩) rfl
theorem u_se_X5_hasRoomFor : (.selects RX5 yX5_hasRoomFor yX5_hasRoomFor : Cond) ∈ gW := gW_se (List.mem_map.mpr ⟨(yX5_hasRoomFor, 6), List.mem_append_left _ (List.mem_of_getElem? (l := lw_privs_1) (i := 4) (by decide +kernel)), rfl⟩) rfl
theorem u_se_X5_readRoom : (.selects RX5 yX5_readRoom yX5_readRoom : Cond) ∈ gW := gW_se (List.mem_map.mpr ⟨(yX5_readRoom, 6), List.mem_append_left _ (List.mem_of_getElem? (l := lw_privs_1) (i := 5) (by decide +kernel)), rfl⟩) rfl
theorem u_se_X5_number : (.selects RX5 yX5_number yX5_number : Cond) ∈ gW := gW_se (List.mem_map.mpr ⟨(yX5_number, 6), List.mem_append_left _ (List.mem_of_getElem? (l := lw_privs_1) (i := 6) (by decide +kernel)), rfl⟩) rfl
theorem u_se_X5_closes : (.selects RX5 yX5_closes yX5_closes : Cond) ∈ gW := gW_se (List.mem_map.mpr ⟨(yX5_closes, 6), List.mem_append_left _ (List.mem_of_getElem? (l := lw_privs_1) (i := 7) (by decide +kernel)), rfl⟩) rfl
theorem u_se_X5_readPlace : (.selects RX5 yX5_readPlace yX5_readPlace : Cond) ∈ gW := gW_se (List.mem_map.mpr ⟨(yX5_readPlace, 6), List.mem_append_left _ (List.mem_of_getElem? (l := lw_privs_1) (i := 8) (by decide +kernel)), rfl⟩) rfl
theorem u_se_X5_readChannel : (.selects RX5 yX5_readChannel yX5_readChannel : Cond) ∈ gW := gW_se (List.mem_map.mpr ⟨(yX5_readChannel, 6), List.mem_append_left _ (List.mem_of_getElem? (l := lw_privs_1) (i := 9) (by decide +kernel)), rfl⟩) rfl
theorem u_se_X9_refusalOfHours : (.selects RX9 yX9_refusalOfHours yX9_refusalOfHours : Cond) ∈ gW := gW_se (List.mem_map.mpr ⟨(yX9_refusalOfHours, 11), List.mem_append_left _ (List.mem_of_getElem? (l := lw_privs_1) (i := 10) (by decide +kernel)), rfl⟩) rfl
theorem u_se_X0_hearAt : (.selects RX0 yX0_hearAt yX0_hearAt : Cond) ∈ gW := gW_se (List.mem_map.mpr ⟨(yX0_hearAt, 7), List.mem_append_left _ (List.mem_of_getElem? (l := lw_privs_1) (i := 11) (by decide +kernel)), rfl⟩) rfl
theorem u_se_X0_sendOn : (.selects RX0 yX0_sendOn yX0_sendOn : Cond) ∈ gW := gW_se (List.mem_map.mpr ⟨(yX0_sendOn, 7), List.mem_append_left _ (List.mem_of_getElem? (l := lw_privs_1) (i := 12) (by decide +kernel)), rfl⟩) rfl
theorem u_se_X9_drawThird : (.selects RX9 yX9_drawThird yX9_drawThird : Cond) ∈ gW := gW_se (List.mem_map.mpr ⟨(yX9_drawThird, 11), List.mem_append_left _ (List.mem_of_getElem? (l := lw_privs_1) (i := 13) (by decide +kernel)), rfl⟩) rfl
theorem u_se_X9_stepSeed : (.selects RX9 yX9_stepSeed yX9_stepSeed : Cond) ∈ gW := gW_se (List.mem_map.mpr ⟨(yX9_stepSeed, 11), List.mem_append_left _ (List.mem_of_getElem? (l := lw_privs_1) (i := 14) (by decide +kernel)), rfl⟩) rfl
theorem u_se_X9_drawSaying : (.selects RX9 yX9_drawSaying yX9_drawSaying : Cond) ∈ gW := gW_se (List.mem_map.mpr ⟨(yX9_drawSaying, 11), List.mem_append_left _ (List.mem_of_getElem? (l := lw_privs_1) (i := 15) (by decide +kernel)), rfl⟩) rfl
theorem u_se_X9_refusalOfTry : (.selects RX9 yX9_refusalOfTry yX9_refusalOfTry : Cond) ∈ gW := gW_se (List.mem_map.mpr ⟨(yX9_refusalOfTry, 11), List.mem_append_right _ (List.mem_append_left _ (List.mem_of_getElem? (l := lw_privs_2) (i := 0) (by decide +kernel))), rfl⟩) rfl
theorem u_se_X9_tryOut : (.selects RX9 yX9_tryOut yX9_tryOut : Cond) ∈ gW := gW_se (List.mem_map.mpr ⟨(yX9_tryOut, 11), List.mem_append_right _ (List.mem_append_left _ (List.mem_of_getElem? (l := lw_privs_2) (i := 1) (by decide +kernel))), rfl⟩) rfl
theorem u_se_X7_fits : (.selects RX7 yX7_fits yX7_fits : Cond) ∈ gW := gW_se (List.mem_map.mpr ⟨(yX7_fits, 4), List.mem_append_right _ (List.mem_append_left _ (List.mem_of_getElem? (l := lw_privs_2) (i := 2) (by decide +kernel))), rfl⟩) rfl
theorem u_se_X7_crackAlone : (.selects RX7 yX7_crackAlone yX7_crackAlone : Cond) ∈ gW := gW_se (List.mem_map.mpr ⟨(yX7_crackAlone, 4), List.mem_append_right _ (List.mem_append_left _ (List.mem_of_getElem? (l := lw_privs_2) (i := 3) (by decide +kernel))), rfl⟩) rfl
theorem u_se_X7_noteHours : (.selects RX7 yX7_noteHours yX7_noteHours : Cond) ∈ gW := gW_se (List.mem_map.mpr ⟨(yX7_noteHours, 4), List.mem_append_right _ (List.mem_append_left _ (List.mem_of_getElem? (l := lw_privs_2) (i := 4) (by decide +kernel))), rfl⟩) rfl
theorem u_se_X7_greatestPart : (.selects RX7 yX7_greatestPart yX7_greatestPart : Cond) ∈ gW := gW_se (List.mem_map.mpr ⟨(yX7_greatestPart, 4), List.mem_append_right _ (List.mem_append_left _ (List.mem_of_getElem? (l := lw_privs_2) (i := 5) (by decide +kernel))), rfl⟩) rfl
theorem u_se_X10_open : (.selects RX10 yX10_open yX10_open : Cond) ∈ gW := gW_se (List.mem_map.mpr ⟨(yX10_open, 38), List.mem_append_right _ (List.mem_append_left _ (List.mem_of_getElem? (l := lw_privs_2) (i := 6) (by decide +kernel))), rfl⟩) rfl
theorem u_se_X10_isRead : (.selects RX10 yX10_isRead yX10_isRead : Cond) ∈ gW := gW_se (List.mem_map.mpr ⟨(yX10_isRead, 38), List.mem_append_right _ (List.mem_append_left _ (List.mem_of_getElem? (l := lw_privs_2) (i := 7) (by decide +kernel))), rfl⟩) rfl
theorem u_se_X10_nextToken : (.selects RX10 yX10_nextToken yX10_nextToken : Cond) ∈ gW := gW_se (List.mem_map.mpr ⟨(yX10_nextToken, 38), List.mem_append_right _ (List.mem_append_left _ (List.mem_of_getElem? (l := lw_privs_2) (i := 8) (by decide +kernel))), rfl⟩) rfl
theorem u_se_X10_isClause : (.selects RX10 yX10_isClause yX10_isClause : Cond) ∈ gW := gW_se (List.mem_map.mpr ⟨(yX10_isClause, 38), List.mem_append_right _ (List.mem_append_left _ (List.mem_of_getElem? (l := lw_privs_2) (i := 9) (by decide +kernel))), rfl⟩) rfl
theorem u_se_X10_fails : (.selects RX10 yX10_fails yX10_fails : Cond) ∈ gW := gW_se (List.mem_map.mpr ⟨(yX10_fails, 38), List.mem_append_right _ (List.mem_append_left _ (List.mem_of_getElem? (l := lw_privs_2) (i := 10) (by decide +kernel))), rfl⟩) rfl
theorem u_se_X10_isMostItem : (.selects RX10 yX10_isMostItem yX10_isMostItem : Cond) ∈ gW := gW_se (List.mem_map.mpr ⟨(yX10_isMostItem, 38), List.mem_append_right _ (List.mem_append_left _ (List.mem_of_getElem? (l := lw_privs_2) (i := 11) (by decide +kernel))), rfl⟩) rfl
theorem u_se_X10_isNumber : (.selects RX10 yX10_isNumber yX10_isNumber : Cond) ∈ gW := gW_se (List.mem_map.mpr ⟨(yX10_isNumber, 38), List.mem_append_right _ (List.mem_append_left _ (List.mem_of_getElem? (l := lw_privs_2) (i := 12) (by decide +kernel))), rfl⟩) rfl
theorem u_se_X10_isEnd : (.selects RX10 yX10_isEnd yX10_isEnd : Cond) ∈ gW := gW_se (List.mem_map.mpr ⟨(yX10_isEnd, 38), List.mem_append_right _ (List.mem_append_left _ (List.mem_of_getElem? (l := lw_privs_2) (i := 13) (by decide +kernel))), rfl⟩) rfl
theorem u_se_X10_isPlaceItem : (.selects RX10 yX10_isPlaceItem yX10_isPlaceItem : Cond) ∈ gW := gW_se (List.mem_map.mpr ⟨(yX10_isPlaceItem, 38), List.mem_append_right _ (List.mem_append_left _ (List.mem_of_getElem? (l := lw_privs_2) (i := 14) (by decide +kernel))), rfl⟩) rfl
theorem u_se_X10_isChannelItem : (.selects RX10 yX10_isChannelItem yX10_isChannelItem : Cond) ∈ gW := gW_se (List.mem_map.mpr ⟨(yX10_isChannelItem, 38), List.mem_append_right _ (List.mem_append_left _ (List.mem_of_getElem? (l := lw_privs_2) (i := 15) (by decide +kernel))), rfl⟩) rfl
theorem u_se_X10_blockedIn : (.selects RX10 yX10_blockedIn yX10_blockedIn : Cond) ∈ gW := gW_se (List.mem_map.mpr ⟨(yX10_blockedIn, 38), List.mem_append_right _ (List.mem_append_right _ (List.mem_of_getElem? (l := lw_privs_3) (i := 0) (by decide +kernel))), rfl⟩) rfl
theorem u_se_X10_onTheWay : (.selects RX10 yX10_onTheWay yX10_onTheWay : Cond) ∈ gW := gW_se (List.mem_map.mpr ⟨(yX10_onTheWay, 38), List.mem_append_right _ (List.mem_append_right _ (List.mem_of_getElem? (l := lw_privs_3) (i := 1) (by decide +kernel))), rfl⟩) rfl
theorem u_se_X10_isPlace : (.selects RX10 yX10_isPlace yX10_isPlace : Cond) ∈ gW := gW_se (List.mem_map.mpr ⟨(yX10_isPlace, 38), List.mem_append_right _ (List.mem_append_right _ (List.mem_of_getElem? (l := lw_privs_3) (i := 2) (by decide +kernel))), rfl⟩) rfl
theorem u_se_X10_isChannel : (.selects RX10 yX10_isChannel yX10_isChannel : Cond) ∈ gW := gW_se (List.mem_map.mpr ⟨(yX10_isChannel, 38), List.mem_append_right _ (List.mem_append_right _ (List.mem_of_getElem? (l := lw_privs_3) (i := 3) (by decide +kernel))), rfl⟩) rfl
theorem u_se_X10_note : (.selects RX10 yX10_note yX10_note : Cond) ∈ gW := gW_se (List.mem_map.mpr ⟨(yX10_note, 38), List.mem_append_right _ (List.mem_append_right _ (List.mem_of_getElem? (l := lw_privs_3) (i := 4) (by decide +kernel))), rfl⟩) rfl
theorem u_se_X10_passHour : (.selects RX10 yX10_passHour yX10_passHour : Cond) ∈ gW := gW_se (List.mem_map.mpr ⟨(yX10_passHour, 38), List.mem_append_right _ (List.mem_append_right _ (List.mem_of_getElem? (l := lw_privs_3) (i := 5) (by decide +kernel))), rfl⟩) rfl
theorem u_se_X10_goesOn : (.selects RX10 yX10_goesOn yX10_goesOn : Cond) ∈ gW := gW_se (List.mem_map.mpr ⟨(yX10_goesOn, 38), List.mem_append_right _ (List.mem_append_right _ (List.mem_of_getElem? (l := lw_privs_3) (i := 6) (by decide +kernel))), rfl⟩) rfl
theorem u_se_X10_draw : (.selects RX10 yX10_draw yX10_draw : Cond) ∈ gW := gW_se (List.mem_map.mpr ⟨(yX10_draw, 38), List.mem_append_right _ (List.mem_append_right _ (List.mem_of_getElem? (l := lw_privs_3) (i := 7) (by decide +kernel))), rfl⟩) rfl
theorem u_se_X10_layTried : (.selects RX10 yX10_layTried yX10_layTried : Cond) ∈ gW := gW_se (List.mem_map.mpr ⟨(yX10_layTried, 38), List.mem_append_right _ (List.mem_append_right _ (List.mem_of_getElem? (l := lw_privs_3) (i := 8) (by decide +kernel))), rfl⟩) rfl
theorem u_se_X10_layComes : (.selects RX10 yX10_layComes yX10_layComes : Cond) ∈ gW := gW_se (List.mem_map.mpr ⟨(yX10_layComes, 38), List.mem_append_right _ (List.mem_append_right _ (List.mem_of_getElem? (l := lw_privs_3) (i := 9) (by decide +kernel))), rfl⟩) rfl
theorem u_se_X10_layHours : (.selects RX10 yX10_layHours yX10_layHours : Cond) ∈ gW := gW_se (List.mem_map.mpr ⟨(yX10_layHours, 38), List.mem_append_right _ (List.mem_append_right _ (List.mem_of_getElem? (l := lw_privs_3) (i := 10) (by decide +kernel))), rfl⟩) rfl
theorem u_se_X10_layWays : (.selects RX10 yX10_layWays yX10_layWays : Cond) ∈ gW := gW_se (List.mem_map.mpr ⟨(yX10_layWays, 38), List.mem_append_right _ (List.mem_append_right _ (List.mem_of_getElem? (l := lw_privs_3) (i := 11) (by decide +kernel))), rfl⟩) rfl
theorem u_se_X10_layOrder : (.selects RX10 yX10_layOrder yX10_layOrder : Cond) ∈ gW := gW_se (List.mem_map.mpr ⟨(yX10_layOrder, 38), List.mem_append_right _ (List.mem_append_right _ (List.mem_of_getElem? (l := lw_privs_3) (i := 12) (by decide +kernel))), rfl⟩) rfl
theorem u_se_X10_crackedBy : (.selects RX10 yX10_crackedBy yX10_crackedBy : Cond) ∈ gW := gW_se (List.mem_map.mpr ⟨(yX10_crackedBy, 38), List.mem_append_right _ (List.mem_append_right _ (List.mem_of_getElem? (l := lw_privs_3) (i := 13) (by decide +kernel))), rfl⟩) rfl
theorem u_inX0 : ∀ w ∈ wsX00, w ∈ gW := by
  show ∀ w ∈ [(.lays RX0 "GossipArches$Flow" "hours" "I" : Cond), (.lays RX0 "GossipArches$Flow" "shut" "I" : Cond), (.laysFinal RX0 "GossipArches$Flow" "silt" "[I" : Cond), (.laysFinal RX0 "GossipArches$Flow" "crack" "[I" : Cond), (.laysFinal RX0 "GossipArches$Flow" "heard" "[I" : Cond), (.laysFinal RX0 "GossipArches$Flow" "firstAt" "[I" : Cond), (.laysFinal RX0 "GossipArches$Flow" "due" "[I" : Cond)], w ∈ gW
  exact List.forall_mem_cons.mpr ⟨u_ly_X0_0, List.forall_mem_cons.mpr ⟨u_ly_X0_1, List.forall_mem_cons.mpr ⟨u_ly_X0_2, List.forall_mem_cons.mpr ⟨u_ly_X0_3, List.forall_mem_cons.mpr ⟨u_ly_X0_4, List.forall_mem_cons.mpr ⟨u_ly_X0_5, List.forall_mem_cons.mpr ⟨u_ly_X0_6, fun _ h => absurd h List.not_mem_nil⟩⟩⟩⟩⟩⟩⟩
theorem u_inX1 : ∀ w ∈ wsX10, w ∈ gW := by
  show ∀ w ∈ [(.lays RX1 "GossipArches$Image" "kept" "Z" : Cond), (.lays RX1 "GossipArches$Image" "seed" "I" : Cond), (.laysFinal RX1 "GossipArches$Image" "flow" "LGossipArches$Flow;" : Cond)], w ∈ gW
  exact List.forall_mem_cons.mpr ⟨u_ly_X1_0, List.forall_mem_cons.mpr ⟨u_ly_X1_1, List.forall_mem_cons.mpr ⟨u_ly_X1_2, fun _ h => absurd h List.not_mem_nil⟩⟩⟩
theorem u_inX2 : ∀ w ∈ wsX20, w ∈ gW := by
  show ∀ w ∈ [(.lays RX2 "GossipArches$Notes" "drips" "I" : Cond), (.lays RX2 "GossipArches$Notes" "entries" "I" : Cond), (.laysFinal RX2 "GossipArches$Notes" "dripPlace" "[I" : Cond), (.laysFinal RX2 "GossipArches$Notes" "dripSaying" "[I" : Cond), (.laysFinal RX2 "GossipArches$Notes" "dripHour" "[I" : Cond), (.laysFinal RX2 "GossipArches$Notes" "entryPlace" "[I" : Cond), (.laysFinal RX2 "GossipArches$Notes" "entrySet" "[I" : Cond)], w ∈ gW
  exact List.forall_mem_cons.mpr ⟨u_ly_X2_0, List.forall_mem_cons.mpr ⟨u_ly_X2_1, List.forall_mem_cons.mpr ⟨u_ly_X2_2, List.forall_mem_cons.mpr ⟨u_ly_X2_3, List.forall_mem_cons.mpr ⟨u_ly_X2_4, List.forall_mem_cons.mpr ⟨u_ly_X2_5, List.forall_mem_cons.mpr ⟨u_ly_X2_6, fun _ h => absurd h List.not_mem_nil⟩⟩⟩⟩⟩⟩⟩
theorem u_inX3 : ∀ w ∈ wsX30, w ∈ gW := by
  show ∀ w ∈ [(.lays RX3 "GossipArches$Past" "count" "I" : Cond), (.lays RX3 "GossipArches$Past" "next" "I" : Cond), (.laysFinal RX3 "GossipArches$Past" "ring" "[LGossipArches$Flow;" : Cond)], w ∈ gW
  exact List.forall_mem_cons.mpr ⟨u_ly_X3_0, List.forall_mem_cons.mpr ⟨u_ly_X3_1, List.forall_mem_cons.mpr ⟨u_ly_X3_2, fun _ h => absurd h List.not_mem_nil⟩⟩⟩
theorem u_inX4 : ∀ w ∈ wsX40, w ∈ gW := by
  show ∀ w ∈ [(.lays RX4 "GossipArches$Plan" "room" "I" : Cond), (.lays RX4 "GossipArches$Plan" "places" "I" : Cond), (.lays RX4 "GossipArches$Plan" "channels" "I" : Cond), (.laysFinal RX4 "GossipArches$Plan" "kind" "[I" : Cond), (.laysFinal RX4 "GossipArches$Plan" "level" "[I" : Cond), (.laysFinal RX4 "GossipArches$Plan" "from" "[I" : Cond), (.laysFinal RX4 "GossipArches$Plan" "to" "[I" : Cond), (.laysFinal RX4 "GossipArches$Plan" "span" "[I" : Cond), (.laysFinal RX4 "GossipArches$Plan" "falling" "[I" : Cond)], w ∈ gW
  exact List.forall_mem_cons.mpr ⟨u_ly_X4_0, List.forall_mem_cons.mpr ⟨u_ly_X4_1, List.forall_mem_cons.mpr ⟨u_ly_X4_2, List.forall_mem_cons.mpr ⟨u_ly_X4_3, List.forall_mem_cons.mpr ⟨u_ly_X4_4, List.forall_mem_cons.mpr ⟨u_ly_X4_5, List.forall_mem_cons.mpr ⟨u_ly_X4_6, List.forall_mem_cons.mpr ⟨u_ly_X4_7, List.forall_mem_cons.mpr ⟨u_ly_X4_8, fun _ h => absurd h List.not_mem_nil⟩⟩⟩⟩⟩⟩⟩⟩⟩
theorem u_inX5 : ∀ w ∈ wsX50, w ∈ gW := by
  show ∀ w ∈ [(.laysFinal RX5 "GossipArches$Reader" "letters" "[I" : Cond), (.lays RX5 "GossipArches$Reader" "length" "I" : Cond), (.lays RX5 "GossipArches$Reader" "faultKind" "I" : Cond), (.lays RX5 "GossipArches$Reader" "faultAt" "I" : Cond), (.lays RX5 "GossipArches$Reader" "at" "I" : Cond), (.lays RX5 "GossipArches$Reader" "numberAt" "I" : Cond)], w ∈ gW
  exact List.forall_mem_cons.mpr ⟨u_ly_X5_0, List.forall_mem_cons.mpr ⟨u_ly_X5_1, List.forall_mem_cons.mpr ⟨u_ly_X5_2, List.forall_mem_cons.mpr ⟨u_ly_X5_3, List.forall_mem_cons.mpr ⟨u_ly_X5_4, List.forall_mem_cons.mpr ⟨u_ly_X5_5, fun _ h => absurd h List.not_mem_nil⟩⟩⟩⟩⟩⟩
theorem u_inX6 : ∀ w ∈ wsX60, w ∈ gW := by
  show ∀ w ∈ [(.laysFinal RX6 "GossipArches$Routes" "hours" "[I" : Cond), (.laysFinal RX6 "GossipArches$Routes" "count" "[I" : Cond)], w ∈ gW
  exact List.forall_mem_cons.mpr ⟨u_ly_X6_0, List.forall_mem_cons.mpr ⟨u_ly_X6_1, fun _ h => absurd h List.not_mem_nil⟩⟩
theorem u_inX7 : ∀ w ∈ wsX70, w ∈ gW := by
  show ∀ w ∈ [(.laysFinal RX7 "GossipArches$Search" "one" "LGossipArches$Spread;" : Cond), (.laysFinal RX7 "GossipArches$Search" "other" "LGossipArches$Spread;" : Cond), (.laysFinal RX7 "GossipArches$Search" "lone" "[I" : Cond), (.laysFinal RX7 "GossipArches$Search" "hourOf" "[I" : Cond)], w ∈ gW
  exact List.forall_mem_cons.mpr ⟨u_ly_X7_0, List.forall_mem_cons.mpr ⟨u_ly_X7_1, List.forall_mem_cons.mpr ⟨u_ly_X7_2, List.forall_mem_cons.mpr ⟨u_ly_X7_3, fun _ h => absurd h List.not_mem_nil⟩⟩⟩⟩
theorem u_inX8 : ∀ w ∈ wsX80, w ∈ gW := by
  show ∀ w ∈ [(.laysFinal RX8 "GossipArches$Spread" "comes" "[J" : Cond), (.laysFinal RX8 "GossipArches$Spread" "drips" "[J" : Cond)], w ∈ gW
  exact List.forall_mem_cons.mpr ⟨u_ly_X8_0, List.forall_mem_cons.mpr ⟨u_ly_X8_1, fun _ h => absurd h List.not_mem_nil⟩⟩
theorem u_inX9 : ∀ w ∈ wsX90, w ∈ gW := by
  show ∀ w ∈ [(.laysFinal RX9 "GossipArches" "reader" "LGossipArches$Reader;" : Cond), (.lays RX9 "GossipArches" "plan" "LGossipArches$Plan;" : Cond), (.lays RX9 "GossipArches" "spare" "LGossipArches$Plan;" : Cond), (.laysFinal RX9 "GossipArches" "flow" "LGossipArches$Flow;" : Cond), (.laysFinal RX9 "GossipArches" "trial" "LGossipArches$Flow;" : Cond), (.laysFinal RX9 "GossipArches" "past" "LGossipArches$Past;" : Cond), (.laysFinal RX9 "GossipArches" "images" "[LGossipArches$Image;" : Cond), (.laysFinal RX9 "GossipArches" "notes" "LGossipArches$Notes;" : Cond), (.laysFinal RX9 "GossipArches" "search" "LGossipArches$Search;" : Cond), (.laysFinal RX9 "GossipArches" "routes" "LGossipArches$Routes;" : Cond), (.lays RX9 "GossipArches" "seed" "I" : Cond)], w ∈ gW
  exact List.forall_mem_cons.mpr ⟨u_ly_X9_0, List.forall_mem_cons.mpr ⟨u_ly_X9_1, List.forall_mem_cons.mpr ⟨u_ly_X9_2, List.forall_mem_cons.mpr ⟨u_ly_X9_3, List.forall_mem_cons.mpr ⟨u_ly_X9_4, List.forall_mem_cons.mpr ⟨u_ly_X9_5, List.forall_mem_cons.mpr ⟨u_ly_X9_6, List.forall_mem_cons.mpr ⟨u_ly_X9_7, List.forall_mem_cons.mpr ⟨u_ly_X9_8, List.forall_mem_cons.mpr ⟨u_ly_X9_9, List.forall_mem_cons.mpr ⟨u_ly_X9_10, fun _ h => absurd h List.not_mem_nil⟩⟩⟩⟩⟩⟩⟩⟩⟩⟩⟩
theorem u_inX10 : ∀ w ∈ wsX100, w ∈ gW := by
  show ∀ w ∈ [(.lays RX10 "GossipArchesModel" "letters" "I" : Cond), (.laysFinal RX10 "GossipArchesModel" "text" "[I" : Cond), (.lays RX10 "GossipArchesModel" "position" "I" : Cond), (.lays RX10 "GossipArchesModel" "tokenAt" "I" : Cond), (.lays RX10 "GossipArchesModel" "token" "I" : Cond), (.lays RX10 "GossipArchesModel" "number" "I" : Cond), (.lays RX10 "GossipArchesModel" "figures" "I" : Cond), (.lays RX10 "GossipArchesModel" "faultAt" "I" : Cond), (.lays RX10 "GossipArchesModel" "faultIs" "I" : Cond), (.lays RX10 "GossipArchesModel" "hasMost" "Z" : Cond), (.lays RX10 "GossipArchesModel" "readMost" "I" : Cond), (.lays RX10 "GossipArchesModel" "readPlaces" "I" : Cond), (.lays RX10 "GossipArchesModel" "readChannels" "I" : Cond), (.laysFinal RX10 "GossipArchesModel" "readPlace" "[I" : Cond), (.laysFinal RX10 "GossipArchesModel" "readChannel" "[I" : Cond), (.lays RX10 "GossipArchesModel" "most" "I" : Cond), (.lays RX10 "GossipArchesModel" "places" "I" : Cond), (.lays RX10 "GossipArchesModel" "channels" "I" : Cond), (.laysFinal RX10 "GossipArchesModel" "place" "[I" : Cond), (.laysFinal RX10 "GossipArchesModel" "channel" "[I" : Cond), (.laysFinal RX10 "GossipArchesModel" "now" "[I" : Cond), (.laysFinal RX10 "GossipArchesModel" "tried" "[I" : Cond), (.laysFinal RX10 "GossipArchesModel" "backOf" "[I" : Cond), (.lays RX10 "GossipArchesModel" "backs" "I" : Cond), (.laysFinal RX10 "GossipArchesModel" "image" "[I" : Cond), (.laysFinal RX10 "GossipArchesModel" "imageSeed" "[I" : Cond), (.laysFinal RX10 "GossipArchesModel" "isKept" "[Z" : Cond), (.lays RX10 "GossipArchesModel" "seed" "I" : Cond), (.lays RX10 "GossipArchesModel" "drips" "I" : Cond), (.laysFinal RX10 "GossipArchesModel" "drip" "[I" : Cond), (.lays RX10 "GossipArchesModel" "entries" "I" : Cond), (.laysFinal RX10 "GossipArchesModel" "entry" "[I" : Cond), (.laysFinal RX10 "GossipArchesModel" "comes" "[I" : Cond), (.laysFinal RX10 "GossipArchesModel" "hears" "[I" : Cond), (.laysFinal RX10 "GossipArchesModel" "hoursOf" "[J" : Cond), (.laysFinal RX10 "GossipArchesModel" "hoursToo" "[J" : Cond), (.laysFinal RX10 "GossipArchesModel" "heardAt" "[I" : Cond), (.laysFinal RX10 "GossipArchesModel" "order" "[I" : Cond)], w ∈ gW
  exact List.forall_mem_cons.mpr ⟨u_ly_X10_0, List.forall_mem_cons.mpr ⟨u_ly_X10_1, List.forall_mem_cons.mpr ⟨u_ly_X10_2, List.forall_mem_cons.mpr ⟨u_ly_X10_3, List.forall_mem_cons.mpr ⟨u_ly_X10_4, List.forall_mem_cons.mpr ⟨u_ly_X10_5, List.forall_mem_cons.mpr ⟨u_ly_X10_6, List.forall_mem_cons.mpr ⟨u_ly_X10_7, List.forall_mem_cons.mpr ⟨u_ly_X10_8, List.forall_mem_cons.mpr ⟨u_ly_X10_9, List.forall_mem_cons.mpr ⟨u_ly_X10_10, List.forall_mem_cons.mpr ⟨u_ly_X10_11, List.forall_mem_cons.mpr ⟨u_ly_X10_12, List.forall_mem_cons.mpr ⟨u_ly_X10_13, List.forall_mem_cons.mpr ⟨u_ly_X10_14, List.forall_mem_cons.mpr ⟨u_ly_X10_15, List.forall_mem_cons.mpr ⟨u_ly_X10_16, List.forall_mem_cons.mpr ⟨u_ly_X10_17, List.forall_mem_cons.mpr ⟨u_ly_X10_18, List.forall_mem_cons.mpr ⟨u_ly_X10_19, List.forall_mem_cons.mpr ⟨u_ly_X10_20, List.forall_mem_cons.mpr ⟨u_ly_X10_21, List.forall_mem_cons.mpr ⟨u_ly_X10_22, List.forall_mem_cons.mpr ⟨u_ly_X10_23, List.forall_mem_cons.mpr ⟨u_ly_X10_24, List.forall_mem_cons.mpr ⟨u_ly_X10_25, List.forall_mem_cons.mpr ⟨u_ly_X10_26, List.forall_mem_cons.mpr ⟨u_ly_X10_27, List.forall_mem_cons.mpr ⟨u_ly_X10_28, List.forall_mem_cons.mpr ⟨u_ly_X10_29, List.forall_mem_cons.mpr ⟨u_ly_X10_30, List.forall_mem_cons.mpr ⟨u_ly_X10_31, List.forall_mem_cons.mpr ⟨u_ly_X10_32, List.forall_mem_cons.mpr ⟨u_ly_X10_33, List.forall_mem_cons.mpr ⟨u_ly_X10_34, List.forall_mem_cons.mpr ⟨u_ly_X10_35, List.forall_mem_cons.mpr ⟨u_ly_X10_36, List.forall_mem_cons.mpr ⟨u_ly_X10_37, fun _ h => absurd h List.not_mem_nil⟩⟩⟩⟩⟩⟩⟩⟩⟩⟩⟩⟩⟩⟩⟩⟩⟩⟩⟩⟩⟩⟩⟩⟩⟩⟩⟩⟩⟩⟩⟩⟩⟩⟩⟩⟩⟩⟩
set_option maxRecDepth 20000 in
theorem u_nl_X9_11 : (.methodLinkNest RX9 11 yX5_init RX9 : Cond) ∈ lw_tbl := List.mem_append_right _ (List.mem_append_left _ (List.mem_of_getElem? (l := tables_1_1) (i := 28) (by decide +kernel)))
set_option maxRecDepth 20000 in
theorem u_nl_X9_18 : (.methodLinkNest RX9 18 yX4_init RX9 : Cond) ∈ lw_tbl := List.mem_append_right _ (List.mem_append_left _ (List.mem_of_getElem? (l := tables_1_1) (i := 57) (by decide +kernel)))
set_option maxRecDepth 20000 in
theorem u_nl_X9_51 : (.methodLinkNest RX9 51 yX2_init RX9 : Cond) ∈ lw_tbl := List.mem_append_right _ (List.mem_append_left _ (List.mem_of_getElem? (l := tables_1_1) (i := 183) (by decide +kernel)))
set_option maxRecDepth 20000 in
theorem u_nl_X9_58 : (.methodLinkNest RX9 58 yX7_init RX9 : Cond) ∈ lw_tbl := List.mem_append_right _ (List.mem_append_left _ (List.mem_of_getElem? (l := tables_1_1) (i := 217) (by decide +kernel)))
set_option maxRecDepth 20000 in
theorem u_nl_X7_11 : (.methodLinkNest RX7 11 yX8_init RX9 : Cond) ∈ lw_tbl := List.mem_append_right _ (List.mem_append_left _ (List.mem_of_getElem? (l := tables_1_1) (i := 223) (by decide +kernel)))
set_option maxRecDepth 20000 in
theorem u_nl_X9_65 : (.methodLinkNest RX9 65 yX6_init RX9 : Cond) ∈ lw_tbl := List.mem_append_right _ (List.mem_append_right _ (List.mem_append_left _ (List.mem_of_getElem? (l := tables_1_2) (i := 11) (by decide +kernel))))
set_option maxRecDepth 20000 in
theorem u_nl_X9_74 : (.methodLinkNest RX9 74 yX1_init RX9 : Cond) ∈ lw_tbl := List.mem_append_right _ (List.mem_append_right _ (List.mem_append_left _ (List.mem_of_getElem? (l := tables_1_2) (i := 25) (by decide +kernel))))
set_option maxRecDepth 20000 in
theorem u_nl_X0_81 : (.methodLinkNest RX0 81 yX9_has RX9 : Cond) ∈ lw_tbl := List.mem_append_right _ (List.mem_append_right _ (List.mem_append_right _ (List.mem_append_left _ (List.mem_of_getElem? (l := tables_1_3) (i := 25) (by decide +kernel)))))
set_option maxRecDepth 20000 in
theorem u_nl_X8_40 : (.methodLinkNest RX8 40 yX9_has RX9 : Cond) ∈ lw_tbl := List.mem_append_right _ (List.mem_append_right _ (List.mem_append_right _ (List.mem_append_left _ (List.mem_of_getElem? (l := tables_1_3) (i := 115) (by decide +kernel)))))
set_option maxRecDepth 20000 in
theorem u_nl_X6_39 : (.methodLinkNest RX6 39 yX9_has RX9 : Cond) ∈ lw_tbl := List.mem_append_right _ (List.mem_append_right _ (List.mem_append_right _ (List.mem_append_left _ (List.mem_of_getElem? (l := tables_1_3) (i := 151) (by decide +kernel)))))
set_option maxRecDepth 20000 in
theorem u_nl_X7_100 : (.methodLinkNest RX7 100 yX9_has RX9 : Cond) ∈ lw_tbl := List.mem_append_right _ (List.mem_append_right _ (List.mem_append_right _ (List.mem_append_left _ (List.mem_of_getElem? (l := tables_1_3) (i := 212) (by decide +kernel)))))
