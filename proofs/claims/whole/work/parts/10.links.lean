theorem tb_0 : ∀ w ∈ k2_sels lw_privs, w ∈ lw_tbl := fun w h => List.mem_append_left _ h
theorem tb_1 : ∀ w ∈ tables_1_1, w ∈ lw_tbl := fun w h => List.mem_append_right _ (List.mem_append_left _ h)
theorem tb_2 : ∀ w ∈ tables_1_2, w ∈ lw_tbl := fun w h => List.mem_append_right _ (List.mem_append_right _ (List.mem_append_left _ h))
theorem tb_3 : ∀ w ∈ tables_1_3, w ∈ lw_tbl := fun w h => List.mem_append_right _ (List.mem_append_right _ (List.mem_append_right _ (List.mem_append_left _ h)))
theorem tb_4 : ∀ w ∈ tables_1_4, w ∈ lw_tbl := fun w h => List.mem_append_right _ (List.mem_append_right _ (List.mem_append_right _ (List.mem_append_right _ (List.mem_append_left _ h))))
theorem tb_5 : ∀ w ∈ tables_1_5, w ∈ lw_tbl := fun w h => List.mem_append_right _ (List.mem_append_right _ (List.mem_append_right _ (List.mem_append_right _ (List.mem_append_right _ (List.mem_append_left _ h)))))
theorem tb_6 : ∀ w ∈ tables_1_6, w ∈ lw_tbl := fun w h => List.mem_append_right _ (List.mem_append_right _ (List.mem_append_right _ (List.mem_append_right _ (List.mem_append_right _ (List.mem_append_right _ (List.mem_append_left _ h))))))
theorem tb_7 : ∀ w ∈ tables_1_7, w ∈ lw_tbl := fun w h => List.mem_append_right _ (List.mem_append_right _ (List.mem_append_right _ (List.mem_append_right _ (List.mem_append_right _ (List.mem_append_right _ (List.mem_append_right _ (List.mem_append_left _ h)))))))
theorem tb_8 : ∀ w ∈ tables_1_8, w ∈ lw_tbl := fun w h => List.mem_append_right _ (List.mem_append_right _ (List.mem_append_right _ (List.mem_append_right _ (List.mem_append_right _ (List.mem_append_right _ (List.mem_append_right _ (List.mem_append_right _ h)))))))
set_option maxRecDepth 100000 in
theorem fl_X6_9 : Cond.fieldLink RX6 9 "GhostPike$Tape" "bytes" "[B" ∈ jtbl := jtbl_of (tb_1 _ (List.mem_of_getElem? (i := 36) rfl)) rfl
set_option maxRecDepth 100000 in
theorem fl_X7_54 : Cond.fieldLink RX7 54 "GhostPike$Tape" "bytes" "[B" ∈ jtbl := jtbl_of (tb_1 _ (List.mem_of_getElem? (i := 37) rfl)) rfl
set_option maxRecDepth 100000 in
theorem fl_X11_85 : Cond.fieldLink RX11 85 "GhostPike$Tape" "length" "I" ∈ jtbl := jtbl_of (tb_1 _ (List.mem_of_getElem? (i := 38) rfl)) rfl
set_option maxRecDepth 100000 in
theorem fl_X6_15 : Cond.fieldLink RX6 15 "GhostPike$Tape" "length" "I" ∈ jtbl := jtbl_of (tb_1 _ (List.mem_of_getElem? (i := 39) rfl)) rfl
set_option maxRecDepth 100000 in
theorem fl_X7_49 : Cond.fieldLink RX7 49 "GhostPike$Tape" "length" "I" ∈ jtbl := jtbl_of (tb_1 _ (List.mem_of_getElem? (i := 40) rfl)) rfl
set_option maxRecDepth 100000 in
theorem fl_X7_11 : Cond.fieldLink RX7 11 "GhostPike$Tokens" "kinds" "[I" ∈ jtbl := jtbl_of (tb_1 _ (List.mem_of_getElem? (i := 112) rfl)) rfl
set_option maxRecDepth 100000 in
theorem fl_X4_224 : Cond.fieldLink RX4 224 "GhostPike$Tokens" "kinds" "[I" ∈ jtbl := jtbl_of (tb_1 _ (List.mem_of_getElem? (i := 113) rfl)) rfl
set_option maxRecDepth 100000 in
theorem fl_X7_15 : Cond.fieldLink RX7 15 "GhostPike$Tokens" "places" "[I" ∈ jtbl := jtbl_of (tb_1 _ (List.mem_of_getElem? (i := 114) rfl)) rfl
set_option maxRecDepth 100000 in
theorem fl_X4_168 : Cond.fieldLink RX4 168 "GhostPike$Tokens" "places" "[I" ∈ jtbl := jtbl_of (tb_1 _ (List.mem_of_getElem? (i := 115) rfl)) rfl
set_option maxRecDepth 100000 in
theorem fl_X7_18 : Cond.fieldLink RX7 18 "GhostPike$Tokens" "values" "[J" ∈ jtbl := jtbl_of (tb_1 _ (List.mem_of_getElem? (i := 116) rfl)) rfl
set_option maxRecDepth 100000 in
theorem fl_X4_165 : Cond.fieldLink RX4 165 "GhostPike$Tokens" "values" "[J" ∈ jtbl := jtbl_of (tb_1 _ (List.mem_of_getElem? (i := 117) rfl)) rfl
set_option maxRecDepth 100000 in
theorem fl_X7_22 : Cond.fieldLink RX7 22 "GhostPike$Tokens" "words" "[J" ∈ jtbl := jtbl_of (tb_1 _ (List.mem_of_getElem? (i := 118) rfl)) rfl
set_option maxRecDepth 100000 in
theorem fl_X4_62 : Cond.fieldLink RX4 62 "GhostPike$Reader" "faultPlace" "I" ∈ jtbl := jtbl_of (tb_1 _ (List.mem_of_getElem? (i := 130) rfl)) rfl
set_option maxRecDepth 100000 in
theorem fl_X11_96 : Cond.fieldLink RX11 96 "GhostPike$Reader" "faultPlace" "I" ∈ jtbl := jtbl_of (tb_1 _ (List.mem_of_getElem? (i := 131) rfl)) rfl
set_option maxRecDepth 100000 in
theorem fl_X4_12 : Cond.fieldLink RX4 12 "GhostPike$Reader" "tokens" "LGhostPike$Tokens;" ∈ jtbl := jtbl_of (tb_1 _ (List.mem_of_getElem? (i := 132) rfl)) rfl
set_option maxRecDepth 100000 in
theorem fl_X4_18 : Cond.fieldLink RX4 18 "GhostPike$Reader" "placeNames" "[J" ∈ jtbl := jtbl_of (tb_1 _ (List.mem_of_getElem? (i := 133) rfl)) rfl
set_option maxRecDepth 100000 in
theorem fl_X4_22 : Cond.fieldLink RX4 22 "GhostPike$Reader" "ghostNames" "[J" ∈ jtbl := jtbl_of (tb_1 _ (List.mem_of_getElem? (i := 134) rfl)) rfl
set_option maxRecDepth 100000 in
theorem fl_X4_25 : Cond.fieldLink RX4 25 "GhostPike$Reader" "waiting" "[I" ∈ jtbl := jtbl_of (tb_1 _ (List.mem_of_getElem? (i := 135) rfl)) rfl
set_option maxRecDepth 100000 in
theorem fl_X4_190 : Cond.fieldLink RX4 190 "GhostPike$Reader" "waits" "I" ∈ jtbl := jtbl_of (tb_1 _ (List.mem_of_getElem? (i := 136) rfl)) rfl
set_option maxRecDepth 100000 in
theorem fl_X4_193 : Cond.fieldLink RX4 193 "GhostPike$Reader" "depth" "I" ∈ jtbl := jtbl_of (tb_1 _ (List.mem_of_getElem? (i := 137) rfl)) rfl
set_option maxRecDepth 100000 in
theorem fl_X4_29 : Cond.fieldLink RX4 29 "GhostPike$Reader" "draft" "LGhostPike$Told;" ∈ jtbl := jtbl_of (tb_1 _ (List.mem_of_getElem? (i := 138) rfl)) rfl
set_option maxRecDepth 100000 in
theorem fl_X4_42 : Cond.fieldLink RX4 42 "GhostPike$Reader" "at" "I" ∈ jtbl := jtbl_of (tb_1 _ (List.mem_of_getElem? (i := 139) rfl)) rfl
set_option maxRecDepth 100000 in
theorem fl_X4_46 : Cond.fieldLink RX4 46 "GhostPike$Reader" "formFault" "I" ∈ jtbl := jtbl_of (tb_1 _ (List.mem_of_getElem? (i := 140) rfl)) rfl
set_option maxRecDepth 100000 in
theorem fl_X4_59 : Cond.fieldLink RX4 59 "GhostPike$Reader" "formPlace" "I" ∈ jtbl := jtbl_of (tb_1 _ (List.mem_of_getElem? (i := 141) rfl)) rfl
set_option maxRecDepth 100000 in
theorem fl_X4_49 : Cond.fieldLink RX4 49 "GhostPike$Reader" "senseFault" "I" ∈ jtbl := jtbl_of (tb_1 _ (List.mem_of_getElem? (i := 142) rfl)) rfl
set_option maxRecDepth 100000 in
theorem fl_X4_65 : Cond.fieldLink RX4 65 "GhostPike$Reader" "sensePlace" "I" ∈ jtbl := jtbl_of (tb_1 _ (List.mem_of_getElem? (i := 143) rfl)) rfl
set_option maxRecDepth 100000 in
theorem fl_X10_40 : Cond.fieldLink RX10 40 "GhostPike$Way" "known" "Z" ∈ jtbl := jtbl_of (tb_1 _ (List.mem_of_getElem? (i := 184) rfl)) rfl
set_option maxRecDepth 100000 in
theorem fl_X9_32 : Cond.fieldLink RX9 32 "GhostPike$Way" "known" "Z" ∈ jtbl := jtbl_of (tb_1 _ (List.mem_of_getElem? (i := 185) rfl)) rfl
set_option maxRecDepth 100000 in
theorem fl_X10_87 : Cond.fieldLink RX10 87 "GhostPike$Way" "doubtful" "I" ∈ jtbl := jtbl_of (tb_1 _ (List.mem_of_getElem? (i := 186) rfl)) rfl
set_option maxRecDepth 100000 in
theorem fl_X9_9 : Cond.fieldLink RX9 9 "GhostPike$Way" "prices" "[I" ∈ jtbl := jtbl_of (tb_1 _ (List.mem_of_getElem? (i := 187) rfl)) rfl
set_option maxRecDepth 100000 in
theorem fl_X9_15 : Cond.fieldLink RX9 15 "GhostPike$Way" "owed" "[I" ∈ jtbl := jtbl_of (tb_1 _ (List.mem_of_getElem? (i := 188) rfl)) rfl
set_option maxRecDepth 100000 in
theorem fl_X10_121 : Cond.fieldLink RX10 121 "GhostPike$Way" "owed" "[I" ∈ jtbl := jtbl_of (tb_1 _ (List.mem_of_getElem? (i := 189) rfl)) rfl
set_option maxRecDepth 100000 in
theorem fl_X9_18 : Cond.fieldLink RX9 18 "GhostPike$Way" "roads" "[I" ∈ jtbl := jtbl_of (tb_1 _ (List.mem_of_getElem? (i := 190) rfl)) rfl
set_option maxRecDepth 100000 in
theorem fl_X10_133 : Cond.fieldLink RX10 133 "GhostPike$Way" "roads" "[I" ∈ jtbl := jtbl_of (tb_1 _ (List.mem_of_getElem? (i := 191) rfl)) rfl
set_option maxRecDepth 100000 in
theorem fl_X11_169 : Cond.fieldLink RX11 169 "GhostPike$Way" "roads" "[I" ∈ jtbl := jtbl_of (tb_1 _ (List.mem_of_getElem? (i := 192) rfl)) rfl
set_option maxRecDepth 100000 in
theorem fl_X9_36 : Cond.fieldLink RX9 36 "GhostPike$Way" "length" "I" ∈ jtbl := jtbl_of (tb_1 _ (List.mem_of_getElem? (i := 193) rfl)) rfl
set_option maxRecDepth 100000 in
theorem fl_X10_130 : Cond.fieldLink RX10 130 "GhostPike$Way" "length" "I" ∈ jtbl := jtbl_of (tb_1 _ (List.mem_of_getElem? (i := 194) rfl)) rfl
set_option maxRecDepth 100000 in
theorem fl_X11_164 : Cond.fieldLink RX11 164 "GhostPike$Way" "length" "I" ∈ jtbl := jtbl_of (tb_1 _ (List.mem_of_getElem? (i := 195) rfl)) rfl
set_option maxRecDepth 100000 in
theorem fl_X9_24 : Cond.fieldLink RX9 24 "GhostPike$Way" "total" "I" ∈ jtbl := jtbl_of (tb_1 _ (List.mem_of_getElem? (i := 196) rfl)) rfl
set_option maxRecDepth 100000 in
theorem fl_X11_155 : Cond.fieldLink RX11 155 "GhostPike$Way" "total" "I" ∈ jtbl := jtbl_of (tb_1 _ (List.mem_of_getElem? (i := 197) rfl)) rfl
set_option maxRecDepth 100000 in
theorem fl_X1_111 : Cond.fieldLink RX1 111 "GhostPike$Way" "total" "I" ∈ jtbl := jtbl_of (tb_1 _ (List.mem_of_getElem? (i := 198) rfl)) rfl
set_option maxRecDepth 100000 in
theorem fl_X9_29 : Cond.fieldLink RX9 29 "GhostPike$Way" "roadBits" "I" ∈ jtbl := jtbl_of (tb_1 _ (List.mem_of_getElem? (i := 199) rfl)) rfl
set_option maxRecDepth 100000 in
theorem fl_X10_140 : Cond.fieldLink RX10 140 "GhostPike$Way" "roadBits" "I" ∈ jtbl := jtbl_of (tb_1 _ (List.mem_of_getElem? (i := 200) rfl)) rfl
set_option maxRecDepth 100000 in
theorem fl_X1_132 : Cond.fieldLink RX1 132 "GhostPike$Way" "roadBits" "I" ∈ jtbl := jtbl_of (tb_1 _ (List.mem_of_getElem? (i := 201) rfl)) rfl
set_option maxRecDepth 100000 in
theorem fl_X9_21 : Cond.fieldLink RX9 21 "GhostPike$Way" "left" "[I" ∈ jtbl := jtbl_of (tb_1 _ (List.mem_of_getElem? (i := 202) rfl)) rfl
set_option maxRecDepth 100000 in
theorem fl_X10_30 : Cond.fieldLink RX10 30 "GhostPike$World" "told" "LGhostPike$Told;" ∈ jtbl := jtbl_of (tb_1 _ (List.mem_of_getElem? (i := 222) rfl)) rfl
set_option maxRecDepth 100000 in
theorem fl_X0_42 : Cond.fieldLink RX0 42 "GhostPike$World" "told" "LGhostPike$Told;" ∈ jtbl := jtbl_of (tb_1 _ (List.mem_of_getElem? (i := 223) rfl)) rfl
set_option maxRecDepth 100000 in
theorem fl_X11_97 : Cond.fieldLink RX11 97 "GhostPike$World" "told" "LGhostPike$Told;" ∈ jtbl := jtbl_of (tb_1 _ (List.mem_of_getElem? (i := 224) rfl)) rfl
set_option maxRecDepth 100000 in
theorem fl_X1_58 : Cond.fieldLink RX1 58 "GhostPike$World" "told" "LGhostPike$Told;" ∈ jtbl := jtbl_of (tb_1 _ (List.mem_of_getElem? (i := 225) rfl)) rfl
set_option maxRecDepth 100000 in
theorem fl_X10_165 : Cond.fieldLink RX10 165 "GhostPike$World" "foggy" "I" ∈ jtbl := jtbl_of (tb_1 _ (List.mem_of_getElem? (i := 226) rfl)) rfl
set_option maxRecDepth 100000 in
theorem fl_X11_273 : Cond.fieldLink RX11 273 "GhostPike$World" "foggy" "I" ∈ jtbl := jtbl_of (tb_1 _ (List.mem_of_getElem? (i := 227) rfl)) rfl
set_option maxRecDepth 100000 in
theorem fl_X10_68 : Cond.fieldLink RX10 68 "GhostPike$World" "seenOn" "I" ∈ jtbl := jtbl_of (tb_1 _ (List.mem_of_getElem? (i := 228) rfl)) rfl
set_option maxRecDepth 100000 in
theorem fl_X0_108 : Cond.fieldLink RX0 108 "GhostPike$World" "seenOn" "I" ∈ jtbl := jtbl_of (tb_1 _ (List.mem_of_getElem? (i := 229) rfl)) rfl
set_option maxRecDepth 100000 in
theorem fl_X10_11 : Cond.fieldLink RX10 11 "GhostPike$World" "ways" "[LGhostPike$Way;" ∈ jtbl := jtbl_of (tb_1 _ (List.mem_of_getElem? (i := 230) rfl)) rfl
set_option maxRecDepth 100000 in
theorem fl_X11_151 : Cond.fieldLink RX11 151 "GhostPike$World" "ways" "[LGhostPike$Way;" ∈ jtbl := jtbl_of (tb_1 _ (List.mem_of_getElem? (i := 231) rfl)) rfl
set_option maxRecDepth 100000 in
theorem fl_X1_107 : Cond.fieldLink RX1 107 "GhostPike$World" "ways" "[LGhostPike$Way;" ∈ jtbl := jtbl_of (tb_1 _ (List.mem_of_getElem? (i := 232) rfl)) rfl
set_option maxRecDepth 100000 in
theorem fl_X10_57 : Cond.fieldLink RX10 57 "GhostPike$World" "broken" "I" ∈ jtbl := jtbl_of (tb_1 _ (List.mem_of_getElem? (i := 233) rfl)) rfl
set_option maxRecDepth 100000 in
theorem fl_X11_125 : Cond.fieldLink RX11 125 "GhostPike$World" "broken" "I" ∈ jtbl := jtbl_of (tb_1 _ (List.mem_of_getElem? (i := 234) rfl)) rfl
set_option maxRecDepth 100000 in
theorem fl_X1_119 : Cond.fieldLink RX1 119 "GhostPike$World" "broken" "I" ∈ jtbl := jtbl_of (tb_1 _ (List.mem_of_getElem? (i := 235) rfl)) rfl
set_option maxRecDepth 100000 in
theorem fl_X10_49 : Cond.fieldLink RX10 49 "GhostPike$World" "cells" "[I" ∈ jtbl := jtbl_of (tb_1 _ (List.mem_of_getElem? (i := 236) rfl)) rfl
set_option maxRecDepth 100000 in
theorem fl_X10_155 : Cond.fieldLink RX10 155 "GhostPike$World" "nightKey" "J" ∈ jtbl := jtbl_of (tb_1 _ (List.mem_of_getElem? (i := 237) rfl)) rfl
set_option maxRecDepth 100000 in
theorem fl_X10_36 : Cond.fieldLink RX10 36 "GhostPike$World" "bearsKey" "J" ∈ jtbl := jtbl_of (tb_1 _ (List.mem_of_getElem? (i := 238) rfl)) rfl
set_option maxRecDepth 100000 in
theorem fl_X10_17 : Cond.fieldLink RX10 17 "GhostPike$World" "bearing" "[I" ∈ jtbl := jtbl_of (tb_1 _ (List.mem_of_getElem? (i := 239) rfl)) rfl
set_option maxRecDepth 100000 in
theorem fl_X10_23 : Cond.fieldLink RX10 23 "GhostPike$World" "vars" "[I" ∈ jtbl := jtbl_of (tb_2 _ (List.mem_of_getElem? (i := 0) rfl)) rfl
set_option maxRecDepth 100000 in
theorem fl_X10_26 : Cond.fieldLink RX10 26 "GhostPike$World" "stack" "[I" ∈ jtbl := jtbl_of (tb_2 _ (List.mem_of_getElem? (i := 1) rfl)) rfl
set_option maxRecDepth 100000 in
theorem fl_X5_11 : Cond.fieldLink RX5 11 "GhostPike$State" "cells" "[I" ∈ jtbl := jtbl_of (tb_2 _ (List.mem_of_getElem? (i := 31) rfl)) rfl
set_option maxRecDepth 100000 in
theorem fl_X3_25 : Cond.fieldLink RX3 25 "GhostPike$State" "cells" "[I" ∈ jtbl := jtbl_of (tb_2 _ (List.mem_of_getElem? (i := 32) rfl)) rfl
set_option maxRecDepth 100000 in
theorem fl_X10_44 : Cond.fieldLink RX10 44 "GhostPike$State" "cells" "[I" ∈ jtbl := jtbl_of (tb_2 _ (List.mem_of_getElem? (i := 33) rfl)) rfl
set_option maxRecDepth 100000 in
theorem fl_X1_51 : Cond.fieldLink RX1 51 "GhostPike$State" "cells" "[I" ∈ jtbl := jtbl_of (tb_2 _ (List.mem_of_getElem? (i := 34) rfl)) rfl
set_option maxRecDepth 100000 in
theorem fl_X11_122 : Cond.fieldLink RX11 122 "GhostPike$State" "cells" "[I" ∈ jtbl := jtbl_of (tb_2 _ (List.mem_of_getElem? (i := 35) rfl)) rfl
set_option maxRecDepth 100000 in
theorem fl_X0_92 : Cond.fieldLink RX0 92 "GhostPike$State" "cells" "[I" ∈ jtbl := jtbl_of (tb_2 _ (List.mem_of_getElem? (i := 36) rfl)) rfl
set_option maxRecDepth 100000 in
theorem fl_X3_18 : Cond.fieldLink RX3 18 "GhostPike$Past" "size" "I" ∈ jtbl := jtbl_of (tb_2 _ (List.mem_of_getElem? (i := 46) rfl)) rfl
set_option maxRecDepth 100000 in
theorem fl_X11_276 : Cond.fieldLink RX11 276 "GhostPike$Past" "size" "I" ∈ jtbl := jtbl_of (tb_2 _ (List.mem_of_getElem? (i := 47) rfl)) rfl
set_option maxRecDepth 100000 in
theorem fl_X3_22 : Cond.fieldLink RX3 22 "GhostPike$Past" "slotsHeld" "I" ∈ jtbl := jtbl_of (tb_2 _ (List.mem_of_getElem? (i := 48) rfl)) rfl
set_option maxRecDepth 100000 in
theorem fl_X11_277 : Cond.fieldLink RX11 277 "GhostPike$Past" "slotsHeld" "I" ∈ jtbl := jtbl_of (tb_2 _ (List.mem_of_getElem? (i := 49) rfl)) rfl
set_option maxRecDepth 100000 in
theorem fl_X3_11 : Cond.fieldLink RX3 11 "GhostPike$Past" "kept" "[I" ∈ jtbl := jtbl_of (tb_2 _ (List.mem_of_getElem? (i := 50) rfl)) rfl
set_option maxRecDepth 100000 in
theorem fl_X3_15 : Cond.fieldLink RX3 15 "GhostPike$Past" "slots" "[I" ∈ jtbl := jtbl_of (tb_2 _ (List.mem_of_getElem? (i := 51) rfl)) rfl
set_option maxRecDepth 100000 in
theorem fl_X3_28 : Cond.fieldLink RX3 28 "GhostPike$Past" "next" "I" ∈ jtbl := jtbl_of (tb_2 _ (List.mem_of_getElem? (i := 52) rfl)) rfl
set_option maxRecDepth 100000 in
theorem fl_X1_101 : Cond.fieldLink RX1 101 "GhostPike$Forecast" "most" "I" ∈ jtbl := jtbl_of (tb_2 _ (List.mem_of_getElem? (i := 72) rfl)) rfl
set_option maxRecDepth 100000 in
theorem fl_X11_200 : Cond.fieldLink RX11 200 "GhostPike$Forecast" "most" "I" ∈ jtbl := jtbl_of (tb_2 _ (List.mem_of_getElem? (i := 73) rfl)) rfl
set_option maxRecDepth 100000 in
theorem fl_X1_98 : Cond.fieldLink RX1 98 "GhostPike$Forecast" "which" "I" ∈ jtbl := jtbl_of (tb_2 _ (List.mem_of_getElem? (i := 74) rfl)) rfl
set_option maxRecDepth 100000 in
theorem fl_X11_203 : Cond.fieldLink RX11 203 "GhostPike$Forecast" "which" "I" ∈ jtbl := jtbl_of (tb_2 _ (List.mem_of_getElem? (i := 75) rfl)) rfl
set_option maxRecDepth 100000 in
theorem fl_X1_9 : Cond.fieldLink RX1 9 "GhostPike$Forecast" "answered" "I" ∈ jtbl := jtbl_of (tb_2 _ (List.mem_of_getElem? (i := 76) rfl)) rfl
set_option maxRecDepth 100000 in
theorem fl_X1_32 : Cond.fieldLink RX1 32 "GhostPike$Forecast" "world" "LGhostPike$World;" ∈ jtbl := jtbl_of (tb_2 _ (List.mem_of_getElem? (i := 77) rfl)) rfl
set_option maxRecDepth 100000 in
theorem fl_X1_36 : Cond.fieldLink RX1 36 "GhostPike$Forecast" "now" "LGhostPike$State;" ∈ jtbl := jtbl_of (tb_2 _ (List.mem_of_getElem? (i := 78) rfl)) rfl
set_option maxRecDepth 100000 in
theorem fl_X1_18 : Cond.fieldLink RX1 18 "GhostPike$Forecast" "then" "LGhostPike$State;" ∈ jtbl := jtbl_of (tb_2 _ (List.mem_of_getElem? (i := 79) rfl)) rfl
set_option maxRecDepth 100000 in
theorem fl_X1_22 : Cond.fieldLink RX1 22 "GhostPike$Forecast" "evenTakes" "[I" ∈ jtbl := jtbl_of (tb_2 _ (List.mem_of_getElem? (i := 80) rfl)) rfl
set_option maxRecDepth 100000 in
theorem fl_X1_26 : Cond.fieldLink RX1 26 "GhostPike$Forecast" "oddTakes" "[I" ∈ jtbl := jtbl_of (tb_2 _ (List.mem_of_getElem? (i := 81) rfl)) rfl
set_option maxRecDepth 100000 in
theorem fl_X1_29 : Cond.fieldLink RX1 29 "GhostPike$Forecast" "openRoads" "[I" ∈ jtbl := jtbl_of (tb_2 _ (List.mem_of_getElem? (i := 82) rfl)) rfl
set_option maxRecDepth 100000 in
theorem fl_X0_35 : Cond.fieldLink RX0 35 "GhostPike$Dreams" "size" "I" ∈ jtbl := jtbl_of (tb_2 _ (List.mem_of_getElem? (i := 110) rfl)) rfl
set_option maxRecDepth 100000 in
theorem fl_X11_248 : Cond.fieldLink RX11 248 "GhostPike$Dreams" "size" "I" ∈ jtbl := jtbl_of (tb_2 _ (List.mem_of_getElem? (i := 111) rfl)) rfl
set_option maxRecDepth 100000 in
theorem fl_X0_31 : Cond.fieldLink RX0 31 "GhostPike$Dreams" "world" "LGhostPike$World;" ∈ jtbl := jtbl_of (tb_2 _ (List.mem_of_getElem? (i := 112) rfl)) rfl
set_option maxRecDepth 100000 in
theorem fl_X0_12 : Cond.fieldLink RX0 12 "GhostPike$Dreams" "state" "LGhostPike$State;" ∈ jtbl := jtbl_of (tb_2 _ (List.mem_of_getElem? (i := 113) rfl)) rfl
set_option maxRecDepth 100000 in
theorem fl_X0_18 : Cond.fieldLink RX0 18 "GhostPike$Dreams" "roads" "[I" ∈ jtbl := jtbl_of (tb_2 _ (List.mem_of_getElem? (i := 114) rfl)) rfl
set_option maxRecDepth 100000 in
theorem fl_X0_22 : Cond.fieldLink RX0 22 "GhostPike$Dreams" "nights" "[I" ∈ jtbl := jtbl_of (tb_2 _ (List.mem_of_getElem? (i := 115) rfl)) rfl
set_option maxRecDepth 100000 in
theorem fl_X0_25 : Cond.fieldLink RX0 25 "GhostPike$Dreams" "seen" "[I" ∈ jtbl := jtbl_of (tb_2 _ (List.mem_of_getElem? (i := 116) rfl)) rfl
set_option maxRecDepth 100000 in
theorem fl_X0_39 : Cond.fieldLink RX0 39 "GhostPike$Dreams" "learnt" "I" ∈ jtbl := jtbl_of (tb_2 _ (List.mem_of_getElem? (i := 117) rfl)) rfl
set_option maxRecDepth 100000 in
theorem fl_X0_65 : Cond.fieldLink RX0 65 "GhostPike$Dreams" "seenOn" "[I" ∈ jtbl := jtbl_of (tb_2 _ (List.mem_of_getElem? (i := 118) rfl)) rfl
set_option maxRecDepth 100000 in
theorem fl_X0_81 : Cond.fieldLink RX0 81 "GhostPike$Dreams" "wear" "[I" ∈ jtbl := jtbl_of (tb_2 _ (List.mem_of_getElem? (i := 119) rfl)) rfl
set_option maxRecDepth 100000 in
theorem fl_X0_28 : Cond.fieldLink RX0 28 "GhostPike$Dreams" "setsThatShow" "[I" ∈ jtbl := jtbl_of (tb_2 _ (List.mem_of_getElem? (i := 120) rfl)) rfl
set_option maxRecDepth 100000 in
theorem fl_X2_29 : Cond.fieldLink RX2 29 "GhostPike$Law" "mask" "J" ∈ jtbl := jtbl_of (tb_2 _ (List.mem_of_getElem? (i := 154) rfl)) rfl
set_option maxRecDepth 100000 in
theorem fl_X10_152 : Cond.fieldLink RX10 152 "GhostPike$Law" "mask" "J" ∈ jtbl := jtbl_of (tb_2 _ (List.mem_of_getElem? (i := 155) rfl)) rfl
set_option maxRecDepth 100000 in
theorem fl_X2_11 : Cond.fieldLink RX2 11 "GhostPike$Law" "keys" "[J" ∈ jtbl := jtbl_of (tb_2 _ (List.mem_of_getElem? (i := 156) rfl)) rfl
set_option maxRecDepth 100000 in
theorem fl_X10_171 : Cond.fieldLink RX10 171 "GhostPike$Law" "keys" "[J" ∈ jtbl := jtbl_of (tb_2 _ (List.mem_of_getElem? (i := 157) rfl)) rfl
set_option maxRecDepth 100000 in
theorem fl_X2_15 : Cond.fieldLink RX2 15 "GhostPike$Law" "values" "[I" ∈ jtbl := jtbl_of (tb_2 _ (List.mem_of_getElem? (i := 158) rfl)) rfl
set_option maxRecDepth 100000 in
theorem fl_X10_175 : Cond.fieldLink RX10 175 "GhostPike$Law" "values" "[I" ∈ jtbl := jtbl_of (tb_2 _ (List.mem_of_getElem? (i := 159) rfl)) rfl
set_option maxRecDepth 100000 in
theorem fl_X2_22 : Cond.fieldLink RX2 22 "GhostPike$Law" "vars" "I" ∈ jtbl := jtbl_of (tb_2 _ (List.mem_of_getElem? (i := 160) rfl)) rfl
set_option maxRecDepth 100000 in
theorem fl_X2_19 : Cond.fieldLink RX2 19 "GhostPike$Law" "works" "[I" ∈ jtbl := jtbl_of (tb_2 _ (List.mem_of_getElem? (i := 161) rfl)) rfl
set_option maxRecDepth 100000 in
theorem fl_X2_26 : Cond.fieldLink RX2 26 "GhostPike$Law" "length" "I" ∈ jtbl := jtbl_of (tb_2 _ (List.mem_of_getElem? (i := 162) rfl)) rfl
set_option maxRecDepth 100000 in
theorem fl_X8_51 : Cond.fieldLink RX8 51 "GhostPike$Told" "places" "I" ∈ jtbl := jtbl_of (tb_2 _ (List.mem_of_getElem? (i := 176) rfl)) rfl
set_option maxRecDepth 100000 in
theorem fl_X4_118 : Cond.fieldLink RX4 118 "GhostPike$Told" "places" "I" ∈ jtbl := jtbl_of (tb_2 _ (List.mem_of_getElem? (i := 177) rfl)) rfl
set_option maxRecDepth 100000 in
theorem fl_X11_267 : Cond.fieldLink RX11 267 "GhostPike$Told" "places" "I" ∈ jtbl := jtbl_of (tb_2 _ (List.mem_of_getElem? (i := 178) rfl)) rfl
set_option maxRecDepth 100000 in
theorem fl_X8_55 : Cond.fieldLink RX8 55 "GhostPike$Told" "roads" "I" ∈ jtbl := jtbl_of (tb_2 _ (List.mem_of_getElem? (i := 179) rfl)) rfl
set_option maxRecDepth 100000 in
theorem fl_X4_125 : Cond.fieldLink RX4 125 "GhostPike$Told" "roads" "I" ∈ jtbl := jtbl_of (tb_2 _ (List.mem_of_getElem? (i := 180) rfl)) rfl
set_option maxRecDepth 100000 in
theorem fl_X9_71 : Cond.fieldLink RX9 71 "GhostPike$Told" "roads" "I" ∈ jtbl := jtbl_of (tb_2 _ (List.mem_of_getElem? (i := 181) rfl)) rfl
set_option maxRecDepth 100000 in
theorem fl_X0_63 : Cond.fieldLink RX0 63 "GhostPike$Told" "roads" "I" ∈ jtbl := jtbl_of (tb_2 _ (List.mem_of_getElem? (i := 182) rfl)) rfl
set_option maxRecDepth 100000 in
theorem fl_X1_62 : Cond.fieldLink RX1 62 "GhostPike$Told" "roads" "I" ∈ jtbl := jtbl_of (tb_2 _ (List.mem_of_getElem? (i := 183) rfl)) rfl
set_option maxRecDepth 100000 in
theorem fl_X10_90 : Cond.fieldLink RX10 90 "GhostPike$Told" "roads" "I" ∈ jtbl := jtbl_of (tb_2 _ (List.mem_of_getElem? (i := 184) rfl)) rfl
set_option maxRecDepth 100000 in
theorem fl_X11_195 : Cond.fieldLink RX11 195 "GhostPike$Told" "roads" "I" ∈ jtbl := jtbl_of (tb_2 _ (List.mem_of_getElem? (i := 185) rfl)) rfl
set_option maxRecDepth 100000 in
theorem fl_X8_58 : Cond.fieldLink RX8 58 "GhostPike$Told" "ghosts" "I" ∈ jtbl := jtbl_of (tb_2 _ (List.mem_of_getElem? (i := 186) rfl)) rfl
set_option maxRecDepth 100000 in
theorem fl_X5_34 : Cond.fieldLink RX5 34 "GhostPike$Told" "ghosts" "I" ∈ jtbl := jtbl_of (tb_2 _ (List.mem_of_getElem? (i := 187) rfl)) rfl
set_option maxRecDepth 100000 in
theorem fl_X0_48 : Cond.fieldLink RX0 48 "GhostPike$Told" "ghosts" "I" ∈ jtbl := jtbl_of (tb_2 _ (List.mem_of_getElem? (i := 188) rfl)) rfl
set_option maxRecDepth 100000 in
theorem fl_X4_147 : Cond.fieldLink RX4 147 "GhostPike$Told" "ghosts" "I" ∈ jtbl := jtbl_of (tb_2 _ (List.mem_of_getElem? (i := 189) rfl)) rfl
set_option maxRecDepth 100000 in
theorem fl_X10_71 : Cond.fieldLink RX10 71 "GhostPike$Told" "ghosts" "I" ∈ jtbl := jtbl_of (tb_2 _ (List.mem_of_getElem? (i := 190) rfl)) rfl
set_option maxRecDepth 100000 in
theorem fl_X1_129 : Cond.fieldLink RX1 129 "GhostPike$Told" "ghosts" "I" ∈ jtbl := jtbl_of (tb_2 _ (List.mem_of_getElem? (i := 191) rfl)) rfl
set_option maxRecDepth 100000 in
theorem fl_X11_270 : Cond.fieldLink RX11 270 "GhostPike$Told" "ghosts" "I" ∈ jtbl := jtbl_of (tb_2 _ (List.mem_of_getElem? (i := 192) rfl)) rfl
set_option maxRecDepth 100000 in
theorem fl_X8_9 : Cond.fieldLink RX8 9 "GhostPike$Told" "one" "[I" ∈ jtbl := jtbl_of (tb_2 _ (List.mem_of_getElem? (i := 193) rfl)) rfl
set_option maxRecDepth 100000 in
theorem fl_X9_59 : Cond.fieldLink RX9 59 "GhostPike$Told" "one" "[I" ∈ jtbl := jtbl_of (tb_2 _ (List.mem_of_getElem? (i := 194) rfl)) rfl
set_option maxRecDepth 100000 in
theorem fl_X4_128 : Cond.fieldLink RX4 128 "GhostPike$Told" "one" "[I" ∈ jtbl := jtbl_of (tb_2 _ (List.mem_of_getElem? (i := 195) rfl)) rfl
set_option maxRecDepth 100000 in
theorem fl_X11_109 : Cond.fieldLink RX11 109 "GhostPike$Told" "one" "[I" ∈ jtbl := jtbl_of (tb_2 _ (List.mem_of_getElem? (i := 196) rfl)) rfl
set_option maxRecDepth 100000 in
theorem fl_X8_15 : Cond.fieldLink RX8 15 "GhostPike$Told" "other" "[I" ∈ jtbl := jtbl_of (tb_2 _ (List.mem_of_getElem? (i := 197) rfl)) rfl
set_option maxRecDepth 100000 in
theorem fl_X9_62 : Cond.fieldLink RX9 62 "GhostPike$Told" "other" "[I" ∈ jtbl := jtbl_of (tb_2 _ (List.mem_of_getElem? (i := 198) rfl)) rfl
set_option maxRecDepth 100000 in
theorem fl_X4_135 : Cond.fieldLink RX4 135 "GhostPike$Told" "other" "[I" ∈ jtbl := jtbl_of (tb_2 _ (List.mem_of_getElem? (i := 199) rfl)) rfl
set_option maxRecDepth 100000 in
theorem fl_X11_113 : Cond.fieldLink RX11 113 "GhostPike$Told" "other" "[I" ∈ jtbl := jtbl_of (tb_2 _ (List.mem_of_getElem? (i := 200) rfl)) rfl
set_option maxRecDepth 100000 in
theorem fl_X8_18 : Cond.fieldLink RX8 18 "GhostPike$Told" "hours" "[I" ∈ jtbl := jtbl_of (tb_2 _ (List.mem_of_getElem? (i := 201) rfl)) rfl
set_option maxRecDepth 100000 in
theorem fl_X4_138 : Cond.fieldLink RX4 138 "GhostPike$Told" "hours" "[I" ∈ jtbl := jtbl_of (tb_2 _ (List.mem_of_getElem? (i := 202) rfl)) rfl
set_option maxRecDepth 100000 in
theorem fl_X11_116 : Cond.fieldLink RX11 116 "GhostPike$Told" "hours" "[I" ∈ jtbl := jtbl_of (tb_2 _ (List.mem_of_getElem? (i := 203) rfl)) rfl
set_option maxRecDepth 100000 in
theorem fl_X10_110 : Cond.fieldLink RX10 110 "GhostPike$Told" "hours" "[I" ∈ jtbl := jtbl_of (tb_2 _ (List.mem_of_getElem? (i := 204) rfl)) rfl
set_option maxRecDepth 100000 in
theorem fl_X8_61 : Cond.fieldLink RX8 61 "GhostPike$Told" "fields" "I" ∈ jtbl := jtbl_of (tb_2 _ (List.mem_of_getElem? (i := 205) rfl)) rfl
set_option maxRecDepth 100000 in
theorem fl_X4_141 : Cond.fieldLink RX4 141 "GhostPike$Told" "fields" "I" ∈ jtbl := jtbl_of (tb_2 _ (List.mem_of_getElem? (i := 206) rfl)) rfl
set_option maxRecDepth 100000 in
theorem fl_X0_78 : Cond.fieldLink RX0 78 "GhostPike$Told" "fields" "I" ∈ jtbl := jtbl_of (tb_2 _ (List.mem_of_getElem? (i := 207) rfl)) rfl
set_option maxRecDepth 100000 in
theorem fl_X11_119 : Cond.fieldLink RX11 119 "GhostPike$Told" "fields" "I" ∈ jtbl := jtbl_of (tb_2 _ (List.mem_of_getElem? (i := 208) rfl)) rfl
set_option maxRecDepth 100000 in
theorem fl_X10_124 : Cond.fieldLink RX10 124 "GhostPike$Told" "fields" "I" ∈ jtbl := jtbl_of (tb_2 _ (List.mem_of_getElem? (i := 209) rfl)) rfl
set_option maxRecDepth 100000 in
theorem fl_X5_25 : Cond.fieldLink RX5 25 "GhostPike$Told" "gates" "I" ∈ jtbl := jtbl_of (tb_2 _ (List.mem_of_getElem? (i := 210) rfl)) rfl
set_option maxRecDepth 100000 in
theorem fl_X8_64 : Cond.fieldLink RX8 64 "GhostPike$Told" "gates" "I" ∈ jtbl := jtbl_of (tb_2 _ (List.mem_of_getElem? (i := 211) rfl)) rfl
set_option maxRecDepth 100000 in
theorem fl_X4_144 : Cond.fieldLink RX4 144 "GhostPike$Told" "gates" "I" ∈ jtbl := jtbl_of (tb_2 _ (List.mem_of_getElem? (i := 212) rfl)) rfl
set_option maxRecDepth 100000 in
theorem fl_X8_21 : Cond.fieldLink RX8 21 "GhostPike$Told" "home" "[I" ∈ jtbl := jtbl_of (tb_2 _ (List.mem_of_getElem? (i := 213) rfl)) rfl
set_option maxRecDepth 100000 in
theorem fl_X9_39 : Cond.fieldLink RX9 39 "GhostPike$Told" "home" "[I" ∈ jtbl := jtbl_of (tb_2 _ (List.mem_of_getElem? (i := 214) rfl)) rfl
set_option maxRecDepth 100000 in
theorem fl_X4_150 : Cond.fieldLink RX4 150 "GhostPike$Told" "home" "[I" ∈ jtbl := jtbl_of (tb_2 _ (List.mem_of_getElem? (i := 215) rfl)) rfl
set_option maxRecDepth 100000 in
theorem fl_X8_24 : Cond.fieldLink RX8 24 "GhostPike$Told" "goal" "[I" ∈ jtbl := jtbl_of (tb_2 _ (List.mem_of_getElem? (i := 216) rfl)) rfl
set_option maxRecDepth 100000 in
theorem fl_X9_44 : Cond.fieldLink RX9 44 "GhostPike$Told" "goal" "[I" ∈ jtbl := jtbl_of (tb_2 _ (List.mem_of_getElem? (i := 217) rfl)) rfl
set_option maxRecDepth 100000 in
theorem fl_X4_153 : Cond.fieldLink RX4 153 "GhostPike$Told" "goal" "[I" ∈ jtbl := jtbl_of (tb_2 _ (List.mem_of_getElem? (i := 218) rfl)) rfl
set_option maxRecDepth 100000 in
theorem fl_X8_27 : Cond.fieldLink RX8 27 "GhostPike$Told" "kind" "[I" ∈ jtbl := jtbl_of (tb_2 _ (List.mem_of_getElem? (i := 219) rfl)) rfl
set_option maxRecDepth 100000 in
theorem fl_X4_156 : Cond.fieldLink RX4 156 "GhostPike$Told" "kind" "[I" ∈ jtbl := jtbl_of (tb_2 _ (List.mem_of_getElem? (i := 220) rfl)) rfl
set_option maxRecDepth 100000 in
theorem fl_X11_131 : Cond.fieldLink RX11 131 "GhostPike$Told" "kind" "[I" ∈ jtbl := jtbl_of (tb_2 _ (List.mem_of_getElem? (i := 221) rfl)) rfl
set_option maxRecDepth 100000 in
theorem fl_X10_178 : Cond.fieldLink RX10 178 "GhostPike$Told" "kind" "[I" ∈ jtbl := jtbl_of (tb_2 _ (List.mem_of_getElem? (i := 222) rfl)) rfl
set_option maxRecDepth 100000 in
theorem fl_X8_30 : Cond.fieldLink RX8 30 "GhostPike$Told" "carries" "[I" ∈ jtbl := jtbl_of (tb_2 _ (List.mem_of_getElem? (i := 223) rfl)) rfl
set_option maxRecDepth 100000 in
theorem fl_X4_159 : Cond.fieldLink RX4 159 "GhostPike$Told" "carries" "[I" ∈ jtbl := jtbl_of (tb_2 _ (List.mem_of_getElem? (i := 224) rfl)) rfl
set_option maxRecDepth 100000 in
theorem fl_X11_134 : Cond.fieldLink RX11 134 "GhostPike$Told" "carries" "[I" ∈ jtbl := jtbl_of (tb_2 _ (List.mem_of_getElem? (i := 225) rfl)) rfl
set_option maxRecDepth 100000 in
theorem fl_X10_143 : Cond.fieldLink RX10 143 "GhostPike$Told" "carries" "[I" ∈ jtbl := jtbl_of (tb_2 _ (List.mem_of_getElem? (i := 226) rfl)) rfl
set_option maxRecDepth 100000 in
theorem fl_X8_33 : Cond.fieldLink RX8 33 "GhostPike$Told" "every" "[I" ∈ jtbl := jtbl_of (tb_2 _ (List.mem_of_getElem? (i := 227) rfl)) rfl
set_option maxRecDepth 100000 in
theorem fl_X4_162 : Cond.fieldLink RX4 162 "GhostPike$Told" "every" "[I" ∈ jtbl := jtbl_of (tb_2 _ (List.mem_of_getElem? (i := 228) rfl)) rfl
set_option maxRecDepth 100000 in
theorem fl_X11_137 : Cond.fieldLink RX11 137 "GhostPike$Told" "every" "[I" ∈ jtbl := jtbl_of (tb_2 _ (List.mem_of_getElem? (i := 229) rfl)) rfl
set_option maxRecDepth 100000 in
theorem fl_X10_181 : Cond.fieldLink RX10 181 "GhostPike$Told" "every" "[I" ∈ jtbl := jtbl_of (tb_2 _ (List.mem_of_getElem? (i := 230) rfl)) rfl
set_option maxRecDepth 100000 in
theorem fl_X8_41 : Cond.fieldLink RX8 41 "GhostPike$Told" "owes" "LGhostPike$Law;" ∈ jtbl := jtbl_of (tb_2 _ (List.mem_of_getElem? (i := 231) rfl)) rfl
set_option maxRecDepth 100000 in
theorem fl_X4_77 : Cond.fieldLink RX4 77 "GhostPike$Told" "owes" "LGhostPike$Law;" ∈ jtbl := jtbl_of (tb_2 _ (List.mem_of_getElem? (i := 232) rfl)) rfl
set_option maxRecDepth 100000 in
theorem fl_X10_113 : Cond.fieldLink RX10 113 "GhostPike$Told" "owes" "LGhostPike$Law;" ∈ jtbl := jtbl_of (tb_2 _ (List.mem_of_getElem? (i := 233) rfl)) rfl
set_option maxRecDepth 100000 in
theorem fl_X8_45 : Cond.fieldLink RX8 45 "GhostPike$Told" "fears" "LGhostPike$Law;" ∈ jtbl := jtbl_of (tb_2 _ (List.mem_of_getElem? (i := 234) rfl)) rfl
set_option maxRecDepth 100000 in
theorem fl_X4_85 : Cond.fieldLink RX4 85 "GhostPike$Told" "fears" "LGhostPike$Law;" ∈ jtbl := jtbl_of (tb_2 _ (List.mem_of_getElem? (i := 235) rfl)) rfl
set_option maxRecDepth 100000 in
theorem fl_X10_127 : Cond.fieldLink RX10 127 "GhostPike$Told" "fears" "LGhostPike$Law;" ∈ jtbl := jtbl_of (tb_2 _ (List.mem_of_getElem? (i := 236) rfl)) rfl
set_option maxRecDepth 100000 in
theorem fl_X8_48 : Cond.fieldLink RX8 48 "GhostPike$Told" "bears" "LGhostPike$Law;" ∈ jtbl := jtbl_of (tb_2 _ (List.mem_of_getElem? (i := 237) rfl)) rfl
set_option maxRecDepth 100000 in
theorem fl_X4_88 : Cond.fieldLink RX4 88 "GhostPike$Told" "bears" "LGhostPike$Law;" ∈ jtbl := jtbl_of (tb_2 _ (List.mem_of_getElem? (i := 238) rfl)) rfl
set_option maxRecDepth 100000 in
theorem fl_X10_168 : Cond.fieldLink RX10 168 "GhostPike$Told" "bears" "LGhostPike$Law;" ∈ jtbl := jtbl_of (tb_2 _ (List.mem_of_getElem? (i := 239) rfl)) rfl
set_option maxRecDepth 100000 in
theorem fl_X8_77 : Cond.fieldLink RX8 77 "GhostPike$Told" "fog" "I" ∈ jtbl := jtbl_of (tb_3 _ (List.mem_of_getElem? (i := 0) rfl)) rfl
set_option maxRecDepth 100000 in
theorem fl_X4_98 : Cond.fieldLink RX4 98 "GhostPike$Told" "fog" "I" ∈ jtbl := jtbl_of (tb_3 _ (List.mem_of_getElem? (i := 1) rfl)) rfl
set_option maxRecDepth 100000 in
theorem fl_X10_158 : Cond.fieldLink RX10 158 "GhostPike$Told" "fog" "I" ∈ jtbl := jtbl_of (tb_3 _ (List.mem_of_getElem? (i := 2) rfl)) rfl
set_option maxRecDepth 100000 in
theorem fl_X8_80 : Cond.fieldLink RX8 80 "GhostPike$Told" "sheets" "I" ∈ jtbl := jtbl_of (tb_3 _ (List.mem_of_getElem? (i := 3) rfl)) rfl
set_option maxRecDepth 100000 in
theorem fl_X4_101 : Cond.fieldLink RX4 101 "GhostPike$Told" "sheets" "I" ∈ jtbl := jtbl_of (tb_3 _ (List.mem_of_getElem? (i := 4) rfl)) rfl
set_option maxRecDepth 100000 in
theorem fl_X8_83 : Cond.fieldLink RX8 83 "GhostPike$Told" "errs" "I" ∈ jtbl := jtbl_of (tb_3 _ (List.mem_of_getElem? (i := 5) rfl)) rfl
set_option maxRecDepth 100000 in
theorem fl_X4_104 : Cond.fieldLink RX4 104 "GhostPike$Told" "errs" "I" ∈ jtbl := jtbl_of (tb_3 _ (List.mem_of_getElem? (i := 6) rfl)) rfl
set_option maxRecDepth 100000 in
theorem fl_X5_31 : Cond.fieldLink RX5 31 "GhostPike$Told" "seed" "I" ∈ jtbl := jtbl_of (tb_3 _ (List.mem_of_getElem? (i := 7) rfl)) rfl
set_option maxRecDepth 100000 in
theorem fl_X8_86 : Cond.fieldLink RX8 86 "GhostPike$Told" "seed" "I" ∈ jtbl := jtbl_of (tb_3 _ (List.mem_of_getElem? (i := 8) rfl)) rfl
set_option maxRecDepth 100000 in
theorem fl_X4_107 : Cond.fieldLink RX4 107 "GhostPike$Told" "seed" "I" ∈ jtbl := jtbl_of (tb_3 _ (List.mem_of_getElem? (i := 9) rfl)) rfl
set_option maxRecDepth 100000 in
theorem fl_X11_10 : Cond.fieldLink RX11 10 "GhostPike" "tape" "LGhostPike$Tape;" ∈ jtbl := jtbl_of (tb_3 _ (List.mem_of_getElem? (i := 136) rfl)) rfl
set_option maxRecDepth 100000 in
theorem fl_X11_19 : Cond.fieldLink RX11 19 "GhostPike" "reader" "LGhostPike$Reader;" ∈ jtbl := jtbl_of (tb_3 _ (List.mem_of_getElem? (i := 137) rfl)) rfl
set_option maxRecDepth 100000 in
theorem fl_X11_26 : Cond.fieldLink RX11 26 "GhostPike" "world" "LGhostPike$World;" ∈ jtbl := jtbl_of (tb_3 _ (List.mem_of_getElem? (i := 138) rfl)) rfl
set_option maxRecDepth 100000 in
theorem fl_X11_33 : Cond.fieldLink RX11 33 "GhostPike" "now" "LGhostPike$State;" ∈ jtbl := jtbl_of (tb_3 _ (List.mem_of_getElem? (i := 139) rfl)) rfl
set_option maxRecDepth 100000 in
theorem fl_X11_40 : Cond.fieldLink RX11 40 "GhostPike" "past" "LGhostPike$Past;" ∈ jtbl := jtbl_of (tb_3 _ (List.mem_of_getElem? (i := 140) rfl)) rfl
set_option maxRecDepth 100000 in
theorem fl_X11_49 : Cond.fieldLink RX11 49 "GhostPike" "forecast" "LGhostPike$Forecast;" ∈ jtbl := jtbl_of (tb_3 _ (List.mem_of_getElem? (i := 141) rfl)) rfl
set_option maxRecDepth 100000 in
theorem fl_X11_58 : Cond.fieldLink RX11 58 "GhostPike" "dreams" "LGhostPike$Dreams;" ∈ jtbl := jtbl_of (tb_3 _ (List.mem_of_getElem? (i := 142) rfl)) rfl
set_option maxRecDepth 100000 in
theorem fl_X11_65 : Cond.fieldLink RX11 65 "GhostPike" "draft" "LGhostPike$Told;" ∈ jtbl := jtbl_of (tb_3 _ (List.mem_of_getElem? (i := 143) rfl)) rfl
set_option maxRecDepth 100000 in
theorem fl_X11_69 : Cond.fieldLink RX11 69 "GhostPike" "faultPlace" "I" ∈ jtbl := jtbl_of (tb_3 _ (List.mem_of_getElem? (i := 144) rfl)) rfl
set_option maxRecDepth 100000 in
theorem fl_X12_13 : Cond.fieldLink RX12 13 "GhostPikeModel" "tape" "[B" ∈ jtbl := jtbl_of (tb_6 _ (List.mem_of_getElem? (i := 19) rfl)) rfl
set_option maxRecDepth 100000 in
theorem fl_X12_196 : Cond.fieldLink RX12 196 "GhostPikeModel" "taped" "I" ∈ jtbl := jtbl_of (tb_6 _ (List.mem_of_getElem? (i := 20) rfl)) rfl
set_option maxRecDepth 100000 in
theorem fl_X12_17 : Cond.fieldLink RX12 17 "GhostPikeModel" "text" "[B" ∈ jtbl := jtbl_of (tb_6 _ (List.mem_of_getElem? (i := 21) rfl)) rfl
set_option maxRecDepth 100000 in
theorem fl_X12_202 : Cond.fieldLink RX12 202 "GhostPikeModel" "size" "I" ∈ jtbl := jtbl_of (tb_6 _ (List.mem_of_getElem? (i := 22) rfl)) rfl
set_option maxRecDepth 100000 in
theorem fl_X12_20 : Cond.fieldLink RX12 20 "GhostPikeModel" "tKind" "[I" ∈ jtbl := jtbl_of (tb_6 _ (List.mem_of_getElem? (i := 23) rfl)) rfl
set_option maxRecDepth 100000 in
theorem fl_X12_24 : Cond.fieldLink RX12 24 "GhostPikeModel" "tPlace" "[I" ∈ jtbl := jtbl_of (tb_6 _ (List.mem_of_getElem? (i := 24) rfl)) rfl
set_option maxRecDepth 100000 in
theorem fl_X12_27 : Cond.fieldLink RX12 27 "GhostPikeModel" "tValue" "[I" ∈ jtbl := jtbl_of (tb_6 _ (List.mem_of_getElem? (i := 25) rfl)) rfl
set_option maxRecDepth 100000 in
theorem fl_X12_30 : Cond.fieldLink RX12 30 "GhostPikeModel" "tName" "[J" ∈ jtbl := jtbl_of (tb_6 _ (List.mem_of_getElem? (i := 26) rfl)) rfl
set_option maxRecDepth 100000 in
theorem fl_X12_34 : Cond.fieldLink RX12 34 "GhostPikeModel" "keys" "[J" ∈ jtbl := jtbl_of (tb_6 _ (List.mem_of_getElem? (i := 27) rfl)) rfl
set_option maxRecDepth 100000 in
theorem fl_X12_211 : Cond.fieldLink RX12 211 "GhostPikeModel" "tokens" "I" ∈ jtbl := jtbl_of (tb_6 _ (List.mem_of_getElem? (i := 28) rfl)) rfl
set_option maxRecDepth 100000 in
theorem fl_X12_236 : Cond.fieldLink RX12 236 "GhostPikeModel" "t" "I" ∈ jtbl := jtbl_of (tb_6 _ (List.mem_of_getElem? (i := 29) rfl)) rfl
set_option maxRecDepth 100000 in
theorem fl_X12_260 : Cond.fieldLink RX12 260 "GhostPikeModel" "open" "I" ∈ jtbl := jtbl_of (tb_6 _ (List.mem_of_getElem? (i := 30) rfl)) rfl
set_option maxRecDepth 100000 in
theorem fl_X12_233 : Cond.fieldLink RX12 233 "GhostPikeModel" "fault" "I" ∈ jtbl := jtbl_of (tb_6 _ (List.mem_of_getElem? (i := 31) rfl)) rfl
set_option maxRecDepth 100000 in
theorem fl_X12_239 : Cond.fieldLink RX12 239 "GhostPikeModel" "faultPlace" "I" ∈ jtbl := jtbl_of (tb_6 _ (List.mem_of_getElem? (i := 32) rfl)) rfl
set_option maxRecDepth 100000 in
theorem fl_X12_242 : Cond.fieldLink RX12 242 "GhostPikeModel" "worst" "I" ∈ jtbl := jtbl_of (tb_6 _ (List.mem_of_getElem? (i := 33) rfl)) rfl
set_option maxRecDepth 100000 in
theorem fl_X12_245 : Cond.fieldLink RX12 245 "GhostPikeModel" "worstPlace" "I" ∈ jtbl := jtbl_of (tb_6 _ (List.mem_of_getElem? (i := 34) rfl)) rfl
set_option maxRecDepth 100000 in
theorem fl_X12_37 : Cond.fieldLink RX12 37 "GhostPikeModel" "place" "I" ∈ jtbl := jtbl_of (tb_6 _ (List.mem_of_getElem? (i := 35) rfl)) rfl
set_option maxRecDepth 100000 in
theorem fl_X12_263 : Cond.fieldLink RX12 263 "GhostPikeModel" "live" "I" ∈ jtbl := jtbl_of (tb_6 _ (List.mem_of_getElem? (i := 36) rfl)) rfl
set_option maxRecDepth 100000 in
theorem fl_X12_266 : Cond.fieldLink RX12 266 "GhostPikeModel" "side" "I" ∈ jtbl := jtbl_of (tb_6 _ (List.mem_of_getElem? (i := 37) rfl)) rfl
set_option maxRecDepth 100000 in
theorem fl_X12_269 : Cond.fieldLink RX12 269 "GhostPikeModel" "names" "I" ∈ jtbl := jtbl_of (tb_6 _ (List.mem_of_getElem? (i := 38) rfl)) rfl
set_option maxRecDepth 100000 in
theorem fl_X12_40 : Cond.fieldLink RX12 40 "GhostPikeModel" "nameOf" "[J" ∈ jtbl := jtbl_of (tb_6 _ (List.mem_of_getElem? (i := 39) rfl)) rfl
set_option maxRecDepth 100000 in
theorem fl_X12_43 : Cond.fieldLink RX12 43 "GhostPikeModel" "nameAt" "[I" ∈ jtbl := jtbl_of (tb_6 _ (List.mem_of_getElem? (i := 40) rfl)) rfl
set_option maxRecDepth 100000 in
theorem fl_X12_46 : Cond.fieldLink RX12 46 "GhostPikeModel" "places" "[I" ∈ jtbl := jtbl_of (tb_6 _ (List.mem_of_getElem? (i := 41) rfl)) rfl
set_option maxRecDepth 100000 in
theorem fl_X12_49 : Cond.fieldLink RX12 49 "GhostPikeModel" "roads" "[I" ∈ jtbl := jtbl_of (tb_6 _ (List.mem_of_getElem? (i := 42) rfl)) rfl
set_option maxRecDepth 100000 in
theorem fl_X12_52 : Cond.fieldLink RX12 52 "GhostPikeModel" "roadFrom" "[I" ∈ jtbl := jtbl_of (tb_6 _ (List.mem_of_getElem? (i := 43) rfl)) rfl
set_option maxRecDepth 100000 in
theorem fl_X12_55 : Cond.fieldLink RX12 55 "GhostPikeModel" "roadTo" "[I" ∈ jtbl := jtbl_of (tb_6 _ (List.mem_of_getElem? (i := 44) rfl)) rfl
set_option maxRecDepth 100000 in
theorem fl_X12_58 : Cond.fieldLink RX12 58 "GhostPikeModel" "hoursOf" "[I" ∈ jtbl := jtbl_of (tb_6 _ (List.mem_of_getElem? (i := 45) rfl)) rfl
set_option maxRecDepth 100000 in
theorem fl_X12_61 : Cond.fieldLink RX12 61 "GhostPikeModel" "isField" "[Z" ∈ jtbl := jtbl_of (tb_6 _ (List.mem_of_getElem? (i := 46) rfl)) rfl
set_option maxRecDepth 100000 in
theorem fl_X12_65 : Cond.fieldLink RX12 65 "GhostPikeModel" "gatesTold" "[I" ∈ jtbl := jtbl_of (tb_6 _ (List.mem_of_getElem? (i := 47) rfl)) rfl
set_option maxRecDepth 100000 in
theorem fl_X12_68 : Cond.fieldLink RX12 68 "GhostPikeModel" "ghosts" "[I" ∈ jtbl := jtbl_of (tb_6 _ (List.mem_of_getElem? (i := 48) rfl)) rfl
set_option maxRecDepth 100000 in
theorem fl_X12_71 : Cond.fieldLink RX12 71 "GhostPikeModel" "ghostFrom" "[I" ∈ jtbl := jtbl_of (tb_6 _ (List.mem_of_getElem? (i := 49) rfl)) rfl
set_option maxRecDepth 100000 in
theorem fl_X12_74 : Cond.fieldLink RX12 74 "GhostPikeModel" "ghostTo" "[I" ∈ jtbl := jtbl_of (tb_6 _ (List.mem_of_getElem? (i := 50) rfl)) rfl
set_option maxRecDepth 100000 in
theorem fl_X12_77 : Cond.fieldLink RX12 77 "GhostPikeModel" "kindOf" "[I" ∈ jtbl := jtbl_of (tb_6 _ (List.mem_of_getElem? (i := 51) rfl)) rfl
set_option maxRecDepth 100000 in
theorem fl_X12_80 : Cond.fieldLink RX12 80 "GhostPikeModel" "carriesOf" "[I" ∈ jtbl := jtbl_of (tb_6 _ (List.mem_of_getElem? (i := 52) rfl)) rfl
set_option maxRecDepth 100000 in
theorem fl_X12_83 : Cond.fieldLink RX12 83 "GhostPikeModel" "everyOf" "[I" ∈ jtbl := jtbl_of (tb_6 _ (List.mem_of_getElem? (i := 53) rfl)) rfl
set_option maxRecDepth 100000 in
theorem fl_X12_86 : Cond.fieldLink RX12 86 "GhostPikeModel" "fog" "[I" ∈ jtbl := jtbl_of (tb_6 _ (List.mem_of_getElem? (i := 54) rfl)) rfl
set_option maxRecDepth 100000 in
theorem fl_X12_89 : Cond.fieldLink RX12 89 "GhostPikeModel" "sheets" "[I" ∈ jtbl := jtbl_of (tb_6 _ (List.mem_of_getElem? (i := 55) rfl)) rfl
set_option maxRecDepth 100000 in
theorem fl_X12_92 : Cond.fieldLink RX12 92 "GhostPikeModel" "errs" "[I" ∈ jtbl := jtbl_of (tb_6 _ (List.mem_of_getElem? (i := 56) rfl)) rfl
set_option maxRecDepth 100000 in
theorem fl_X12_95 : Cond.fieldLink RX12 95 "GhostPikeModel" "seed" "[I" ∈ jtbl := jtbl_of (tb_6 _ (List.mem_of_getElem? (i := 57) rfl)) rfl
set_option maxRecDepth 100000 in
theorem fl_X12_98 : Cond.fieldLink RX12 98 "GhostPikeModel" "lawFirst" "[I" ∈ jtbl := jtbl_of (tb_6 _ (List.mem_of_getElem? (i := 58) rfl)) rfl
set_option maxRecDepth 100000 in
theorem fl_X12_101 : Cond.fieldLink RX12 101 "GhostPikeModel" "lawLast" "[I" ∈ jtbl := jtbl_of (tb_6 _ (List.mem_of_getElem? (i := 59) rfl)) rfl
set_option maxRecDepth 100000 in
theorem fl_X12_272 : Cond.fieldLink RX12 272 "GhostPikeModel" "branches" "I" ∈ jtbl := jtbl_of (tb_6 _ (List.mem_of_getElem? (i := 60) rfl)) rfl
set_option maxRecDepth 100000 in
theorem fl_X12_104 : Cond.fieldLink RX12 104 "GhostPikeModel" "hasTest" "[Z" ∈ jtbl := jtbl_of (tb_6 _ (List.mem_of_getElem? (i := 61) rfl)) rfl
set_option maxRecDepth 100000 in
theorem fl_X12_107 : Cond.fieldLink RX12 107 "GhostPikeModel" "testFrom" "[I" ∈ jtbl := jtbl_of (tb_6 _ (List.mem_of_getElem? (i := 62) rfl)) rfl
set_option maxRecDepth 100000 in
theorem fl_X12_110 : Cond.fieldLink RX12 110 "GhostPikeModel" "testMid" "[I" ∈ jtbl := jtbl_of (tb_6 _ (List.mem_of_getElem? (i := 63) rfl)) rfl
set_option maxRecDepth 100000 in
theorem fl_X12_113 : Cond.fieldLink RX12 113 "GhostPikeModel" "testTo" "[I" ∈ jtbl := jtbl_of (tb_6 _ (List.mem_of_getElem? (i := 64) rfl)) rfl
set_option maxRecDepth 100000 in
theorem fl_X12_116 : Cond.fieldLink RX12 116 "GhostPikeModel" "termTo" "[I" ∈ jtbl := jtbl_of (tb_6 _ (List.mem_of_getElem? (i := 65) rfl)) rfl
set_option maxRecDepth 100000 in
theorem fl_X12_275 : Cond.fieldLink RX12 275 "GhostPikeModel" "codes" "I" ∈ jtbl := jtbl_of (tb_6 _ (List.mem_of_getElem? (i := 66) rfl)) rfl
set_option maxRecDepth 100000 in
theorem fl_X12_119 : Cond.fieldLink RX12 119 "GhostPikeModel" "code" "[I" ∈ jtbl := jtbl_of (tb_6 _ (List.mem_of_getElem? (i := 67) rfl)) rfl
set_option maxRecDepth 100000 in
theorem fl_X12_122 : Cond.fieldLink RX12 122 "GhostPikeModel" "codeInt" "[I" ∈ jtbl := jtbl_of (tb_6 _ (List.mem_of_getElem? (i := 68) rfl)) rfl
set_option maxRecDepth 100000 in
theorem fl_X12_125 : Cond.fieldLink RX12 125 "GhostPikeModel" "waits" "[I" ∈ jtbl := jtbl_of (tb_6 _ (List.mem_of_getElem? (i := 69) rfl)) rfl
set_option maxRecDepth 100000 in
theorem fl_X12_332 : Cond.fieldLink RX12 332 "GhostPikeModel" "waiting" "I" ∈ jtbl := jtbl_of (tb_6 _ (List.mem_of_getElem? (i := 70) rfl)) rfl
set_option maxRecDepth 100000 in
theorem fl_X12_128 : Cond.fieldLink RX12 128 "GhostPikeModel" "variables" "[I" ∈ jtbl := jtbl_of (tb_6 _ (List.mem_of_getElem? (i := 71) rfl)) rfl
set_option maxRecDepth 100000 in
theorem fl_X12_131 : Cond.fieldLink RX12 131 "GhostPikeModel" "pile" "[I" ∈ jtbl := jtbl_of (tb_6 _ (List.mem_of_getElem? (i := 72) rfl)) rfl
set_option maxRecDepth 100000 in
theorem fl_X12_345 : Cond.fieldLink RX12 345 "GhostPikeModel" "isBroken" "Z" ∈ jtbl := jtbl_of (tb_6 _ (List.mem_of_getElem? (i := 73) rfl)) rfl
set_option maxRecDepth 100000 in
theorem fl_X12_134 : Cond.fieldLink RX12 134 "GhostPikeModel" "now" "[I" ∈ jtbl := jtbl_of (tb_6 _ (List.mem_of_getElem? (i := 74) rfl)) rfl
set_option maxRecDepth 100000 in
theorem fl_X12_137 : Cond.fieldLink RX12 137 "GhostPikeModel" "row" "[I" ∈ jtbl := jtbl_of (tb_6 _ (List.mem_of_getElem? (i := 75) rfl)) rfl
set_option maxRecDepth 100000 in
theorem fl_X12_353 : Cond.fieldLink RX12 353 "GhostPikeModel" "lots" "I" ∈ jtbl := jtbl_of (tb_6 _ (List.mem_of_getElem? (i := 76) rfl)) rfl
set_option maxRecDepth 100000 in
theorem fl_X12_356 : Cond.fieldLink RX12 356 "GhostPikeModel" "there" "I" ∈ jtbl := jtbl_of (tb_6 _ (List.mem_of_getElem? (i := 77) rfl)) rfl
set_option maxRecDepth 100000 in
theorem fl_X12_359 : Cond.fieldLink RX12 359 "GhostPikeModel" "oddRate" "I" ∈ jtbl := jtbl_of (tb_6 _ (List.mem_of_getElem? (i := 78) rfl)) rfl
set_option maxRecDepth 100000 in
theorem fl_X12_140 : Cond.fieldLink RX12 140 "GhostPikeModel" "leftOf" "[I" ∈ jtbl := jtbl_of (tb_6 _ (List.mem_of_getElem? (i := 79) rfl)) rfl
set_option maxRecDepth 100000 in
theorem fl_X12_143 : Cond.fieldLink RX12 143 "GhostPikeModel" "costNow" "[I" ∈ jtbl := jtbl_of (tb_6 _ (List.mem_of_getElem? (i := 80) rfl)) rfl
set_option maxRecDepth 100000 in
theorem fl_X12_146 : Cond.fieldLink RX12 146 "GhostPikeModel" "owesNow" "[I" ∈ jtbl := jtbl_of (tb_6 _ (List.mem_of_getElem? (i := 81) rfl)) rfl
set_option maxRecDepth 100000 in
theorem fl_X12_149 : Cond.fieldLink RX12 149 "GhostPikeModel" "wayRoads" "[I" ∈ jtbl := jtbl_of (tb_6 _ (List.mem_of_getElem? (i := 82) rfl)) rfl
set_option maxRecDepth 100000 in
theorem fl_X12_409 : Cond.fieldLink RX12 409 "GhostPikeModel" "wayLong" "I" ∈ jtbl := jtbl_of (tb_6 _ (List.mem_of_getElem? (i := 83) rfl)) rfl
set_option maxRecDepth 100000 in
theorem fl_X12_281 : Cond.fieldLink RX12 281 "GhostPikeModel" "undos" "I" ∈ jtbl := jtbl_of (tb_6 _ (List.mem_of_getElem? (i := 84) rfl)) rfl
set_option maxRecDepth 100000 in
theorem fl_X12_152 : Cond.fieldLink RX12 152 "GhostPikeModel" "history" "[I" ∈ jtbl := jtbl_of (tb_6 _ (List.mem_of_getElem? (i := 85) rfl)) rfl
set_option maxRecDepth 100000 in
theorem fl_X12_448 : Cond.fieldLink RX12 448 "GhostPikeModel" "putTill" "I" ∈ jtbl := jtbl_of (tb_6 _ (List.mem_of_getElem? (i := 86) rfl)) rfl
set_option maxRecDepth 100000 in
theorem fl_X12_451 : Cond.fieldLink RX12 451 "GhostPikeModel" "putSet" "I" ∈ jtbl := jtbl_of (tb_6 _ (List.mem_of_getElem? (i := 87) rfl)) rfl
set_option maxRecDepth 100000 in
theorem fl_X12_155 : Cond.fieldLink RX12 155 "GhostPikeModel" "takenBy" "[I" ∈ jtbl := jtbl_of (tb_6 _ (List.mem_of_getElem? (i := 88) rfl)) rfl
set_option maxRecDepth 100000 in
theorem fl_X12_284 : Cond.fieldLink RX12 284 "GhostPikeModel" "told" "I" ∈ jtbl := jtbl_of (tb_6 _ (List.mem_of_getElem? (i := 89) rfl)) rfl
set_option maxRecDepth 100000 in
theorem fl_X12_158 : Cond.fieldLink RX12 158 "GhostPikeModel" "toldRoad" "[I" ∈ jtbl := jtbl_of (tb_6 _ (List.mem_of_getElem? (i := 90) rfl)) rfl
set_option maxRecDepth 100000 in
theorem fl_X12_161 : Cond.fieldLink RX12 161 "GhostPikeModel" "toldNight" "[I" ∈ jtbl := jtbl_of (tb_6 _ (List.mem_of_getElem? (i := 91) rfl)) rfl
set_option maxRecDepth 100000 in
theorem fl_X12_164 : Cond.fieldLink RX12 164 "GhostPikeModel" "toldSeen" "[Z" ∈ jtbl := jtbl_of (tb_6 _ (List.mem_of_getElem? (i := 92) rfl)) rfl
set_option maxRecDepth 100000 in
theorem fl_X12_167 : Cond.fieldLink RX12 167 "GhostPikeModel" "wasSeen" "[Z" ∈ jtbl := jtbl_of (tb_6 _ (List.mem_of_getElem? (i := 93) rfl)) rfl
set_option maxRecDepth 100000 in
theorem fl_X12_170 : Cond.fieldLink RX12 170 "GhostPikeModel" "spared" "[I" ∈ jtbl := jtbl_of (tb_6 _ (List.mem_of_getElem? (i := 94) rfl)) rfl
set_option maxRecDepth 100000 in
theorem fl_X12_173 : Cond.fieldLink RX12 173 "GhostPikeModel" "seenIn" "[I" ∈ jtbl := jtbl_of (tb_6 _ (List.mem_of_getElem? (i := 95) rfl)) rfl
set_option maxRecDepth 100000 in
theorem fl_X12_176 : Cond.fieldLink RX12 176 "GhostPikeModel" "isHeld" "[Z" ∈ jtbl := jtbl_of (tb_6 _ (List.mem_of_getElem? (i := 96) rfl)) rfl
set_option maxRecDepth 100000 in
theorem fl_X12_179 : Cond.fieldLink RX12 179 "GhostPikeModel" "heldRows" "[I" ∈ jtbl := jtbl_of (tb_6 _ (List.mem_of_getElem? (i := 97) rfl)) rfl
set_option maxRecDepth 100000 in
theorem ck_X7_83 : Cond.constantLong RX7 83 (32) ∈ jtbl := jtbl_of (tb_1 _ (List.mem_of_getElem? (i := 111) rfl)) rfl
set_option maxRecDepth 100000 in
theorem ck_X2_33 : Cond.constantLong RX2 33 (-1) ∈ jtbl := jtbl_of (tb_3 _ (List.mem_of_getElem? (i := 59) rfl)) rfl
set_option maxRecDepth 100000 in
theorem ck_X2_49 : Cond.constantLong RX2 49 (268435456) ∈ jtbl := jtbl_of (tb_3 _ (List.mem_of_getElem? (i := 74) rfl)) rfl
set_option maxRecDepth 100000 in
theorem ck_X2_51 : Cond.constantLong RX2 51 (251658240) ∈ jtbl := jtbl_of (tb_3 _ (List.mem_of_getElem? (i := 75) rfl)) rfl
set_option maxRecDepth 100000 in
theorem ck_X2_53 : Cond.constantLong RX2 53 (16777215) ∈ jtbl := jtbl_of (tb_3 _ (List.mem_of_getElem? (i := 76) rfl)) rfl
set_option maxRecDepth 100000 in
theorem ck_X2_55 : Cond.constantLong RX2 55 (-4294967296) ∈ jtbl := jtbl_of (tb_3 _ (List.mem_of_getElem? (i := 77) rfl)) rfl
set_option maxRecDepth 100000 in
theorem ck_X10_34 : Cond.constantLong RX10 34 (-1) ∈ jtbl := jtbl_of (tb_3 _ (List.mem_of_getElem? (i := 83) rfl)) rfl
set_option maxRecDepth 100000 in
theorem ck_X10_194 : Cond.constant RX10 194 (1103515245) ∈ jtbl := jtbl_of (tb_3 _ (List.mem_of_getElem? (i := 109) rfl)) rfl
set_option maxRecDepth 100000 in
theorem ck_X7_78 : Cond.constantLong RX7 78 (10) ∈ jtbl := jtbl_of (tb_3 _ (List.mem_of_getElem? (i := 217) rfl)) rfl
set_option maxRecDepth 100000 in
theorem ck_X10_93 : Cond.constant RX10 93 (1000000) ∈ jtbl := jtbl_of (tb_4 _ (List.mem_of_getElem? (i := 122) rfl)) rfl
set_option maxRecDepth 100000 in
theorem ck_X9_28 : Cond.constant RX9 28 (1000000) ∈ jtbl := jtbl_of (tb_4 _ (List.mem_of_getElem? (i := 136) rfl)) rfl
set_option maxRecDepth 100000 in
theorem ck_X10_146 : Cond.constantLong RX10 146 (16777215) ∈ jtbl := jtbl_of (tb_4 _ (List.mem_of_getElem? (i := 202) rfl)) rfl
set_option maxRecDepth 100000 in
theorem ck_JI_265 : Cond.constant "java/lang/Integer" 265 (1431655765) ∈ jtbl := jtbl_of (tb_5 _ (List.mem_of_getElem? (i := 9) rfl)) rfl
set_option maxRecDepth 100000 in
theorem ck_JI_266 : Cond.constant "java/lang/Integer" 266 (858993459) ∈ jtbl := jtbl_of (tb_5 _ (List.mem_of_getElem? (i := 10) rfl)) rfl
set_option maxRecDepth 100000 in
theorem ck_JI_267 : Cond.constant "java/lang/Integer" 267 (252645135) ∈ jtbl := jtbl_of (tb_5 _ (List.mem_of_getElem? (i := 11) rfl)) rfl
set_option maxRecDepth 100000 in
theorem ck_X12_205 : Cond.constantLong RX12 205 (27) ∈ jtbl := jtbl_of (tb_6 _ (List.mem_of_getElem? (i := 6) rfl)) rfl
set_option maxRecDepth 100000 in
theorem ck_X12_365 : Cond.constant RX12 365 (1103515245) ∈ jtbl := jtbl_of (tb_7 _ (List.mem_of_getElem? (i := 216) rfl)) rfl
set_option maxRecDepth 100000 in
theorem cl_L_7 : Cond.classLink RL 7 RX11 ∈ jtbl := jtbl_of (tb_1 _ (List.mem_of_getElem? (i := 22) rfl)) rfl
set_option maxRecDepth 100000 in
theorem cl_X11_7 : Cond.classLink RX11 7 RX6 ∈ jtbl := jtbl_of (tb_1 _ (List.mem_of_getElem? (i := 30) rfl)) rfl
set_option maxRecDepth 100000 in
theorem cl_X11_16 : Cond.classLink RX11 16 RX4 ∈ jtbl := jtbl_of (tb_1 _ (List.mem_of_getElem? (i := 47) rfl)) rfl
set_option maxRecDepth 100000 in
theorem cl_X4_9 : Cond.classLink RX4 9 RX7 ∈ jtbl := jtbl_of (tb_1 _ (List.mem_of_getElem? (i := 53) rfl)) rfl
set_option maxRecDepth 100000 in
theorem cl_X11_23 : Cond.classLink RX11 23 RX10 ∈ jtbl := jtbl_of (tb_1 _ (List.mem_of_getElem? (i := 171) rfl)) rfl
set_option maxRecDepth 100000 in
theorem cl_X10_9 : Cond.classLink RX10 9 RX9 ∈ jtbl := jtbl_of (tb_1 _ (List.mem_of_getElem? (i := 177) rfl)) rfl
set_option maxRecDepth 100000 in
theorem cl_X11_30 : Cond.classLink RX11 30 RX5 ∈ jtbl := jtbl_of (tb_2 _ (List.mem_of_getElem? (i := 25) rfl)) rfl
set_option maxRecDepth 100000 in
theorem cl_X11_37 : Cond.classLink RX11 37 RX3 ∈ jtbl := jtbl_of (tb_2 _ (List.mem_of_getElem? (i := 40) rfl)) rfl
set_option maxRecDepth 100000 in
theorem cl_X11_44 : Cond.classLink RX11 44 RX1 ∈ jtbl := jtbl_of (tb_2 _ (List.mem_of_getElem? (i := 64) rfl)) rfl
set_option maxRecDepth 100000 in
theorem cl_X1_15 : Cond.classLink RX1 15 RX5 ∈ jtbl := jtbl_of (tb_2 _ (List.mem_of_getElem? (i := 70) rfl)) rfl
set_option maxRecDepth 100000 in
theorem cl_X11_53 : Cond.classLink RX11 53 RX0 ∈ jtbl := jtbl_of (tb_2 _ (List.mem_of_getElem? (i := 102) rfl)) rfl
set_option maxRecDepth 100000 in
theorem cl_X0_9 : Cond.classLink RX0 9 RX5 ∈ jtbl := jtbl_of (tb_2 _ (List.mem_of_getElem? (i := 108) rfl)) rfl
set_option maxRecDepth 100000 in
theorem cl_X11_62 : Cond.classLink RX11 62 RX8 ∈ jtbl := jtbl_of (tb_2 _ (List.mem_of_getElem? (i := 142) rfl)) rfl
set_option maxRecDepth 100000 in
theorem cl_X8_36 : Cond.classLink RX8 36 RX2 ∈ jtbl := jtbl_of (tb_2 _ (List.mem_of_getElem? (i := 148) rfl)) rfl
set_option maxRecDepth 100000 in
theorem cl_L_10 : Cond.classLink RL 10 RX12 ∈ jtbl := jtbl_of (tb_5 _ (List.mem_of_getElem? (i := 230) rfl)) rfl
set_option maxRecDepth 100000 in
theorem in_L : Cond.initialized RL ∈ jtbl := jtbl_of (tb_1 _ (List.mem_of_getElem? (i := 0) rfl)) rfl
set_option maxRecDepth 100000 in
theorem in_X11 : Cond.initialized RX11 ∈ jtbl := jtbl_of (tb_1 _ (List.mem_of_getElem? (i := 1) rfl)) rfl
set_option maxRecDepth 100000 in
theorem in_X6 : Cond.initialized RX6 ∈ jtbl := jtbl_of (tb_1 _ (List.mem_of_getElem? (i := 2) rfl)) rfl
set_option maxRecDepth 100000 in
theorem in_X4 : Cond.initialized RX4 ∈ jtbl := jtbl_of (tb_1 _ (List.mem_of_getElem? (i := 3) rfl)) rfl
set_option maxRecDepth 100000 in
theorem in_X7 : Cond.initialized RX7 ∈ jtbl := jtbl_of (tb_1 _ (List.mem_of_getElem? (i := 4) rfl)) rfl
set_option maxRecDepth 100000 in
theorem in_JS : Cond.initialized "java/lang/String" ∈ jtbl := jtbl_of (tb_1 _ (List.mem_of_getElem? (i := 5) rfl)) rfl
set_option maxRecDepth 100000 in
theorem in_JL : Cond.initialized "java/lang/StringLatin1" ∈ jtbl := jtbl_of (tb_1 _ (List.mem_of_getElem? (i := 6) rfl)) rfl
set_option maxRecDepth 100000 in
theorem in_JP : Cond.initialized "jdk/internal/util/Preconditions" ∈ jtbl := jtbl_of (tb_1 _ (List.mem_of_getElem? (i := 7) rfl)) rfl
set_option maxRecDepth 100000 in
theorem in_JU : Cond.initialized "java/lang/StringUTF16" ∈ jtbl := jtbl_of (tb_1 _ (List.mem_of_getElem? (i := 8) rfl)) rfl
set_option maxRecDepth 100000 in
theorem in_X10 : Cond.initialized RX10 ∈ jtbl := jtbl_of (tb_1 _ (List.mem_of_getElem? (i := 9) rfl)) rfl
set_option maxRecDepth 100000 in
theorem in_X9 : Cond.initialized RX9 ∈ jtbl := jtbl_of (tb_1 _ (List.mem_of_getElem? (i := 10) rfl)) rfl
set_option maxRecDepth 100000 in
theorem in_X5 : Cond.initialized RX5 ∈ jtbl := jtbl_of (tb_1 _ (List.mem_of_getElem? (i := 11) rfl)) rfl
set_option maxRecDepth 100000 in
theorem in_X3 : Cond.initialized RX3 ∈ jtbl := jtbl_of (tb_1 _ (List.mem_of_getElem? (i := 12) rfl)) rfl
set_option maxRecDepth 100000 in
theorem in_X1 : Cond.initialized RX1 ∈ jtbl := jtbl_of (tb_1 _ (List.mem_of_getElem? (i := 13) rfl)) rfl
set_option maxRecDepth 100000 in
theorem in_X0 : Cond.initialized RX0 ∈ jtbl := jtbl_of (tb_1 _ (List.mem_of_getElem? (i := 14) rfl)) rfl
set_option maxRecDepth 100000 in
theorem in_X8 : Cond.initialized RX8 ∈ jtbl := jtbl_of (tb_1 _ (List.mem_of_getElem? (i := 15) rfl)) rfl
set_option maxRecDepth 100000 in
theorem in_X2 : Cond.initialized RX2 ∈ jtbl := jtbl_of (tb_1 _ (List.mem_of_getElem? (i := 16) rfl)) rfl
set_option maxRecDepth 100000 in
theorem in_JA : Cond.initialized "java/util/Arrays" ∈ jtbl := jtbl_of (tb_1 _ (List.mem_of_getElem? (i := 17) rfl)) rfl
set_option maxRecDepth 100000 in
theorem in_JM : Cond.initialized "java/lang/Math" ∈ jtbl := jtbl_of (tb_1 _ (List.mem_of_getElem? (i := 18) rfl)) rfl
set_option maxRecDepth 100000 in
theorem in_X12 : Cond.initialized RX12 ∈ jtbl := jtbl_of (tb_1 _ (List.mem_of_getElem? (i := 19) rfl)) rfl
set_option maxRecDepth 100000 in
theorem in_JY : Cond.initialized "java/lang/System" ∈ jtbl := jtbl_of (tb_1 _ (List.mem_of_getElem? (i := 20) rfl)) rfl
set_option maxRecDepth 100000 in
theorem in_JI : Cond.initialized "java/lang/Integer" ∈ jtbl := jtbl_of (tb_1 _ (List.mem_of_getElem? (i := 21) rfl)) rfl
set_option maxRecDepth 100000 in
theorem it_X11 : Cond.instantiable RX11 9 ∈ jtbl := jtbl_of (tb_1 _ (List.mem_of_getElem? (i := 23) rfl)) rfl
set_option maxRecDepth 100000 in
theorem it_X6 : Cond.instantiable RX6 2 ∈ jtbl := jtbl_of (tb_1 _ (List.mem_of_getElem? (i := 31) rfl)) rfl
set_option maxRecDepth 100000 in
theorem it_X4 : Cond.instantiable RX4 13 ∈ jtbl := jtbl_of (tb_1 _ (List.mem_of_getElem? (i := 48) rfl)) rfl
set_option maxRecDepth 100000 in
theorem it_X7 : Cond.instantiable RX7 4 ∈ jtbl := jtbl_of (tb_1 _ (List.mem_of_getElem? (i := 54) rfl)) rfl
set_option maxRecDepth 100000 in
theorem it_X10 : Cond.instantiable RX10 11 ∈ jtbl := jtbl_of (tb_1 _ (List.mem_of_getElem? (i := 172) rfl)) rfl
set_option maxRecDepth 100000 in
theorem it_X9 : Cond.instantiable RX9 9 ∈ jtbl := jtbl_of (tb_1 _ (List.mem_of_getElem? (i := 179) rfl)) rfl
set_option maxRecDepth 100000 in
theorem it_X5 : Cond.instantiable RX5 1 ∈ jtbl := jtbl_of (tb_2 _ (List.mem_of_getElem? (i := 26) rfl)) rfl
set_option maxRecDepth 100000 in
theorem it_X3 : Cond.instantiable RX3 5 ∈ jtbl := jtbl_of (tb_2 _ (List.mem_of_getElem? (i := 41) rfl)) rfl
set_option maxRecDepth 100000 in
theorem it_X1 : Cond.instantiable RX1 9 ∈ jtbl := jtbl_of (tb_2 _ (List.mem_of_getElem? (i := 65) rfl)) rfl
set_option maxRecDepth 100000 in
theorem it_X0 : Cond.instantiable RX0 10 ∈ jtbl := jtbl_of (tb_2 _ (List.mem_of_getElem? (i := 103) rfl)) rfl
set_option maxRecDepth 100000 in
theorem it_X8 : Cond.instantiable RX8 20 ∈ jtbl := jtbl_of (tb_2 _ (List.mem_of_getElem? (i := 143) rfl)) rfl
set_option maxRecDepth 100000 in
theorem it_X2 : Cond.instantiable RX2 6 ∈ jtbl := jtbl_of (tb_2 _ (List.mem_of_getElem? (i := 149) rfl)) rfl
set_option maxRecDepth 100000 in
theorem it_X12 : Cond.instantiable RX12 80 ∈ jtbl := jtbl_of (tb_5 _ (List.mem_of_getElem? (i := 231) rfl)) rfl
set_option maxRecDepth 100000 in
theorem ac_byte : Cond.arrayClass .byte ∈ jtbl := jtbl_of (tb_1 _ (List.mem_of_getElem? (i := 46) rfl)) rfl
set_option maxRecDepth 100000 in
theorem ac_int : Cond.arrayClass .int ∈ jtbl := jtbl_of (tb_1 _ (List.mem_of_getElem? (i := 128) rfl)) rfl
set_option maxRecDepth 100000 in
theorem ac_long : Cond.arrayClass .long ∈ jtbl := jtbl_of (tb_1 _ (List.mem_of_getElem? (i := 129) rfl)) rfl
set_option maxRecDepth 100000 in
theorem ac_boolean : Cond.arrayClass .boolean ∈ jtbl := jtbl_of (tb_7 _ (List.mem_of_getElem? (i := 19) rfl)) rfl
def mX11_init : jMt := (yX11_init, cX11_init, 2, none)
set_option maxRecDepth 100000 in
theorem co_X11_init : Cond.code mX11_init.1 mX11_init.2.1 mX11_init.2.2.1 mX11_init.2.2.2 ∈ jtbl := jtbl_of (tb_1 _ (List.mem_of_getElem? (i := 26) rfl)) rfl
theorem mw_X11_init : jMw mX11_init 0 := ⟨co_X11_init, in_X11, by decide +kernel, by decide +kernel, by decide +kernel⟩
set_option maxRecDepth 100000 in
theorem im_X11_init : Cond.instanceMethod mX11_init.1 ∈ jtbl := jtbl_of (tb_1 _ (List.mem_of_getElem? (i := 25) rfl)) rfl
def mX6_init : jMt := (yX6_init, cX6_init, 1, none)
set_option maxRecDepth 100000 in
theorem co_X6_init : Cond.code mX6_init.1 mX6_init.2.1 mX6_init.2.2.1 mX6_init.2.2.2 ∈ jtbl := jtbl_of (tb_1 _ (List.mem_of_getElem? (i := 34) rfl)) rfl
theorem mw_X6_init : jMw mX6_init 0 := ⟨co_X6_init, in_X6, by decide +kernel, by decide +kernel, by decide +kernel⟩
set_option maxRecDepth 100000 in
theorem im_X6_init : Cond.instanceMethod mX6_init.1 ∈ jtbl := jtbl_of (tb_1 _ (List.mem_of_getElem? (i := 33) rfl)) rfl
def mX4_init : jMt := (yX4_init, cX4_init, 1, none)
set_option maxRecDepth 100000 in
theorem co_X4_init : Cond.code mX4_init.1 mX4_init.2.1 mX4_init.2.2.1 mX4_init.2.2.2 ∈ jtbl := jtbl_of (tb_1 _ (List.mem_of_getElem? (i := 51) rfl)) rfl
theorem mw_X4_init : jMw mX4_init 0 := ⟨co_X4_init, in_X4, by decide +kernel, by decide +kernel, by decide +kernel⟩
set_option maxRecDepth 100000 in
theorem im_X4_init : Cond.instanceMethod mX4_init.1 ∈ jtbl := jtbl_of (tb_1 _ (List.mem_of_getElem? (i := 50) rfl)) rfl
def mX7_init : jMt := (yX7_init, cX7_init, 4, none)
set_option maxRecDepth 100000 in
theorem co_X7_init : Cond.code mX7_init.1 mX7_init.2.1 mX7_init.2.2.1 mX7_init.2.2.2 ∈ jtbl := jtbl_of (tb_1 _ (List.mem_of_getElem? (i := 57) rfl)) rfl
theorem mw_X7_init : jMw mX7_init 0 := ⟨co_X7_init, in_X7, by decide +kernel, by decide +kernel, by decide +kernel⟩
set_option maxRecDepth 100000 in
theorem im_X7_init : Cond.instanceMethod mX7_init.1 ∈ jtbl := jtbl_of (tb_1 _ (List.mem_of_getElem? (i := 56) rfl)) rfl
def mJS_length : jMt := ((⟨"java/lang/String", "length", "()I"⟩ : MethodName), prog_17_method_54_code, 1, (some .int))
set_option maxRecDepth 100000 in
theorem co_JS_length : Cond.code mJS_length.1 mJS_length.2.1 mJS_length.2.2.1 mJS_length.2.2.2 ∈ jtbl := jtbl_of (tb_1 _ (List.mem_of_getElem? (i := 63) rfl)) rfl
theorem mw_JS_length : jMw mJS_length 0 := ⟨co_JS_length, in_JS, by decide +kernel, by decide +kernel, by decide +kernel⟩
set_option maxRecDepth 100000 in
theorem im_JS_length : Cond.instanceMethod mJS_length.1 ∈ jtbl := jtbl_of (tb_1 _ (List.mem_of_getElem? (i := 61) rfl)) rfl
set_option maxRecDepth 100000 in
theorem se_JS_length : Cond.selects mJS_length.1.cls mJS_length.1 mJS_length.1 ∈ jtbl := jtbl_of (tb_1 _ (List.mem_of_getElem? (i := 62) rfl)) rfl
def mJS_coder : jMt := ((⟨"java/lang/String", "coder", "()B"⟩ : MethodName), prog_17_method_152_code, 1, (some .byte))
set_option maxRecDepth 100000 in
theorem co_JS_coder : Cond.code mJS_coder.1 mJS_coder.2.1 mJS_coder.2.2.1 mJS_coder.2.2.2 ∈ jtbl := jtbl_of (tb_1 _ (List.mem_of_getElem? (i := 67) rfl)) rfl
theorem mw_JS_coder : jMw mJS_coder 0 := ⟨co_JS_coder, in_JS, by decide +kernel, by decide +kernel, by decide +kernel⟩
set_option maxRecDepth 100000 in
theorem im_JS_coder : Cond.instanceMethod mJS_coder.1 ∈ jtbl := jtbl_of (tb_1 _ (List.mem_of_getElem? (i := 65) rfl)) rfl
set_option maxRecDepth 100000 in
theorem se_JS_coder : Cond.selects mJS_coder.1.cls mJS_coder.1 mJS_coder.1 ∈ jtbl := jtbl_of (tb_1 _ (List.mem_of_getElem? (i := 66) rfl)) rfl
def mJS_charAt : jMt := ((⟨"java/lang/String", "charAt", "(I)C"⟩ : MethodName), prog_17_method_56_code, 2, (some .char))
set_option maxRecDepth 100000 in
theorem co_JS_charAt : Cond.code mJS_charAt.1 mJS_charAt.2.1 mJS_charAt.2.2.1 mJS_charAt.2.2.2 ∈ jtbl := jtbl_of (tb_1 _ (List.mem_of_getElem? (i := 73) rfl)) rfl
theorem mw_JS_charAt : jMw mJS_charAt 1 := ⟨co_JS_charAt, in_JS, by decide +kernel, by decide +kernel, by decide +kernel⟩
set_option maxRecDepth 100000 in
theorem im_JS_charAt : Cond.instanceMethod mJS_charAt.1 ∈ jtbl := jtbl_of (tb_1 _ (List.mem_of_getElem? (i := 71) rfl)) rfl
set_option maxRecDepth 100000 in
theorem se_JS_charAt : Cond.selects mJS_charAt.1.cls mJS_charAt.1 mJS_charAt.1 ∈ jtbl := jtbl_of (tb_1 _ (List.mem_of_getElem? (i := 72) rfl)) rfl
def mJS_isLatin1 : jMt := ((⟨"java/lang/String", "isLatin1", "()Z"⟩ : MethodName), prog_17_method_154_code, 1, (some .boolean))
set_option maxRecDepth 100000 in
theorem co_JS_isLatin1 : Cond.code mJS_isLatin1.1 mJS_isLatin1.2.1 mJS_isLatin1.2.2.1 mJS_isLatin1.2.2.2 ∈ jtbl := jtbl_of (tb_1 _ (List.mem_of_getElem? (i := 77) rfl)) rfl
theorem mw_JS_isLatin1 : jMw mJS_isLatin1 0 := ⟨co_JS_isLatin1, in_JS, by decide +kernel, by decide +kernel, by decide +kernel⟩
set_option maxRecDepth 100000 in
theorem im_JS_isLatin1 : Cond.instanceMethod mJS_isLatin1.1 ∈ jtbl := jtbl_of (tb_1 _ (List.mem_of_getElem? (i := 75) rfl)) rfl
set_option maxRecDepth 100000 in
theorem se_JS_isLatin1 : Cond.selects mJS_isLatin1.1.cls mJS_isLatin1.1 mJS_isLatin1.1 ∈ jtbl := jtbl_of (tb_1 _ (List.mem_of_getElem? (i := 76) rfl)) rfl
def mJL_charAt : jMt := ((⟨"java/lang/StringLatin1", "charAt", "([BI)C"⟩ : MethodName), prog_18_method_2_code, 2, (some .char))
set_option maxRecDepth 100000 in
theorem co_JL_charAt : Cond.code mJL_charAt.1 mJL_charAt.2.1 mJL_charAt.2.2.1 mJL_charAt.2.2.2 ∈ jtbl := jtbl_of (tb_1 _ (List.mem_of_getElem? (i := 80) rfl)) rfl
theorem mw_JL_charAt : jMw mJL_charAt 2 := ⟨co_JL_charAt, in_JL, by decide +kernel, by decide +kernel, by decide +kernel⟩
set_option maxRecDepth 100000 in
theorem sm_JL_charAt : Cond.static mJL_charAt.1 ∈ jtbl := jtbl_of (tb_1 _ (List.mem_of_getElem? (i := 79) rfl)) rfl
def mJS_checkIndex : jMt := ((⟨"java/lang/String", "checkIndex", "(II)V"⟩ : MethodName), prog_17_method_155_code, 2, none)
set_option maxRecDepth 100000 in
theorem co_JS_checkIndex : Cond.code mJS_checkIndex.1 mJS_checkIndex.2.1 mJS_checkIndex.2.2.1 mJS_checkIndex.2.2.2 ∈ jtbl := jtbl_of (tb_1 _ (List.mem_of_getElem? (i := 83) rfl)) rfl
theorem mw_JS_checkIndex : jMw mJS_checkIndex 2 := ⟨co_JS_checkIndex, in_JS, by decide +kernel, by decide +kernel, by decide +kernel⟩
set_option maxRecDepth 100000 in
theorem sm_JS_checkIndex : Cond.static mJS_checkIndex.1 ∈ jtbl := jtbl_of (tb_1 _ (List.mem_of_getElem? (i := 82) rfl)) rfl
def mJP_checkIndex : jMt := ((⟨"jdk/internal/util/Preconditions", "checkIndex", "(IILjava/util/function/BiFunction;)I"⟩ : MethodName), prog_22_method_11_code, 3, (some .int))
set_option maxRecDepth 100000 in
theorem co_JP_checkIndex : Cond.code mJP_checkIndex.1 mJP_checkIndex.2.1 mJP_checkIndex.2.2.1 mJP_checkIndex.2.2.2 ∈ jtbl := jtbl_of (tb_1 _ (List.mem_of_getElem? (i := 88) rfl)) rfl
theorem mw_JP_checkIndex : jMw mJP_checkIndex 3 := ⟨co_JP_checkIndex, in_JP, by decide +kernel, by decide +kernel, by decide +kernel⟩
set_option maxRecDepth 100000 in
theorem sm_JP_checkIndex : Cond.static mJP_checkIndex.1 ∈ jtbl := jtbl_of (tb_1 _ (List.mem_of_getElem? (i := 87) rfl)) rfl
def mJU_charAt : jMt := ((⟨"java/lang/StringUTF16", "charAt", "([BI)C"⟩ : MethodName), prog_19_method_83_code, 2, (some .char))
set_option maxRecDepth 100000 in
theorem co_JU_charAt : Cond.code mJU_charAt.1 mJU_charAt.2.1 mJU_charAt.2.2.1 mJU_charAt.2.2.2 ∈ jtbl := jtbl_of (tb_1 _ (List.mem_of_getElem? (i := 91) rfl)) rfl
theorem mw_JU_charAt : jMw mJU_charAt 2 := ⟨co_JU_charAt, in_JU, by decide +kernel, by decide +kernel, by decide +kernel⟩
set_option maxRecDepth 100000 in
theorem sm_JU_charAt : Cond.static mJU_charAt.1 ∈ jtbl := jtbl_of (tb_1 _ (List.mem_of_getElem? (i := 90) rfl)) rfl
def mJU_checkIndex : jMt := ((⟨"java/lang/StringUTF16", "checkIndex", "(I[B)V"⟩ : MethodName), prog_19_method_91_code, 2, none)
set_option maxRecDepth 100000 in
theorem co_JU_checkIndex : Cond.code mJU_checkIndex.1 mJU_checkIndex.2.1 mJU_checkIndex.2.2.1 mJU_checkIndex.2.2.2 ∈ jtbl := jtbl_of (tb_1 _ (List.mem_of_getElem? (i := 94) rfl)) rfl
theorem mw_JU_checkIndex : jMw mJU_checkIndex 2 := ⟨co_JU_checkIndex, in_JU, by decide +kernel, by decide +kernel, by decide +kernel⟩
set_option maxRecDepth 100000 in
theorem sm_JU_checkIndex : Cond.static mJU_checkIndex.1 ∈ jtbl := jtbl_of (tb_1 _ (List.mem_of_getElem? (i := 93) rfl)) rfl
def mJU_length : jMt := ((⟨"java/lang/StringUTF16", "length", "([B)I"⟩ : MethodName), prog_19_method_6_code, 1, (some .int))
set_option maxRecDepth 100000 in
theorem co_JU_length : Cond.code mJU_length.1 mJU_length.2.1 mJU_length.2.2.1 mJU_length.2.2.2 ∈ jtbl := jtbl_of (tb_1 _ (List.mem_of_getElem? (i := 97) rfl)) rfl
theorem mw_JU_length : jMw mJU_length 1 := ⟨co_JU_length, in_JU, by decide +kernel, by decide +kernel, by decide +kernel⟩
set_option maxRecDepth 100000 in
theorem sm_JU_length : Cond.static mJU_length.1 ∈ jtbl := jtbl_of (tb_1 _ (List.mem_of_getElem? (i := 96) rfl)) rfl
def mJU_getChar : jMt := ((⟨"java/lang/StringUTF16", "getChar", "([BI)C"⟩ : MethodName), prog_19_method_5_code, 2, (some .char))
set_option maxRecDepth 100000 in
theorem co_JU_getChar : Cond.code mJU_getChar.1 mJU_getChar.2.1 mJU_getChar.2.2.1 mJU_getChar.2.2.2 ∈ jtbl := jtbl_of (tb_1 _ (List.mem_of_getElem? (i := 101) rfl)) rfl
theorem mw_JU_getChar : jMw mJU_getChar 2 := ⟨co_JU_getChar, in_JU, by decide +kernel, by decide +kernel, by decide +kernel⟩
set_option maxRecDepth 100000 in
theorem sm_JU_getChar : Cond.static mJU_getChar.1 ∈ jtbl := jtbl_of (tb_1 _ (List.mem_of_getElem? (i := 100) rfl)) rfl
def mX7_withLetter : jMt := (yX7_withLetter, cX7_withLetter, 3, (some .long))
set_option maxRecDepth 100000 in
theorem co_X7_withLetter : Cond.code mX7_withLetter.1 mX7_withLetter.2.1 mX7_withLetter.2.2.1 mX7_withLetter.2.2.2 ∈ jtbl := jtbl_of (tb_1 _ (List.mem_of_getElem? (i := 110) rfl)) rfl
theorem mw_X7_withLetter : jMw mX7_withLetter 2 := ⟨co_X7_withLetter, in_X7, by decide +kernel, by decide +kernel, by decide +kernel⟩
set_option maxRecDepth 100000 in
theorem sm_X7_withLetter : Cond.static mX7_withLetter.1 ∈ jtbl := jtbl_of (tb_1 _ (List.mem_of_getElem? (i := 109) rfl)) rfl
def mX10_init : jMt := (yX10_init, cX10_init, 2, none)
set_option maxRecDepth 100000 in
theorem co_X10_init : Cond.code mX10_init.1 mX10_init.2.1 mX10_init.2.2.1 mX10_init.2.2.2 ∈ jtbl := jtbl_of (tb_1 _ (List.mem_of_getElem? (i := 175) rfl)) rfl
theorem mw_X10_init : jMw mX10_init 0 := ⟨co_X10_init, in_X10, by decide +kernel, by decide +kernel, by decide +kernel⟩
set_option maxRecDepth 100000 in
theorem im_X10_init : Cond.instanceMethod mX10_init.1 ∈ jtbl := jtbl_of (tb_1 _ (List.mem_of_getElem? (i := 174) rfl)) rfl
def mX9_init : jMt := (yX9_init, cX9_init, 1, none)
set_option maxRecDepth 100000 in
theorem co_X9_init : Cond.code mX9_init.1 mX9_init.2.1 mX9_init.2.2.1 mX9_init.2.2.2 ∈ jtbl := jtbl_of (tb_1 _ (List.mem_of_getElem? (i := 182) rfl)) rfl
theorem mw_X9_init : jMw mX9_init 0 := ⟨co_X9_init, in_X9, by decide +kernel, by decide +kernel, by decide +kernel⟩
set_option maxRecDepth 100000 in
theorem im_X9_init : Cond.instanceMethod mX9_init.1 ∈ jtbl := jtbl_of (tb_1 _ (List.mem_of_getElem? (i := 181) rfl)) rfl
def mX5_init : jMt := (yX5_init, cX5_init, 1, none)
set_option maxRecDepth 100000 in
theorem co_X5_init : Cond.code mX5_init.1 mX5_init.2.1 mX5_init.2.2.1 mX5_init.2.2.2 ∈ jtbl := jtbl_of (tb_2 _ (List.mem_of_getElem? (i := 29) rfl)) rfl
theorem mw_X5_init : jMw mX5_init 0 := ⟨co_X5_init, in_X5, by decide +kernel, by decide +kernel, by decide +kernel⟩
set_option maxRecDepth 100000 in
theorem im_X5_init : Cond.instanceMethod mX5_init.1 ∈ jtbl := jtbl_of (tb_2 _ (List.mem_of_getElem? (i := 28) rfl)) rfl
def mX3_init : jMt := (yX3_init, cX3_init, 1, none)
set_option maxRecDepth 100000 in
theorem co_X3_init : Cond.code mX3_init.1 mX3_init.2.1 mX3_init.2.2.1 mX3_init.2.2.2 ∈ jtbl := jtbl_of (tb_2 _ (List.mem_of_getElem? (i := 44) rfl)) rfl
theorem mw_X3_init : jMw mX3_init 0 := ⟨co_X3_init, in_X3, by decide +kernel, by decide +kernel, by decide +kernel⟩
set_option maxRecDepth 100000 in
theorem im_X3_init : Cond.instanceMethod mX3_init.1 ∈ jtbl := jtbl_of (tb_2 _ (List.mem_of_getElem? (i := 43) rfl)) rfl
def mX1_init : jMt := (yX1_init, cX1_init, 3, none)
set_option maxRecDepth 100000 in
theorem co_X1_init : Cond.code mX1_init.1 mX1_init.2.1 mX1_init.2.2.1 mX1_init.2.2.2 ∈ jtbl := jtbl_of (tb_2 _ (List.mem_of_getElem? (i := 68) rfl)) rfl
theorem mw_X1_init : jMw mX1_init 2 := ⟨co_X1_init, in_X1, by decide +kernel, by decide +kernel, by decide +kernel⟩
set_option maxRecDepth 100000 in
theorem im_X1_init : Cond.instanceMethod mX1_init.1 ∈ jtbl := jtbl_of (tb_2 _ (List.mem_of_getElem? (i := 67) rfl)) rfl
def mX0_init : jMt := (yX0_init, cX0_init, 2, none)
set_option maxRecDepth 100000 in
theorem co_X0_init : Cond.code mX0_init.1 mX0_init.2.1 mX0_init.2.2.1 mX0_init.2.2.2 ∈ jtbl := jtbl_of (tb_2 _ (List.mem_of_getElem? (i := 106) rfl)) rfl
theorem mw_X0_init : jMw mX0_init 1 := ⟨co_X0_init, in_X0, by decide +kernel, by decide +kernel, by decide +kernel⟩
set_option maxRecDepth 100000 in
theorem im_X0_init : Cond.instanceMethod mX0_init.1 ∈ jtbl := jtbl_of (tb_2 _ (List.mem_of_getElem? (i := 105) rfl)) rfl
def mX8_init : jMt := (yX8_init, cX8_init, 1, none)
set_option maxRecDepth 100000 in
theorem co_X8_init : Cond.code mX8_init.1 mX8_init.2.1 mX8_init.2.2.1 mX8_init.2.2.2 ∈ jtbl := jtbl_of (tb_2 _ (List.mem_of_getElem? (i := 146) rfl)) rfl
theorem mw_X8_init : jMw mX8_init 0 := ⟨co_X8_init, in_X8, by decide +kernel, by decide +kernel, by decide +kernel⟩
set_option maxRecDepth 100000 in
theorem im_X8_init : Cond.instanceMethod mX8_init.1 ∈ jtbl := jtbl_of (tb_2 _ (List.mem_of_getElem? (i := 145) rfl)) rfl
def mX2_init : jMt := (yX2_init, cX2_init, 2, none)
set_option maxRecDepth 100000 in
theorem co_X2_init : Cond.code mX2_init.1 mX2_init.2.1 mX2_init.2.2.1 mX2_init.2.2.2 ∈ jtbl := jtbl_of (tb_2 _ (List.mem_of_getElem? (i := 152) rfl)) rfl
theorem mw_X2_init : jMw mX2_init 1 := ⟨co_X2_init, in_X2, by decide +kernel, by decide +kernel, by decide +kernel⟩
set_option maxRecDepth 100000 in
theorem im_X2_init : Cond.instanceMethod mX2_init.1 ∈ jtbl := jtbl_of (tb_2 _ (List.mem_of_getElem? (i := 151) rfl)) rfl
def mX8_clear : jMt := (yX8_clear, cX8_clear, 1, none)
set_option maxRecDepth 100000 in
theorem co_X8_clear : Cond.code mX8_clear.1 mX8_clear.2.1 mX8_clear.2.2.1 mX8_clear.2.2.2 ∈ jtbl := jtbl_of (tb_3 _ (List.mem_of_getElem? (i := 54) rfl)) rfl
theorem mw_X8_clear : jMw mX8_clear 0 := ⟨co_X8_clear, in_X8, by decide +kernel, by decide +kernel, by decide +kernel⟩
set_option maxRecDepth 100000 in
theorem im_X8_clear : Cond.instanceMethod mX8_clear.1 ∈ jtbl := jtbl_of (tb_3 _ (List.mem_of_getElem? (i := 52) rfl)) rfl
set_option maxRecDepth 100000 in
theorem se_X8_clear : Cond.selects mX8_clear.1.cls mX8_clear.1 mX8_clear.1 ∈ jtbl := jtbl_of (tb_3 _ (List.mem_of_getElem? (i := 53) rfl)) rfl
def mX2_clear : jMt := (yX2_clear, cX2_clear, 1, none)
set_option maxRecDepth 100000 in
theorem co_X2_clear : Cond.code mX2_clear.1 mX2_clear.2.1 mX2_clear.2.2.1 mX2_clear.2.2.2 ∈ jtbl := jtbl_of (tb_3 _ (List.mem_of_getElem? (i := 58) rfl)) rfl
theorem mw_X2_clear : jMw mX2_clear 0 := ⟨co_X2_clear, in_X2, by decide +kernel, by decide +kernel, by decide +kernel⟩
set_option maxRecDepth 100000 in
theorem im_X2_clear : Cond.instanceMethod mX2_clear.1 ∈ jtbl := jtbl_of (tb_3 _ (List.mem_of_getElem? (i := 56) rfl)) rfl
set_option maxRecDepth 100000 in
theorem se_X2_clear : Cond.selects mX2_clear.1.cls mX2_clear.1 mX2_clear.1 ∈ jtbl := jtbl_of (tb_3 _ (List.mem_of_getElem? (i := 57) rfl)) rfl
def mJA_fill_JJ : jMt := ((⟨"java/util/Arrays", "fill", "([JJ)V"⟩ : MethodName), prog_21_method_101_code, 5, none)
set_option maxRecDepth 100000 in
theorem co_JA_fill_JJ : Cond.code mJA_fill_JJ.1 mJA_fill_JJ.2.1 mJA_fill_JJ.2.2.1 mJA_fill_JJ.2.2.2 ∈ jtbl := jtbl_of (tb_3 _ (List.mem_of_getElem? (i := 62) rfl)) rfl
theorem mw_JA_fill_JJ : jMw mJA_fill_JJ 2 := ⟨co_JA_fill_JJ, in_JA, by decide +kernel, by decide +kernel, by decide +kernel⟩
set_option maxRecDepth 100000 in
theorem sm_JA_fill_JJ : Cond.static mJA_fill_JJ.1 ∈ jtbl := jtbl_of (tb_3 _ (List.mem_of_getElem? (i := 61) rfl)) rfl
def mX2_addVar : jMt := (yX2_addVar, cX2_addVar, 2, none)
set_option maxRecDepth 100000 in
theorem co_X2_addVar : Cond.code mX2_addVar.1 mX2_addVar.2.1 mX2_addVar.2.2.1 mX2_addVar.2.2.2 ∈ jtbl := jtbl_of (tb_3 _ (List.mem_of_getElem? (i := 66) rfl)) rfl
theorem mw_X2_addVar : jMw mX2_addVar 1 := ⟨co_X2_addVar, in_X2, by decide +kernel, by decide +kernel, by decide +kernel⟩
set_option maxRecDepth 100000 in
theorem im_X2_addVar : Cond.instanceMethod mX2_addVar.1 ∈ jtbl := jtbl_of (tb_3 _ (List.mem_of_getElem? (i := 64) rfl)) rfl
set_option maxRecDepth 100000 in
theorem se_X2_addVar : Cond.selects mX2_addVar.1.cls mX2_addVar.1 mX2_addVar.1 ∈ jtbl := jtbl_of (tb_3 _ (List.mem_of_getElem? (i := 65) rfl)) rfl
def mX2_add : jMt := (yX2_add, cX2_add, 4, (some .int))
set_option maxRecDepth 100000 in
theorem co_X2_add : Cond.code mX2_add.1 mX2_add.2.1 mX2_add.2.2.1 mX2_add.2.2.2 ∈ jtbl := jtbl_of (tb_3 _ (List.mem_of_getElem? (i := 70) rfl)) rfl
theorem mw_X2_add : jMw mX2_add 2 := ⟨co_X2_add, in_X2, by decide +kernel, by decide +kernel, by decide +kernel⟩
set_option maxRecDepth 100000 in
theorem im_X2_add : Cond.instanceMethod mX2_add.1 ∈ jtbl := jtbl_of (tb_3 _ (List.mem_of_getElem? (i := 68) rfl)) rfl
set_option maxRecDepth 100000 in
theorem se_X2_add : Cond.selects mX2_add.1.cls mX2_add.1 mX2_add.1 ∈ jtbl := jtbl_of (tb_3 _ (List.mem_of_getElem? (i := 69) rfl)) rfl
def mX2_maskOf : jMt := (yX2_maskOf, cX2_maskOf, 1, (some .long))
set_option maxRecDepth 100000 in
theorem co_X2_maskOf : Cond.code mX2_maskOf.1 mX2_maskOf.2.1 mX2_maskOf.2.2.1 mX2_maskOf.2.2.2 ∈ jtbl := jtbl_of (tb_3 _ (List.mem_of_getElem? (i := 73) rfl)) rfl
theorem mw_X2_maskOf : jMw mX2_maskOf 1 := ⟨co_X2_maskOf, in_X2, by decide +kernel, by decide +kernel, by decide +kernel⟩
set_option maxRecDepth 100000 in
theorem sm_X2_maskOf : Cond.static mX2_maskOf.1 ∈ jtbl := jtbl_of (tb_3 _ (List.mem_of_getElem? (i := 72) rfl)) rfl
def mX10_begin : jMt := (yX10_begin, cX10_begin, 3, none)
set_option maxRecDepth 100000 in
theorem co_X10_begin : Cond.code mX10_begin.1 mX10_begin.2.1 mX10_begin.2.2.1 mX10_begin.2.2.2 ∈ jtbl := jtbl_of (tb_3 _ (List.mem_of_getElem? (i := 82) rfl)) rfl
theorem mw_X10_begin : jMw mX10_begin 1 := ⟨co_X10_begin, in_X10, by decide +kernel, by decide +kernel, by decide +kernel⟩
set_option maxRecDepth 100000 in
theorem im_X10_begin : Cond.instanceMethod mX10_begin.1 ∈ jtbl := jtbl_of (tb_3 _ (List.mem_of_getElem? (i := 80) rfl)) rfl
set_option maxRecDepth 100000 in
theorem se_X10_begin : Cond.selects mX10_begin.1.cls mX10_begin.1 mX10_begin.1 ∈ jtbl := jtbl_of (tb_3 _ (List.mem_of_getElem? (i := 81) rfl)) rfl
def mX5_begin : jMt := (yX5_begin, cX5_begin, 2, none)
set_option maxRecDepth 100000 in
theorem co_X5_begin : Cond.code mX5_begin.1 mX5_begin.2.1 mX5_begin.2.2.1 mX5_begin.2.2.2 ∈ jtbl := jtbl_of (tb_3 _ (List.mem_of_getElem? (i := 87) rfl)) rfl
theorem mw_X5_begin : jMw mX5_begin 1 := ⟨co_X5_begin, in_X5, by decide +kernel, by decide +kernel, by decide +kernel⟩
set_option maxRecDepth 100000 in
theorem im_X5_begin : Cond.instanceMethod mX5_begin.1 ∈ jtbl := jtbl_of (tb_3 _ (List.mem_of_getElem? (i := 85) rfl)) rfl
set_option maxRecDepth 100000 in
theorem se_X5_begin : Cond.selects mX5_begin.1.cls mX5_begin.1 mX5_begin.1 ∈ jtbl := jtbl_of (tb_3 _ (List.mem_of_getElem? (i := 86) rfl)) rfl
def mJA_fill_II : jMt := ((⟨"java/util/Arrays", "fill", "([II)V"⟩ : MethodName), prog_21_method_103_code, 4, none)
set_option maxRecDepth 100000 in
theorem co_JA_fill_II : Cond.code mJA_fill_II.1 mJA_fill_II.2.1 mJA_fill_II.2.2.1 mJA_fill_II.2.2.2 ∈ jtbl := jtbl_of (tb_3 _ (List.mem_of_getElem? (i := 90) rfl)) rfl
theorem mw_JA_fill_II : jMw mJA_fill_II 2 := ⟨co_JA_fill_II, in_JA, by decide +kernel, by decide +kernel, by decide +kernel⟩
set_option maxRecDepth 100000 in
theorem sm_JA_fill_II : Cond.static mJA_fill_II.1 ∈ jtbl := jtbl_of (tb_3 _ (List.mem_of_getElem? (i := 89) rfl)) rfl
def mX5_setRates : jMt := (yX5_setRates, cX5_setRates, 3, none)
set_option maxRecDepth 100000 in
theorem co_X5_setRates : Cond.code mX5_setRates.1 mX5_setRates.2.1 mX5_setRates.2.2.1 mX5_setRates.2.2.2 ∈ jtbl := jtbl_of (tb_3 _ (List.mem_of_getElem? (i := 94) rfl)) rfl
theorem mw_X5_setRates : jMw mX5_setRates 2 := ⟨co_X5_setRates, in_X5, by decide +kernel, by decide +kernel, by decide +kernel⟩
set_option maxRecDepth 100000 in
theorem im_X5_setRates : Cond.instanceMethod mX5_setRates.1 ∈ jtbl := jtbl_of (tb_3 _ (List.mem_of_getElem? (i := 92) rfl)) rfl
set_option maxRecDepth 100000 in
theorem se_X5_setRates : Cond.selects mX5_setRates.1.cls mX5_setRates.1 mX5_setRates.1 ∈ jtbl := jtbl_of (tb_3 _ (List.mem_of_getElem? (i := 93) rfl)) rfl
def mX10_enter : jMt := (yX10_enter, cX10_enter, 2, none)
set_option maxRecDepth 100000 in
theorem co_X10_enter : Cond.code mX10_enter.1 mX10_enter.2.1 mX10_enter.2.2.1 mX10_enter.2.2.2 ∈ jtbl := jtbl_of (tb_3 _ (List.mem_of_getElem? (i := 98) rfl)) rfl
theorem mw_X10_enter : jMw mX10_enter 1 := ⟨co_X10_enter, in_X10, by decide +kernel, by decide +kernel, by decide +kernel⟩
set_option maxRecDepth 100000 in
theorem im_X10_enter : Cond.instanceMethod mX10_enter.1 ∈ jtbl := jtbl_of (tb_3 _ (List.mem_of_getElem? (i := 96) rfl)) rfl
set_option maxRecDepth 100000 in
theorem se_X10_enter : Cond.selects mX10_enter.1.cls mX10_enter.1 mX10_enter.1 ∈ jtbl := jtbl_of (tb_3 _ (List.mem_of_getElem? (i := 97) rfl)) rfl
def mX10_lookAtNight : jMt := (yX10_lookAtNight, cX10_lookAtNight, 7, none)
set_option maxRecDepth 100000 in
theorem co_X10_lookAtNight : Cond.code mX10_lookAtNight.1 mX10_lookAtNight.2.1 mX10_lookAtNight.2.2.1 mX10_lookAtNight.2.2.2 ∈ jtbl := jtbl_of (tb_3 _ (List.mem_of_getElem? (i := 102) rfl)) rfl
theorem mw_X10_lookAtNight : jMw mX10_lookAtNight 0 := ⟨co_X10_lookAtNight, in_X10, by decide +kernel, by decide +kernel, by decide +kernel⟩
set_option maxRecDepth 100000 in
theorem im_X10_lookAtNight : Cond.instanceMethod mX10_lookAtNight.1 ∈ jtbl := jtbl_of (tb_3 _ (List.mem_of_getElem? (i := 101) rfl)) rfl
set_option maxRecDepth 100000 in
theorem se_X10_lookAtNight : Cond.selects mX10_lookAtNight.1.cls mX10_lookAtNight.1 mX10_lookAtNight.1 ∈ jtbl := jtbl_of (tb_0 _ (List.mem_of_getElem? (i := 0) rfl)) rfl
def mX10_lot : jMt := (yX10_lot, cX10_lot, 4, (some .int))
set_option maxRecDepth 100000 in
theorem co_X10_lot : Cond.code mX10_lot.1 mX10_lot.2.1 mX10_lot.2.2.1 mX10_lot.2.2.2 ∈ jtbl := jtbl_of (tb_3 _ (List.mem_of_getElem? (i := 105) rfl)) rfl
theorem mw_X10_lot : jMw mX10_lot 3 := ⟨co_X10_lot, in_X10, by decide +kernel, by decide +kernel, by decide +kernel⟩
set_option maxRecDepth 100000 in
theorem sm_X10_lot : Cond.static mX10_lot.1 ∈ jtbl := jtbl_of (tb_3 _ (List.mem_of_getElem? (i := 104) rfl)) rfl
def mX10_stirred : jMt := (yX10_stirred, cX10_stirred, 3, (some .int))
set_option maxRecDepth 100000 in
theorem co_X10_stirred : Cond.code mX10_stirred.1 mX10_stirred.2.1 mX10_stirred.2.2.1 mX10_stirred.2.2.2 ∈ jtbl := jtbl_of (tb_3 _ (List.mem_of_getElem? (i := 108) rfl)) rfl
theorem mw_X10_stirred : jMw mX10_stirred 2 := ⟨co_X10_stirred, in_X10, by decide +kernel, by decide +kernel, by decide +kernel⟩
set_option maxRecDepth 100000 in
theorem sm_X10_stirred : Cond.static mX10_stirred.1 ∈ jtbl := jtbl_of (tb_3 _ (List.mem_of_getElem? (i := 107) rfl)) rfl
def mX10_doubtBy : jMt := (yX10_doubtBy, cX10_doubtBy, 5, none)
set_option maxRecDepth 100000 in
theorem co_X10_doubtBy : Cond.code mX10_doubtBy.1 mX10_doubtBy.2.1 mX10_doubtBy.2.2.1 mX10_doubtBy.2.2.2 ∈ jtbl := jtbl_of (tb_3 _ (List.mem_of_getElem? (i := 113) rfl)) rfl
theorem mw_X10_doubtBy : jMw mX10_doubtBy 2 := ⟨co_X10_doubtBy, in_X10, by decide +kernel, by decide +kernel, by decide +kernel⟩
set_option maxRecDepth 100000 in
theorem im_X10_doubtBy : Cond.instanceMethod mX10_doubtBy.1 ∈ jtbl := jtbl_of (tb_3 _ (List.mem_of_getElem? (i := 112) rfl)) rfl
set_option maxRecDepth 100000 in
theorem se_X10_doubtBy : Cond.selects mX10_doubtBy.1.cls mX10_doubtBy.1 mX10_doubtBy.1 ∈ jtbl := jtbl_of (tb_0 _ (List.mem_of_getElem? (i := 1) rfl)) rfl
def mX10_doubt : jMt := (yX10_doubt, cX10_doubt, 3, none)
set_option maxRecDepth 100000 in
theorem co_X10_doubt : Cond.code mX10_doubt.1 mX10_doubt.2.1 mX10_doubt.2.2.1 mX10_doubt.2.2.2 ∈ jtbl := jtbl_of (tb_3 _ (List.mem_of_getElem? (i := 117) rfl)) rfl
theorem mw_X10_doubt : jMw mX10_doubt 1 := ⟨co_X10_doubt, in_X10, by decide +kernel, by decide +kernel, by decide +kernel⟩
set_option maxRecDepth 100000 in
theorem im_X10_doubt : Cond.instanceMethod mX10_doubt.1 ∈ jtbl := jtbl_of (tb_3 _ (List.mem_of_getElem? (i := 116) rfl)) rfl
set_option maxRecDepth 100000 in
theorem se_X10_doubt : Cond.selects mX10_doubt.1.cls mX10_doubt.1 mX10_doubt.1 ∈ jtbl := jtbl_of (tb_0 _ (List.mem_of_getElem? (i := 2) rfl)) rfl
def mX10_said : jMt := (yX10_said, cX10_said, 11, (some .int))
set_option maxRecDepth 100000 in
theorem co_X10_said : Cond.code mX10_said.1 mX10_said.2.1 mX10_said.2.2.1 mX10_said.2.2.2 ∈ jtbl := jtbl_of (tb_3 _ (List.mem_of_getElem? (i := 121) rfl)) rfl
theorem mw_X10_said : jMw mX10_said 4 := ⟨co_X10_said, in_X10, by decide +kernel, by decide +kernel, by decide +kernel⟩
set_option maxRecDepth 100000 in
theorem im_X10_said : Cond.instanceMethod mX10_said.1 ∈ jtbl := jtbl_of (tb_3 _ (List.mem_of_getElem? (i := 120) rfl)) rfl
set_option maxRecDepth 100000 in
theorem se_X10_said : Cond.selects mX10_said.1.cls mX10_said.1 mX10_said.1 ∈ jtbl := jtbl_of (tb_0 _ (List.mem_of_getElem? (i := 3) rfl)) rfl
def mX2_valueOf : jMt := (yX2_valueOf, cX2_valueOf, 9, (some .int))
set_option maxRecDepth 100000 in
theorem co_X2_valueOf : Cond.code mX2_valueOf.1 mX2_valueOf.2.1 mX2_valueOf.2.2.1 mX2_valueOf.2.2.2 ∈ jtbl := jtbl_of (tb_3 _ (List.mem_of_getElem? (i := 125) rfl)) rfl
theorem mw_X2_valueOf : jMw mX2_valueOf 2 := ⟨co_X2_valueOf, in_X2, by decide +kernel, by decide +kernel, by decide +kernel⟩
set_option maxRecDepth 100000 in
theorem im_X2_valueOf : Cond.instanceMethod mX2_valueOf.1 ∈ jtbl := jtbl_of (tb_3 _ (List.mem_of_getElem? (i := 123) rfl)) rfl
set_option maxRecDepth 100000 in
theorem se_X2_valueOf : Cond.selects mX2_valueOf.1.cls mX2_valueOf.1 mX2_valueOf.1 ∈ jtbl := jtbl_of (tb_3 _ (List.mem_of_getElem? (i := 124) rfl)) rfl
def mX10_findBroken : jMt := (yX10_findBroken, cX10_findBroken, 3, (some .int))
set_option maxRecDepth 100000 in
theorem co_X10_findBroken : Cond.code mX10_findBroken.1 mX10_findBroken.2.1 mX10_findBroken.2.2.1 mX10_findBroken.2.2.2 ∈ jtbl := jtbl_of (tb_3 _ (List.mem_of_getElem? (i := 135) rfl)) rfl
theorem mw_X10_findBroken : jMw mX10_findBroken 0 := ⟨co_X10_findBroken, in_X10, by decide +kernel, by decide +kernel, by decide +kernel⟩
set_option maxRecDepth 100000 in
theorem im_X10_findBroken : Cond.instanceMethod mX10_findBroken.1 ∈ jtbl := jtbl_of (tb_3 _ (List.mem_of_getElem? (i := 134) rfl)) rfl
set_option maxRecDepth 100000 in
theorem se_X10_findBroken : Cond.selects mX10_findBroken.1.cls mX10_findBroken.1 mX10_findBroken.1 ∈ jtbl := jtbl_of (tb_0 _ (List.mem_of_getElem? (i := 4) rfl)) rfl
def mX11_feed : jMt := (yX11_feed, cX11_feed, 6, (some .int))
set_option maxRecDepth 100000 in
theorem co_X11_feed : Cond.code mX11_feed.1 mX11_feed.2.1 mX11_feed.2.2.1 mX11_feed.2.2.2 ∈ jtbl := jtbl_of (tb_3 _ (List.mem_of_getElem? (i := 167) rfl)) rfl
theorem mw_X11_feed : jMw mX11_feed 5 := ⟨co_X11_feed, in_X11, by decide +kernel, by decide +kernel, by decide +kernel⟩
set_option maxRecDepth 100000 in
theorem im_X11_feed : Cond.instanceMethod mX11_feed.1 ∈ jtbl := jtbl_of (tb_3 _ (List.mem_of_getElem? (i := 165) rfl)) rfl
set_option maxRecDepth 100000 in
theorem se_X11_feed : Cond.selects mX11_feed.1.cls mX11_feed.1 mX11_feed.1 ∈ jtbl := jtbl_of (tb_3 _ (List.mem_of_getElem? (i := 166) rfl)) rfl
def mX6_add : jMt := (yX6_add, cX6_add, 3, none)
set_option maxRecDepth 100000 in
theorem co_X6_add : Cond.code mX6_add.1 mX6_add.2.1 mX6_add.2.2.1 mX6_add.2.2.2 ∈ jtbl := jtbl_of (tb_3 _ (List.mem_of_getElem? (i := 171) rfl)) rfl
theorem mw_X6_add : jMw mX6_add 1 := ⟨co_X6_add, in_X6, by decide +kernel, by decide +kernel, by decide +kernel⟩
set_option maxRecDepth 100000 in
theorem im_X6_add : Cond.instanceMethod mX6_add.1 ∈ jtbl := jtbl_of (tb_3 _ (List.mem_of_getElem? (i := 169) rfl)) rfl
set_option maxRecDepth 100000 in
theorem se_X6_add : Cond.selects mX6_add.1.cls mX6_add.1 mX6_add.1 ∈ jtbl := jtbl_of (tb_3 _ (List.mem_of_getElem? (i := 170) rfl)) rfl
def mX11_back : jMt := (yX11_back, cX11_back, 2, (some .int))
set_option maxRecDepth 100000 in
theorem co_X11_back : Cond.code mX11_back.1 mX11_back.2.1 mX11_back.2.2.1 mX11_back.2.2.2 ∈ jtbl := jtbl_of (tb_3 _ (List.mem_of_getElem? (i := 175) rfl)) rfl
theorem mw_X11_back : jMw mX11_back 1 := ⟨co_X11_back, in_X11, by decide +kernel, by decide +kernel, by decide +kernel⟩
set_option maxRecDepth 100000 in
theorem im_X11_back : Cond.instanceMethod mX11_back.1 ∈ jtbl := jtbl_of (tb_3 _ (List.mem_of_getElem? (i := 173) rfl)) rfl
set_option maxRecDepth 100000 in
theorem se_X11_back : Cond.selects mX11_back.1.cls mX11_back.1 mX11_back.1 ∈ jtbl := jtbl_of (tb_3 _ (List.mem_of_getElem? (i := 174) rfl)) rfl
def mX11_read : jMt := (yX11_read, cX11_read, 3, (some .int))
set_option maxRecDepth 100000 in
theorem co_X11_read : Cond.code mX11_read.1 mX11_read.2.1 mX11_read.2.2.1 mX11_read.2.2.2 ∈ jtbl := jtbl_of (tb_3 _ (List.mem_of_getElem? (i := 179) rfl)) rfl
theorem mw_X11_read : jMw mX11_read 0 := ⟨co_X11_read, in_X11, by decide +kernel, by decide +kernel, by decide +kernel⟩
set_option maxRecDepth 100000 in
theorem im_X11_read : Cond.instanceMethod mX11_read.1 ∈ jtbl := jtbl_of (tb_3 _ (List.mem_of_getElem? (i := 177) rfl)) rfl
set_option maxRecDepth 100000 in
theorem se_X11_read : Cond.selects mX11_read.1.cls mX11_read.1 mX11_read.1 ∈ jtbl := jtbl_of (tb_3 _ (List.mem_of_getElem? (i := 178) rfl)) rfl
def mX4_readInto : jMt := (yX4_readInto, cX4_readInto, 4, (some .int))
set_option maxRecDepth 100000 in
theorem co_X4_readInto : Cond.code mX4_readInto.1 mX4_readInto.2.1 mX4_readInto.2.2.1 mX4_readInto.2.2.2 ∈ jtbl := jtbl_of (tb_3 _ (List.mem_of_getElem? (i := 183) rfl)) rfl
theorem mw_X4_readInto : jMw mX4_readInto 2 := ⟨co_X4_readInto, in_X4, by decide +kernel, by decide +kernel, by decide +kernel⟩
set_option maxRecDepth 100000 in
theorem im_X4_readInto : Cond.instanceMethod mX4_readInto.1 ∈ jtbl := jtbl_of (tb_3 _ (List.mem_of_getElem? (i := 181) rfl)) rfl
set_option maxRecDepth 100000 in
theorem se_X4_readInto : Cond.selects mX4_readInto.1.cls mX4_readInto.1 mX4_readInto.1 ∈ jtbl := jtbl_of (tb_3 _ (List.mem_of_getElem? (i := 182) rfl)) rfl
def mX7_scan : jMt := (yX7_scan, cX7_scan, 5, none)
set_option maxRecDepth 100000 in
theorem co_X7_scan : Cond.code mX7_scan.1 mX7_scan.2.1 mX7_scan.2.2.1 mX7_scan.2.2.2 ∈ jtbl := jtbl_of (tb_3 _ (List.mem_of_getElem? (i := 188) rfl)) rfl
theorem mw_X7_scan : jMw mX7_scan 1 := ⟨co_X7_scan, in_X7, by decide +kernel, by decide +kernel, by decide +kernel⟩
set_option maxRecDepth 100000 in
theorem im_X7_scan : Cond.instanceMethod mX7_scan.1 ∈ jtbl := jtbl_of (tb_3 _ (List.mem_of_getElem? (i := 186) rfl)) rfl
set_option maxRecDepth 100000 in
theorem se_X7_scan : Cond.selects mX7_scan.1.cls mX7_scan.1 mX7_scan.1 ∈ jtbl := jtbl_of (tb_3 _ (List.mem_of_getElem? (i := 187) rfl)) rfl
def mX7_afterBlanks : jMt := (yX7_afterBlanks, cX7_afterBlanks, 3, (some .int))
set_option maxRecDepth 100000 in
theorem co_X7_afterBlanks : Cond.code mX7_afterBlanks.1 mX7_afterBlanks.2.1 mX7_afterBlanks.2.2.1 mX7_afterBlanks.2.2.2 ∈ jtbl := jtbl_of (tb_3 _ (List.mem_of_getElem? (i := 191) rfl)) rfl
theorem mw_X7_afterBlanks : jMw mX7_afterBlanks 2 := ⟨co_X7_afterBlanks, in_X7, by decide +kernel, by decide +kernel, by decide +kernel⟩
set_option maxRecDepth 100000 in
theorem sm_X7_afterBlanks : Cond.static mX7_afterBlanks.1 ∈ jtbl := jtbl_of (tb_3 _ (List.mem_of_getElem? (i := 190) rfl)) rfl
def mX7_isBlank : jMt := (yX7_isBlank, cX7_isBlank, 1, (some .boolean))
set_option maxRecDepth 100000 in
theorem co_X7_isBlank : Cond.code mX7_isBlank.1 mX7_isBlank.2.1 mX7_isBlank.2.2.1 mX7_isBlank.2.2.2 ∈ jtbl := jtbl_of (tb_3 _ (List.mem_of_getElem? (i := 194) rfl)) rfl
theorem mw_X7_isBlank : jMw mX7_isBlank 1 := ⟨co_X7_isBlank, in_X7, by decide +kernel, by decide +kernel, by decide +kernel⟩
set_option maxRecDepth 100000 in
theorem sm_X7_isBlank : Cond.static mX7_isBlank.1 ∈ jtbl := jtbl_of (tb_3 _ (List.mem_of_getElem? (i := 193) rfl)) rfl
def mX7_scanOne : jMt := (yX7_scanOne, cX7_scanOne, 5, (some .int))
set_option maxRecDepth 100000 in
theorem co_X7_scanOne : Cond.code mX7_scanOne.1 mX7_scanOne.2.1 mX7_scanOne.2.2.1 mX7_scanOne.2.2.2 ∈ jtbl := jtbl_of (tb_3 _ (List.mem_of_getElem? (i := 198) rfl)) rfl
theorem mw_X7_scanOne : jMw mX7_scanOne 3 := ⟨co_X7_scanOne, in_X7, by decide +kernel, by decide +kernel, by decide +kernel⟩
set_option maxRecDepth 100000 in
theorem im_X7_scanOne : Cond.instanceMethod mX7_scanOne.1 ∈ jtbl := jtbl_of (tb_3 _ (List.mem_of_getElem? (i := 197) rfl)) rfl
set_option maxRecDepth 100000 in
theorem se_X7_scanOne : Cond.selects mX7_scanOne.1.cls mX7_scanOne.1 mX7_scanOne.1 ∈ jtbl := jtbl_of (tb_0 _ (List.mem_of_getElem? (i := 5) rfl)) rfl
def mX7_isLetter : jMt := (yX7_isLetter, cX7_isLetter, 1, (some .boolean))
set_option maxRecDepth 100000 in
theorem co_X7_isLetter : Cond.code mX7_isLetter.1 mX7_isLetter.2.1 mX7_isLetter.2.2.1 mX7_isLetter.2.2.2 ∈ jtbl := jtbl_of (tb_3 _ (List.mem_of_getElem? (i := 201) rfl)) rfl
theorem mw_X7_isLetter : jMw mX7_isLetter 1 := ⟨co_X7_isLetter, in_X7, by decide +kernel, by decide +kernel, by decide +kernel⟩
set_option maxRecDepth 100000 in
theorem sm_X7_isLetter : Cond.static mX7_isLetter.1 ∈ jtbl := jtbl_of (tb_3 _ (List.mem_of_getElem? (i := 200) rfl)) rfl
def mX7_scanLetters : jMt := (yX7_scanLetters, cX7_scanLetters, 7, (some .int))
set_option maxRecDepth 100000 in
theorem co_X7_scanLetters : Cond.code mX7_scanLetters.1 mX7_scanLetters.2.1 mX7_scanLetters.2.2.1 mX7_scanLetters.2.2.2 ∈ jtbl := jtbl_of (tb_3 _ (List.mem_of_getElem? (i := 205) rfl)) rfl
theorem mw_X7_scanLetters : jMw mX7_scanLetters 3 := ⟨co_X7_scanLetters, in_X7, by decide +kernel, by decide +kernel, by decide +kernel⟩
set_option maxRecDepth 100000 in
theorem im_X7_scanLetters : Cond.instanceMethod mX7_scanLetters.1 ∈ jtbl := jtbl_of (tb_3 _ (List.mem_of_getElem? (i := 204) rfl)) rfl
set_option maxRecDepth 100000 in
theorem se_X7_scanLetters : Cond.selects mX7_scanLetters.1.cls mX7_scanLetters.1 mX7_scanLetters.1 ∈ jtbl := jtbl_of (tb_0 _ (List.mem_of_getElem? (i := 6) rfl)) rfl
def mX7_kindOf : jMt := (yX7_kindOf, cX7_kindOf, 4, (some .int))
set_option maxRecDepth 100000 in
theorem co_X7_kindOf : Cond.code mX7_kindOf.1 mX7_kindOf.2.1 mX7_kindOf.2.2.1 mX7_kindOf.2.2.2 ∈ jtbl := jtbl_of (tb_3 _ (List.mem_of_getElem? (i := 209) rfl)) rfl
theorem mw_X7_kindOf : jMw mX7_kindOf 1 := ⟨co_X7_kindOf, in_X7, by decide +kernel, by decide +kernel, by decide +kernel⟩
set_option maxRecDepth 100000 in
theorem im_X7_kindOf : Cond.instanceMethod mX7_kindOf.1 ∈ jtbl := jtbl_of (tb_3 _ (List.mem_of_getElem? (i := 208) rfl)) rfl
set_option maxRecDepth 100000 in
theorem se_X7_kindOf : Cond.selects mX7_kindOf.1.cls mX7_kindOf.1 mX7_kindOf.1 ∈ jtbl := jtbl_of (tb_0 _ (List.mem_of_getElem? (i := 7) rfl)) rfl
def mX7_isDigit : jMt := (yX7_isDigit, cX7_isDigit, 1, (some .boolean))
set_option maxRecDepth 100000 in
theorem co_X7_isDigit : Cond.code mX7_isDigit.1 mX7_isDigit.2.1 mX7_isDigit.2.2.1 mX7_isDigit.2.2.2 ∈ jtbl := jtbl_of (tb_3 _ (List.mem_of_getElem? (i := 212) rfl)) rfl
theorem mw_X7_isDigit : jMw mX7_isDigit 1 := ⟨co_X7_isDigit, in_X7, by decide +kernel, by decide +kernel, by decide +kernel⟩
set_option maxRecDepth 100000 in
theorem sm_X7_isDigit : Cond.static mX7_isDigit.1 ∈ jtbl := jtbl_of (tb_3 _ (List.mem_of_getElem? (i := 211) rfl)) rfl
def mX7_scanDigits : jMt := (yX7_scanDigits, cX7_scanDigits, 7, (some .int))
set_option maxRecDepth 100000 in
theorem co_X7_scanDigits : Cond.code mX7_scanDigits.1 mX7_scanDigits.2.1 mX7_scanDigits.2.2.1 mX7_scanDigits.2.2.2 ∈ jtbl := jtbl_of (tb_3 _ (List.mem_of_getElem? (i := 216) rfl)) rfl
theorem mw_X7_scanDigits : jMw mX7_scanDigits 3 := ⟨co_X7_scanDigits, in_X7, by decide +kernel, by decide +kernel, by decide +kernel⟩
set_option maxRecDepth 100000 in
theorem im_X7_scanDigits : Cond.instanceMethod mX7_scanDigits.1 ∈ jtbl := jtbl_of (tb_3 _ (List.mem_of_getElem? (i := 215) rfl)) rfl
set_option maxRecDepth 100000 in
theorem se_X7_scanDigits : Cond.selects mX7_scanDigits.1.cls mX7_scanDigits.1 mX7_scanDigits.1 ∈ jtbl := jtbl_of (tb_0 _ (List.mem_of_getElem? (i := 8) rfl)) rfl
def mX7_isSign : jMt := (yX7_isSign, cX7_isSign, 1, (some .boolean))
set_option maxRecDepth 100000 in
theorem co_X7_isSign : Cond.code mX7_isSign.1 mX7_isSign.2.1 mX7_isSign.2.2.1 mX7_isSign.2.2.2 ∈ jtbl := jtbl_of (tb_3 _ (List.mem_of_getElem? (i := 220) rfl)) rfl
theorem mw_X7_isSign : jMw mX7_isSign 1 := ⟨co_X7_isSign, in_X7, by decide +kernel, by decide +kernel, by decide +kernel⟩
set_option maxRecDepth 100000 in
theorem sm_X7_isSign : Cond.static mX7_isSign.1 ∈ jtbl := jtbl_of (tb_3 _ (List.mem_of_getElem? (i := 219) rfl)) rfl
def mX4_kindHere : jMt := (yX4_kindHere, cX4_kindHere, 1, (some .int))
set_option maxRecDepth 100000 in
theorem co_X4_kindHere : Cond.code mX4_kindHere.1 mX4_kindHere.2.1 mX4_kindHere.2.2.1 mX4_kindHere.2.2.2 ∈ jtbl := jtbl_of (tb_3 _ (List.mem_of_getElem? (i := 224) rfl)) rfl
theorem mw_X4_kindHere : jMw mX4_kindHere 0 := ⟨co_X4_kindHere, in_X4, by decide +kernel, by decide +kernel, by decide +kernel⟩
set_option maxRecDepth 100000 in
theorem im_X4_kindHere : Cond.instanceMethod mX4_kindHere.1 ∈ jtbl := jtbl_of (tb_3 _ (List.mem_of_getElem? (i := 223) rfl)) rfl
set_option maxRecDepth 100000 in
theorem se_X4_kindHere : Cond.selects mX4_kindHere.1.cls mX4_kindHere.1 mX4_kindHere.1 ∈ jtbl := jtbl_of (tb_0 _ (List.mem_of_getElem? (i := 9) rfl)) rfl
def mX4_readTelling : jMt := (yX4_readTelling, cX4_readTelling, 1, none)
set_option maxRecDepth 100000 in
theorem co_X4_readTelling : Cond.code mX4_readTelling.1 mX4_readTelling.2.1 mX4_readTelling.2.2.1 mX4_readTelling.2.2.2 ∈ jtbl := jtbl_of (tb_3 _ (List.mem_of_getElem? (i := 228) rfl)) rfl
theorem mw_X4_readTelling : jMw mX4_readTelling 0 := ⟨co_X4_readTelling, in_X4, by decide +kernel, by decide +kernel, by decide +kernel⟩
set_option maxRecDepth 100000 in
theorem im_X4_readTelling : Cond.instanceMethod mX4_readTelling.1 ∈ jtbl := jtbl_of (tb_3 _ (List.mem_of_getElem? (i := 227) rfl)) rfl
set_option maxRecDepth 100000 in
theorem se_X4_readTelling : Cond.selects mX4_readTelling.1.cls mX4_readTelling.1 mX4_readTelling.1 ∈ jtbl := jtbl_of (tb_0 _ (List.mem_of_getElem? (i := 10) rfl)) rfl
def mX4_readPlace : jMt := (yX4_readPlace, cX4_readPlace, 1, none)
set_option maxRecDepth 100000 in
theorem co_X4_readPlace : Cond.code mX4_readPlace.1 mX4_readPlace.2.1 mX4_readPlace.2.2.1 mX4_readPlace.2.2.2 ∈ jtbl := jtbl_of (tb_3 _ (List.mem_of_getElem? (i := 232) rfl)) rfl
theorem mw_X4_readPlace : jMw mX4_readPlace 0 := ⟨co_X4_readPlace, in_X4, by decide +kernel, by decide +kernel, by decide +kernel⟩
set_option maxRecDepth 100000 in
theorem im_X4_readPlace : Cond.instanceMethod mX4_readPlace.1 ∈ jtbl := jtbl_of (tb_3 _ (List.mem_of_getElem? (i := 231) rfl)) rfl
set_option maxRecDepth 100000 in
theorem se_X4_readPlace : Cond.selects mX4_readPlace.1.cls mX4_readPlace.1 mX4_readPlace.1 ∈ jtbl := jtbl_of (tb_0 _ (List.mem_of_getElem? (i := 11) rfl)) rfl
def mX4_failHere : jMt := (yX4_failHere, cX4_failHere, 2, none)
set_option maxRecDepth 100000 in
theorem co_X4_failHere : Cond.code mX4_failHere.1 mX4_failHere.2.1 mX4_failHere.2.2.1 mX4_failHere.2.2.2 ∈ jtbl := jtbl_of (tb_3 _ (List.mem_of_getElem? (i := 236) rfl)) rfl
theorem mw_X4_failHere : jMw mX4_failHere 1 := ⟨co_X4_failHere, in_X4, by decide +kernel, by decide +kernel, by decide +kernel⟩
set_option maxRecDepth 100000 in
theorem im_X4_failHere : Cond.instanceMethod mX4_failHere.1 ∈ jtbl := jtbl_of (tb_3 _ (List.mem_of_getElem? (i := 235) rfl)) rfl
set_option maxRecDepth 100000 in
theorem se_X4_failHere : Cond.selects mX4_failHere.1.cls mX4_failHere.1 mX4_failHere.1 ∈ jtbl := jtbl_of (tb_0 _ (List.mem_of_getElem? (i := 12) rfl)) rfl
def mX4_take : jMt := (yX4_take, cX4_take, 1, none)
set_option maxRecDepth 100000 in
theorem co_X4_take : Cond.code mX4_take.1 mX4_take.2.1 mX4_take.2.2.1 mX4_take.2.2.2 ∈ jtbl := jtbl_of (tb_4 _ (List.mem_of_getElem? (i := 0) rfl)) rfl
theorem mw_X4_take : jMw mX4_take 0 := ⟨co_X4_take, in_X4, by decide +kernel, by decide +kernel, by decide +kernel⟩
set_option maxRecDepth 100000 in
theorem im_X4_take : Cond.instanceMethod mX4_take.1 ∈ jtbl := jtbl_of (tb_3 _ (List.mem_of_getElem? (i := 239) rfl)) rfl
set_option maxRecDepth 100000 in
theorem se_X4_take : Cond.selects mX4_take.1.cls mX4_take.1 mX4_take.1 ∈ jtbl := jtbl_of (tb_0 _ (List.mem_of_getElem? (i := 13) rfl)) rfl
def mX4_readNewName : jMt := (yX4_readNewName, cX4_readNewName, 7, none)
set_option maxRecDepth 100000 in
theorem co_X4_readNewName : Cond.code mX4_readNewName.1 mX4_readNewName.2.1 mX4_readNewName.2.2.1 mX4_readNewName.2.2.2 ∈ jtbl := jtbl_of (tb_4 _ (List.mem_of_getElem? (i := 4) rfl)) rfl
theorem mw_X4_readNewName : jMw mX4_readNewName 2 := ⟨co_X4_readNewName, in_X4, by decide +kernel, by decide +kernel, by decide +kernel⟩
set_option maxRecDepth 100000 in
theorem im_X4_readNewName : Cond.instanceMethod mX4_readNewName.1 ∈ jtbl := jtbl_of (tb_4 _ (List.mem_of_getElem? (i := 3) rfl)) rfl
set_option maxRecDepth 100000 in
theorem se_X4_readNewName : Cond.selects mX4_readNewName.1.cls mX4_readNewName.1 mX4_readNewName.1 ∈ jtbl := jtbl_of (tb_0 _ (List.mem_of_getElem? (i := 14) rfl)) rfl
def mX4_expect : jMt := (yX4_expect, cX4_expect, 2, (some .boolean))
set_option maxRecDepth 100000 in
theorem co_X4_expect : Cond.code mX4_expect.1 mX4_expect.2.1 mX4_expect.2.2.1 mX4_expect.2.2.2 ∈ jtbl := jtbl_of (tb_4 _ (List.mem_of_getElem? (i := 8) rfl)) rfl
theorem mw_X4_expect : jMw mX4_expect 1 := ⟨co_X4_expect, in_X4, by decide +kernel, by decide +kernel, by decide +kernel⟩
set_option maxRecDepth 100000 in
theorem im_X4_expect : Cond.instanceMethod mX4_expect.1 ∈ jtbl := jtbl_of (tb_4 _ (List.mem_of_getElem? (i := 7) rfl)) rfl
set_option maxRecDepth 100000 in
theorem se_X4_expect : Cond.selects mX4_expect.1.cls mX4_expect.1 mX4_expect.1 ∈ jtbl := jtbl_of (tb_0 _ (List.mem_of_getElem? (i := 15) rfl)) rfl
def mX4_numberOf : jMt := (yX4_numberOf, cX4_numberOf, 5, (some .int))
set_option maxRecDepth 100000 in
theorem co_X4_numberOf : Cond.code mX4_numberOf.1 mX4_numberOf.2.1 mX4_numberOf.2.2.1 mX4_numberOf.2.2.2 ∈ jtbl := jtbl_of (tb_4 _ (List.mem_of_getElem? (i := 11) rfl)) rfl
theorem mw_X4_numberOf : jMw mX4_numberOf 3 := ⟨co_X4_numberOf, in_X4, by decide +kernel, by decide +kernel, by decide +kernel⟩
set_option maxRecDepth 100000 in
theorem sm_X4_numberOf : Cond.static mX4_numberOf.1 ∈ jtbl := jtbl_of (tb_4 _ (List.mem_of_getElem? (i := 10) rfl)) rfl
def mX4_failSense : jMt := (yX4_failSense, cX4_failSense, 3, none)
set_option maxRecDepth 100000 in
theorem co_X4_failSense : Cond.code mX4_failSense.1 mX4_failSense.2.1 mX4_failSense.2.2.1 mX4_failSense.2.2.2 ∈ jtbl := jtbl_of (tb_4 _ (List.mem_of_getElem? (i := 15) rfl)) rfl
theorem mw_X4_failSense : jMw mX4_failSense 2 := ⟨co_X4_failSense, in_X4, by decide +kernel, by decide +kernel, by decide +kernel⟩
set_option maxRecDepth 100000 in
theorem im_X4_failSense : Cond.instanceMethod mX4_failSense.1 ∈ jtbl := jtbl_of (tb_4 _ (List.mem_of_getElem? (i := 14) rfl)) rfl
set_option maxRecDepth 100000 in
theorem se_X4_failSense : Cond.selects mX4_failSense.1.cls mX4_failSense.1 mX4_failSense.1 ∈ jtbl := jtbl_of (tb_0 _ (List.mem_of_getElem? (i := 16) rfl)) rfl
def mX4_readRoad : jMt := (yX4_readRoad, cX4_readRoad, 2, none)
set_option maxRecDepth 100000 in
theorem co_X4_readRoad : Cond.code mX4_readRoad.1 mX4_readRoad.2.1 mX4_readRoad.2.2.1 mX4_readRoad.2.2.2 ∈ jtbl := jtbl_of (tb_4 _ (List.mem_of_getElem? (i := 19) rfl)) rfl
theorem mw_X4_readRoad : jMw mX4_readRoad 0 := ⟨co_X4_readRoad, in_X4, by decide +kernel, by decide +kernel, by decide +kernel⟩
set_option maxRecDepth 100000 in
theorem im_X4_readRoad : Cond.instanceMethod mX4_readRoad.1 ∈ jtbl := jtbl_of (tb_4 _ (List.mem_of_getElem? (i := 18) rfl)) rfl
set_option maxRecDepth 100000 in
theorem se_X4_readRoad : Cond.selects mX4_readRoad.1.cls mX4_readRoad.1 mX4_readRoad.1 ∈ jtbl := jtbl_of (tb_0 _ (List.mem_of_getElem? (i := 17) rfl)) rfl
def mX4_readOldPlace : jMt := (yX4_readOldPlace, cX4_readOldPlace, 6, (some .int))
set_option maxRecDepth 100000 in
theorem co_X4_readOldPlace : Cond.code mX4_readOldPlace.1 mX4_readOldPlace.2.1 mX4_readOldPlace.2.2.1 mX4_readOldPlace.2.2.2 ∈ jtbl := jtbl_of (tb_4 _ (List.mem_of_getElem? (i := 23) rfl)) rfl
theorem mw_X4_readOldPlace : jMw mX4_readOldPlace 1 := ⟨co_X4_readOldPlace, in_X4, by decide +kernel, by decide +kernel, by decide +kernel⟩
set_option maxRecDepth 100000 in
theorem im_X4_readOldPlace : Cond.instanceMethod mX4_readOldPlace.1 ∈ jtbl := jtbl_of (tb_4 _ (List.mem_of_getElem? (i := 22) rfl)) rfl
set_option maxRecDepth 100000 in
theorem se_X4_readOldPlace : Cond.selects mX4_readOldPlace.1.cls mX4_readOldPlace.1 mX4_readOldPlace.1 ∈ jtbl := jtbl_of (tb_0 _ (List.mem_of_getElem? (i := 18) rfl)) rfl
def mX4_readNumber : jMt := (yX4_readNumber, cX4_readNumber, 5, (some .int))
set_option maxRecDepth 100000 in
theorem co_X4_readNumber : Cond.code mX4_readNumber.1 mX4_readNumber.2.1 mX4_readNumber.2.2.1 mX4_readNumber.2.2.2 ∈ jtbl := jtbl_of (tb_4 _ (List.mem_of_getElem? (i := 27) rfl)) rfl
theorem mw_X4_readNumber : jMw mX4_readNumber 2 := ⟨co_X4_readNumber, in_X4, by decide +kernel, by decide +kernel, by decide +kernel⟩
set_option maxRecDepth 100000 in
theorem im_X4_readNumber : Cond.instanceMethod mX4_readNumber.1 ∈ jtbl := jtbl_of (tb_4 _ (List.mem_of_getElem? (i := 26) rfl)) rfl
set_option maxRecDepth 100000 in
theorem se_X4_readNumber : Cond.selects mX4_readNumber.1.cls mX4_readNumber.1 mX4_readNumber.1 ∈ jtbl := jtbl_of (tb_0 _ (List.mem_of_getElem? (i := 19) rfl)) rfl
def mX4_readGhost : jMt := (yX4_readGhost, cX4_readGhost, 2, none)
set_option maxRecDepth 100000 in
theorem co_X4_readGhost : Cond.code mX4_readGhost.1 mX4_readGhost.2.1 mX4_readGhost.2.2.1 mX4_readGhost.2.2.2 ∈ jtbl := jtbl_of (tb_4 _ (List.mem_of_getElem? (i := 31) rfl)) rfl
theorem mw_X4_readGhost : jMw mX4_readGhost 0 := ⟨co_X4_readGhost, in_X4, by decide +kernel, by decide +kernel, by decide +kernel⟩
set_option maxRecDepth 100000 in
theorem im_X4_readGhost : Cond.instanceMethod mX4_readGhost.1 ∈ jtbl := jtbl_of (tb_4 _ (List.mem_of_getElem? (i := 30) rfl)) rfl
set_option maxRecDepth 100000 in
theorem se_X4_readGhost : Cond.selects mX4_readGhost.1.cls mX4_readGhost.1 mX4_readGhost.1 ∈ jtbl := jtbl_of (tb_0 _ (List.mem_of_getElem? (i := 20) rfl)) rfl
def mX4_readLaw : jMt := (yX4_readLaw, cX4_readLaw, 4, none)
set_option maxRecDepth 100000 in
theorem co_X4_readLaw : Cond.code mX4_readLaw.1 mX4_readLaw.2.1 mX4_readLaw.2.2.1 mX4_readLaw.2.2.2 ∈ jtbl := jtbl_of (tb_4 _ (List.mem_of_getElem? (i := 35) rfl)) rfl
theorem mw_X4_readLaw : jMw mX4_readLaw 1 := ⟨co_X4_readLaw, in_X4, by decide +kernel, by decide +kernel, by decide +kernel⟩
set_option maxRecDepth 100000 in
theorem im_X4_readLaw : Cond.instanceMethod mX4_readLaw.1 ∈ jtbl := jtbl_of (tb_4 _ (List.mem_of_getElem? (i := 34) rfl)) rfl
set_option maxRecDepth 100000 in
theorem se_X4_readLaw : Cond.selects mX4_readLaw.1.cls mX4_readLaw.1 mX4_readLaw.1 ∈ jtbl := jtbl_of (tb_0 _ (List.mem_of_getElem? (i := 21) rfl)) rfl
def mX4_readSum : jMt := (yX4_readSum, cX4_readSum, 3, none)
set_option maxRecDepth 100000 in
theorem co_X4_readSum : Cond.code mX4_readSum.1 mX4_readSum.2.1 mX4_readSum.2.2.1 mX4_readSum.2.2.2 ∈ jtbl := jtbl_of (tb_4 _ (List.mem_of_getElem? (i := 40) rfl)) rfl
theorem mw_X4_readSum : jMw mX4_readSum 1 := ⟨co_X4_readSum, in_X4, by decide +kernel, by decide +kernel, by decide +kernel⟩
set_option maxRecDepth 100000 in
theorem im_X4_readSum : Cond.instanceMethod mX4_readSum.1 ∈ jtbl := jtbl_of (tb_4 _ (List.mem_of_getElem? (i := 39) rfl)) rfl
set_option maxRecDepth 100000 in
theorem se_X4_readSum : Cond.selects mX4_readSum.1.cls mX4_readSum.1 mX4_readSum.1 ∈ jtbl := jtbl_of (tb_0 _ (List.mem_of_getElem? (i := 22) rfl)) rfl
def mX4_readUnit : jMt := (yX4_readUnit, cX4_readUnit, 4, none)
set_option maxRecDepth 100000 in
theorem co_X4_readUnit : Cond.code mX4_readUnit.1 mX4_readUnit.2.1 mX4_readUnit.2.2.1 mX4_readUnit.2.2.2 ∈ jtbl := jtbl_of (tb_4 _ (List.mem_of_getElem? (i := 44) rfl)) rfl
theorem mw_X4_readUnit : jMw mX4_readUnit 1 := ⟨co_X4_readUnit, in_X4, by decide +kernel, by decide +kernel, by decide +kernel⟩
set_option maxRecDepth 100000 in
theorem im_X4_readUnit : Cond.instanceMethod mX4_readUnit.1 ∈ jtbl := jtbl_of (tb_4 _ (List.mem_of_getElem? (i := 43) rfl)) rfl
set_option maxRecDepth 100000 in
theorem se_X4_readUnit : Cond.selects mX4_readUnit.1.cls mX4_readUnit.1 mX4_readUnit.1 ∈ jtbl := jtbl_of (tb_0 _ (List.mem_of_getElem? (i := 23) rfl)) rfl
def mX4_putOff : jMt := (yX4_putOff, cX4_putOff, 2, none)
set_option maxRecDepth 100000 in
theorem co_X4_putOff : Cond.code mX4_putOff.1 mX4_putOff.2.1 mX4_putOff.2.2.1 mX4_putOff.2.2.2 ∈ jtbl := jtbl_of (tb_4 _ (List.mem_of_getElem? (i := 48) rfl)) rfl
theorem mw_X4_putOff : jMw mX4_putOff 1 := ⟨co_X4_putOff, in_X4, by decide +kernel, by decide +kernel, by decide +kernel⟩
set_option maxRecDepth 100000 in
theorem im_X4_putOff : Cond.instanceMethod mX4_putOff.1 ∈ jtbl := jtbl_of (tb_4 _ (List.mem_of_getElem? (i := 47) rfl)) rfl
set_option maxRecDepth 100000 in
theorem se_X4_putOff : Cond.selects mX4_putOff.1.cls mX4_putOff.1 mX4_putOff.1 ∈ jtbl := jtbl_of (tb_0 _ (List.mem_of_getElem? (i := 24) rfl)) rfl
def mX4_settle : jMt := (yX4_settle, cX4_settle, 3, none)
set_option maxRecDepth 100000 in
theorem co_X4_settle : Cond.code mX4_settle.1 mX4_settle.2.1 mX4_settle.2.2.1 mX4_settle.2.2.2 ∈ jtbl := jtbl_of (tb_4 _ (List.mem_of_getElem? (i := 54) rfl)) rfl
theorem mw_X4_settle : jMw mX4_settle 2 := ⟨co_X4_settle, in_X4, by decide +kernel, by decide +kernel, by decide +kernel⟩
set_option maxRecDepth 100000 in
theorem im_X4_settle : Cond.instanceMethod mX4_settle.1 ∈ jtbl := jtbl_of (tb_4 _ (List.mem_of_getElem? (i := 53) rfl)) rfl
set_option maxRecDepth 100000 in
theorem se_X4_settle : Cond.selects mX4_settle.1.cls mX4_settle.1 mX4_settle.1 ∈ jtbl := jtbl_of (tb_0 _ (List.mem_of_getElem? (i := 25) rfl)) rfl
def mX4_rankOf : jMt := (yX4_rankOf, cX4_rankOf, 1, (some .int))
set_option maxRecDepth 100000 in
theorem co_X4_rankOf : Cond.code mX4_rankOf.1 mX4_rankOf.2.1 mX4_rankOf.2.2.1 mX4_rankOf.2.2.2 ∈ jtbl := jtbl_of (tb_4 _ (List.mem_of_getElem? (i := 57) rfl)) rfl
theorem mw_X4_rankOf : jMw mX4_rankOf 1 := ⟨co_X4_rankOf, in_X4, by decide +kernel, by decide +kernel, by decide +kernel⟩
set_option maxRecDepth 100000 in
theorem sm_X4_rankOf : Cond.static mX4_rankOf.1 ∈ jtbl := jtbl_of (tb_4 _ (List.mem_of_getElem? (i := 56) rfl)) rfl
def mX4_workOf : jMt := (yX4_workOf, cX4_workOf, 1, (some .int))
set_option maxRecDepth 100000 in
theorem co_X4_workOf : Cond.code mX4_workOf.1 mX4_workOf.2.1 mX4_workOf.2.2.1 mX4_workOf.2.2.2 ∈ jtbl := jtbl_of (tb_4 _ (List.mem_of_getElem? (i := 60) rfl)) rfl
theorem mw_X4_workOf : jMw mX4_workOf 1 := ⟨co_X4_workOf, in_X4, by decide +kernel, by decide +kernel, by decide +kernel⟩
set_option maxRecDepth 100000 in
theorem sm_X4_workOf : Cond.static mX4_workOf.1 ∈ jtbl := jtbl_of (tb_4 _ (List.mem_of_getElem? (i := 59) rfl)) rfl
def mX4_readOperator : jMt := (yX4_readOperator, cX4_readOperator, 4, (some .boolean))
set_option maxRecDepth 100000 in
theorem co_X4_readOperator : Cond.code mX4_readOperator.1 mX4_readOperator.2.1 mX4_readOperator.2.2.1 mX4_readOperator.2.2.2 ∈ jtbl := jtbl_of (tb_4 _ (List.mem_of_getElem? (i := 65) rfl)) rfl
theorem mw_X4_readOperator : jMw mX4_readOperator 1 := ⟨co_X4_readOperator, in_X4, by decide +kernel, by decide +kernel, by decide +kernel⟩
set_option maxRecDepth 100000 in
theorem im_X4_readOperator : Cond.instanceMethod mX4_readOperator.1 ∈ jtbl := jtbl_of (tb_4 _ (List.mem_of_getElem? (i := 64) rfl)) rfl
set_option maxRecDepth 100000 in
theorem se_X4_readOperator : Cond.selects mX4_readOperator.1.cls mX4_readOperator.1 mX4_readOperator.1 ∈ jtbl := jtbl_of (tb_0 _ (List.mem_of_getElem? (i := 26) rfl)) rfl
def mX2_aim : jMt := (yX2_aim, cX2_aim, 2, none)
set_option maxRecDepth 100000 in
theorem co_X2_aim : Cond.code mX2_aim.1 mX2_aim.2.1 mX2_aim.2.2.1 mX2_aim.2.2.2 ∈ jtbl := jtbl_of (tb_4 _ (List.mem_of_getElem? (i := 69) rfl)) rfl
theorem mw_X2_aim : jMw mX2_aim 1 := ⟨co_X2_aim, in_X2, by decide +kernel, by decide +kernel, by decide +kernel⟩
set_option maxRecDepth 100000 in
theorem im_X2_aim : Cond.instanceMethod mX2_aim.1 ∈ jtbl := jtbl_of (tb_4 _ (List.mem_of_getElem? (i := 67) rfl)) rfl
set_option maxRecDepth 100000 in
theorem se_X2_aim : Cond.selects mX2_aim.1.cls mX2_aim.1 mX2_aim.1 ∈ jtbl := jtbl_of (tb_4 _ (List.mem_of_getElem? (i := 68) rfl)) rfl
def mX3_clear : jMt := (yX3_clear, cX3_clear, 1, none)
set_option maxRecDepth 100000 in
theorem co_X3_clear : Cond.code mX3_clear.1 mX3_clear.2.1 mX3_clear.2.2.1 mX3_clear.2.2.2 ∈ jtbl := jtbl_of (tb_4 _ (List.mem_of_getElem? (i := 73) rfl)) rfl
theorem mw_X3_clear : jMw mX3_clear 0 := ⟨co_X3_clear, in_X3, by decide +kernel, by decide +kernel, by decide +kernel⟩
set_option maxRecDepth 100000 in
theorem im_X3_clear : Cond.instanceMethod mX3_clear.1 ∈ jtbl := jtbl_of (tb_4 _ (List.mem_of_getElem? (i := 71) rfl)) rfl
set_option maxRecDepth 100000 in
theorem se_X3_clear : Cond.selects mX3_clear.1.cls mX3_clear.1 mX3_clear.1 ∈ jtbl := jtbl_of (tb_4 _ (List.mem_of_getElem? (i := 72) rfl)) rfl
def mX0_clear : jMt := (yX0_clear, cX0_clear, 1, none)
set_option maxRecDepth 100000 in
theorem co_X0_clear : Cond.code mX0_clear.1 mX0_clear.2.1 mX0_clear.2.2.1 mX0_clear.2.2.2 ∈ jtbl := jtbl_of (tb_4 _ (List.mem_of_getElem? (i := 77) rfl)) rfl
theorem mw_X0_clear : jMw mX0_clear 0 := ⟨co_X0_clear, in_X0, by decide +kernel, by decide +kernel, by decide +kernel⟩
set_option maxRecDepth 100000 in
theorem im_X0_clear : Cond.instanceMethod mX0_clear.1 ∈ jtbl := jtbl_of (tb_4 _ (List.mem_of_getElem? (i := 75) rfl)) rfl
set_option maxRecDepth 100000 in
theorem se_X0_clear : Cond.selects mX0_clear.1.cls mX0_clear.1 mX0_clear.1 ∈ jtbl := jtbl_of (tb_4 _ (List.mem_of_getElem? (i := 76) rfl)) rfl
def mX1_outdate : jMt := (yX1_outdate, cX1_outdate, 1, none)
set_option maxRecDepth 100000 in
theorem co_X1_outdate : Cond.code mX1_outdate.1 mX1_outdate.2.1 mX1_outdate.2.2.1 mX1_outdate.2.2.2 ∈ jtbl := jtbl_of (tb_4 _ (List.mem_of_getElem? (i := 81) rfl)) rfl
theorem mw_X1_outdate : jMw mX1_outdate 0 := ⟨co_X1_outdate, in_X1, by decide +kernel, by decide +kernel, by decide +kernel⟩
set_option maxRecDepth 100000 in
theorem im_X1_outdate : Cond.instanceMethod mX1_outdate.1 ∈ jtbl := jtbl_of (tb_4 _ (List.mem_of_getElem? (i := 79) rfl)) rfl
set_option maxRecDepth 100000 in
theorem se_X1_outdate : Cond.selects mX1_outdate.1.cls mX1_outdate.1 mX1_outdate.1 ∈ jtbl := jtbl_of (tb_4 _ (List.mem_of_getElem? (i := 80) rfl)) rfl
def mX11_place : jMt := (yX11_place, cX11_place, 1, (some .int))
set_option maxRecDepth 100000 in
theorem co_X11_place : Cond.code mX11_place.1 mX11_place.2.1 mX11_place.2.2.1 mX11_place.2.2.2 ∈ jtbl := jtbl_of (tb_4 _ (List.mem_of_getElem? (i := 85) rfl)) rfl
theorem mw_X11_place : jMw mX11_place 0 := ⟨co_X11_place, in_X11, by decide +kernel, by decide +kernel, by decide +kernel⟩
set_option maxRecDepth 100000 in
theorem im_X11_place : Cond.instanceMethod mX11_place.1 ∈ jtbl := jtbl_of (tb_4 _ (List.mem_of_getElem? (i := 83) rfl)) rfl
set_option maxRecDepth 100000 in
theorem se_X11_place : Cond.selects mX11_place.1.cls mX11_place.1 mX11_place.1 ∈ jtbl := jtbl_of (tb_4 _ (List.mem_of_getElem? (i := 84) rfl)) rfl
def mX11_road : jMt := (yX11_road, cX11_road, 4, (some .int))
set_option maxRecDepth 100000 in
theorem co_X11_road : Cond.code mX11_road.1 mX11_road.2.1 mX11_road.2.2.1 mX11_road.2.2.2 ∈ jtbl := jtbl_of (tb_4 _ (List.mem_of_getElem? (i := 89) rfl)) rfl
theorem mw_X11_road : jMw mX11_road 2 := ⟨co_X11_road, in_X11, by decide +kernel, by decide +kernel, by decide +kernel⟩
set_option maxRecDepth 100000 in
theorem im_X11_road : Cond.instanceMethod mX11_road.1 ∈ jtbl := jtbl_of (tb_4 _ (List.mem_of_getElem? (i := 87) rfl)) rfl
set_option maxRecDepth 100000 in
theorem se_X11_road : Cond.selects mX11_road.1.cls mX11_road.1 mX11_road.1 ∈ jtbl := jtbl_of (tb_4 _ (List.mem_of_getElem? (i := 88) rfl)) rfl
def mX11_isRoad : jMt := (yX11_isRoad, cX11_isRoad, 2, (some .boolean))
set_option maxRecDepth 100000 in
theorem co_X11_isRoad : Cond.code mX11_isRoad.1 mX11_isRoad.2.1 mX11_isRoad.2.2.1 mX11_isRoad.2.2.2 ∈ jtbl := jtbl_of (tb_4 _ (List.mem_of_getElem? (i := 93) rfl)) rfl
theorem mw_X11_isRoad : jMw mX11_isRoad 1 := ⟨co_X11_isRoad, in_X11, by decide +kernel, by decide +kernel, by decide +kernel⟩
set_option maxRecDepth 100000 in
theorem im_X11_isRoad : Cond.instanceMethod mX11_isRoad.1 ∈ jtbl := jtbl_of (tb_4 _ (List.mem_of_getElem? (i := 92) rfl)) rfl
set_option maxRecDepth 100000 in
theorem se_X11_isRoad : Cond.selects mX11_isRoad.1.cls mX11_isRoad.1 mX11_isRoad.1 ∈ jtbl := jtbl_of (tb_0 _ (List.mem_of_getElem? (i := 27) rfl)) rfl
def mX11_ghost : jMt := (yX11_ghost, cX11_ghost, 4, (some .int))
set_option maxRecDepth 100000 in
theorem co_X11_ghost : Cond.code mX11_ghost.1 mX11_ghost.2.1 mX11_ghost.2.2.1 mX11_ghost.2.2.2 ∈ jtbl := jtbl_of (tb_4 _ (List.mem_of_getElem? (i := 97) rfl)) rfl
theorem mw_X11_ghost : jMw mX11_ghost 2 := ⟨co_X11_ghost, in_X11, by decide +kernel, by decide +kernel, by decide +kernel⟩
set_option maxRecDepth 100000 in
theorem im_X11_ghost : Cond.instanceMethod mX11_ghost.1 ∈ jtbl := jtbl_of (tb_4 _ (List.mem_of_getElem? (i := 95) rfl)) rfl
set_option maxRecDepth 100000 in
theorem se_X11_ghost : Cond.selects mX11_ghost.1.cls mX11_ghost.1 mX11_ghost.1 ∈ jtbl := jtbl_of (tb_4 _ (List.mem_of_getElem? (i := 96) rfl)) rfl
def mX11_isGhost : jMt := (yX11_isGhost, cX11_isGhost, 2, (some .boolean))
set_option maxRecDepth 100000 in
theorem co_X11_isGhost : Cond.code mX11_isGhost.1 mX11_isGhost.2.1 mX11_isGhost.2.2.1 mX11_isGhost.2.2.2 ∈ jtbl := jtbl_of (tb_4 _ (List.mem_of_getElem? (i := 101) rfl)) rfl
theorem mw_X11_isGhost : jMw mX11_isGhost 1 := ⟨co_X11_isGhost, in_X11, by decide +kernel, by decide +kernel, by decide +kernel⟩
set_option maxRecDepth 100000 in
theorem im_X11_isGhost : Cond.instanceMethod mX11_isGhost.1 ∈ jtbl := jtbl_of (tb_4 _ (List.mem_of_getElem? (i := 100) rfl)) rfl
set_option maxRecDepth 100000 in
theorem se_X11_isGhost : Cond.selects mX11_isGhost.1.cls mX11_isGhost.1 mX11_isGhost.1 ∈ jtbl := jtbl_of (tb_0 _ (List.mem_of_getElem? (i := 28) rfl)) rfl
def mX8_isNightOf : jMt := (yX8_isNightOf, cX8_isNightOf, 4, (some .boolean))
set_option maxRecDepth 100000 in
theorem co_X8_isNightOf : Cond.code mX8_isNightOf.1 mX8_isNightOf.2.1 mX8_isNightOf.2.2.1 mX8_isNightOf.2.2.2 ∈ jtbl := jtbl_of (tb_4 _ (List.mem_of_getElem? (i := 105) rfl)) rfl
theorem mw_X8_isNightOf : jMw mX8_isNightOf 2 := ⟨co_X8_isNightOf, in_X8, by decide +kernel, by decide +kernel, by decide +kernel⟩
set_option maxRecDepth 100000 in
theorem im_X8_isNightOf : Cond.instanceMethod mX8_isNightOf.1 ∈ jtbl := jtbl_of (tb_4 _ (List.mem_of_getElem? (i := 103) rfl)) rfl
set_option maxRecDepth 100000 in
theorem se_X8_isNightOf : Cond.selects mX8_isNightOf.1.cls mX8_isNightOf.1 mX8_isNightOf.1 ∈ jtbl := jtbl_of (tb_4 _ (List.mem_of_getElem? (i := 104) rfl)) rfl
def mX11_cost : jMt := (yX11_cost, cX11_cost, 3, (some .int))
set_option maxRecDepth 100000 in
theorem co_X11_cost : Cond.code mX11_cost.1 mX11_cost.2.1 mX11_cost.2.2.1 mX11_cost.2.2.2 ∈ jtbl := jtbl_of (tb_4 _ (List.mem_of_getElem? (i := 109) rfl)) rfl
theorem mw_X11_cost : jMw mX11_cost 2 := ⟨co_X11_cost, in_X11, by decide +kernel, by decide +kernel, by decide +kernel⟩
set_option maxRecDepth 100000 in
theorem im_X11_cost : Cond.instanceMethod mX11_cost.1 ∈ jtbl := jtbl_of (tb_4 _ (List.mem_of_getElem? (i := 107) rfl)) rfl
set_option maxRecDepth 100000 in
theorem se_X11_cost : Cond.selects mX11_cost.1.cls mX11_cost.1 mX11_cost.1 ∈ jtbl := jtbl_of (tb_4 _ (List.mem_of_getElem? (i := 108) rfl)) rfl
def mX10_priceOf : jMt := (yX10_priceOf, cX10_priceOf, 5, (some .int))
set_option maxRecDepth 100000 in
theorem co_X10_priceOf : Cond.code mX10_priceOf.1 mX10_priceOf.2.1 mX10_priceOf.2.2.1 mX10_priceOf.2.2.2 ∈ jtbl := jtbl_of (tb_4 _ (List.mem_of_getElem? (i := 113) rfl)) rfl
theorem mw_X10_priceOf : jMw mX10_priceOf 2 := ⟨co_X10_priceOf, in_X10, by decide +kernel, by decide +kernel, by decide +kernel⟩
set_option maxRecDepth 100000 in
theorem im_X10_priceOf : Cond.instanceMethod mX10_priceOf.1 ∈ jtbl := jtbl_of (tb_4 _ (List.mem_of_getElem? (i := 111) rfl)) rfl
set_option maxRecDepth 100000 in
theorem se_X10_priceOf : Cond.selects mX10_priceOf.1.cls mX10_priceOf.1 mX10_priceOf.1 ∈ jtbl := jtbl_of (tb_4 _ (List.mem_of_getElem? (i := 112) rfl)) rfl
def mX11_way : jMt := (yX11_way, cX11_way, 4, (some .int))
set_option maxRecDepth 100000 in
theorem co_X11_way : Cond.code mX11_way.1 mX11_way.2.1 mX11_way.2.2.1 mX11_way.2.2.2 ∈ jtbl := jtbl_of (tb_4 _ (List.mem_of_getElem? (i := 117) rfl)) rfl
theorem mw_X11_way : jMw mX11_way 2 := ⟨co_X11_way, in_X11, by decide +kernel, by decide +kernel, by decide +kernel⟩
set_option maxRecDepth 100000 in
theorem im_X11_way : Cond.instanceMethod mX11_way.1 ∈ jtbl := jtbl_of (tb_4 _ (List.mem_of_getElem? (i := 115) rfl)) rfl
set_option maxRecDepth 100000 in
theorem se_X11_way : Cond.selects mX11_way.1.cls mX11_way.1 mX11_way.1 ∈ jtbl := jtbl_of (tb_4 _ (List.mem_of_getElem? (i := 116) rfl)) rfl
def mX10_findWay : jMt := (yX10_findWay, cX10_findWay, 5, (some .boolean))
set_option maxRecDepth 100000 in
theorem co_X10_findWay : Cond.code mX10_findWay.1 mX10_findWay.2.1 mX10_findWay.2.2.1 mX10_findWay.2.2.2 ∈ jtbl := jtbl_of (tb_4 _ (List.mem_of_getElem? (i := 121) rfl)) rfl
theorem mw_X10_findWay : jMw mX10_findWay 1 := ⟨co_X10_findWay, in_X10, by decide +kernel, by decide +kernel, by decide +kernel⟩
set_option maxRecDepth 100000 in
theorem im_X10_findWay : Cond.instanceMethod mX10_findWay.1 ∈ jtbl := jtbl_of (tb_4 _ (List.mem_of_getElem? (i := 119) rfl)) rfl
set_option maxRecDepth 100000 in
theorem se_X10_findWay : Cond.selects mX10_findWay.1.cls mX10_findWay.1 mX10_findWay.1 ∈ jtbl := jtbl_of (tb_4 _ (List.mem_of_getElem? (i := 120) rfl)) rfl
def mX9_setPrice : jMt := (yX9_setPrice, cX9_setPrice, 4, none)
set_option maxRecDepth 100000 in
theorem co_X9_setPrice : Cond.code mX9_setPrice.1 mX9_setPrice.2.1 mX9_setPrice.2.2.1 mX9_setPrice.2.2.2 ∈ jtbl := jtbl_of (tb_4 _ (List.mem_of_getElem? (i := 127) rfl)) rfl
theorem mw_X9_setPrice : jMw mX9_setPrice 2 := ⟨co_X9_setPrice, in_X9, by decide +kernel, by decide +kernel, by decide +kernel⟩
set_option maxRecDepth 100000 in
theorem im_X9_setPrice : Cond.instanceMethod mX9_setPrice.1 ∈ jtbl := jtbl_of (tb_4 _ (List.mem_of_getElem? (i := 125) rfl)) rfl
set_option maxRecDepth 100000 in
theorem se_X9_setPrice : Cond.selects mX9_setPrice.1.cls mX9_setPrice.1 mX9_setPrice.1 ∈ jtbl := jtbl_of (tb_4 _ (List.mem_of_getElem? (i := 126) rfl)) rfl
def mX9_seek : jMt := (yX9_seek, cX9_seek, 7, none)
set_option maxRecDepth 100000 in
theorem co_X9_seek : Cond.code mX9_seek.1 mX9_seek.2.1 mX9_seek.2.2.1 mX9_seek.2.2.2 ∈ jtbl := jtbl_of (tb_4 _ (List.mem_of_getElem? (i := 131) rfl)) rfl
theorem mw_X9_seek : jMw mX9_seek 2 := ⟨co_X9_seek, in_X9, by decide +kernel, by decide +kernel, by decide +kernel⟩
set_option maxRecDepth 100000 in
theorem im_X9_seek : Cond.instanceMethod mX9_seek.1 ∈ jtbl := jtbl_of (tb_4 _ (List.mem_of_getElem? (i := 129) rfl)) rfl
set_option maxRecDepth 100000 in
theorem se_X9_seek : Cond.selects mX9_seek.1.cls mX9_seek.1 mX9_seek.1 ∈ jtbl := jtbl_of (tb_4 _ (List.mem_of_getElem? (i := 130) rfl)) rfl
def mX9_measure : jMt := (yX9_measure, cX9_measure, 12, none)
set_option maxRecDepth 100000 in
theorem co_X9_measure : Cond.code mX9_measure.1 mX9_measure.2.1 mX9_measure.2.2.1 mX9_measure.2.2.2 ∈ jtbl := jtbl_of (tb_4 _ (List.mem_of_getElem? (i := 135) rfl)) rfl
theorem mw_X9_measure : jMw mX9_measure 2 := ⟨co_X9_measure, in_X9, by decide +kernel, by decide +kernel, by decide +kernel⟩
set_option maxRecDepth 100000 in
theorem im_X9_measure : Cond.instanceMethod mX9_measure.1 ∈ jtbl := jtbl_of (tb_4 _ (List.mem_of_getElem? (i := 134) rfl)) rfl
set_option maxRecDepth 100000 in
theorem se_X9_measure : Cond.selects mX9_measure.1.cls mX9_measure.1 mX9_measure.1 ∈ jtbl := jtbl_of (tb_0 _ (List.mem_of_getElem? (i := 29) rfl)) rfl
def mX9_isThere : jMt := (yX9_isThere, cX9_isThere, 1, (some .boolean))
set_option maxRecDepth 100000 in
theorem co_X9_isThere : Cond.code mX9_isThere.1 mX9_isThere.2.1 mX9_isThere.2.2.1 mX9_isThere.2.2.2 ∈ jtbl := jtbl_of (tb_4 _ (List.mem_of_getElem? (i := 141) rfl)) rfl
theorem mw_X9_isThere : jMw mX9_isThere 0 := ⟨co_X9_isThere, in_X9, by decide +kernel, by decide +kernel, by decide +kernel⟩
set_option maxRecDepth 100000 in
theorem im_X9_isThere : Cond.instanceMethod mX9_isThere.1 ∈ jtbl := jtbl_of (tb_4 _ (List.mem_of_getElem? (i := 139) rfl)) rfl
set_option maxRecDepth 100000 in
theorem se_X9_isThere : Cond.selects mX9_isThere.1.cls mX9_isThere.1 mX9_isThere.1 ∈ jtbl := jtbl_of (tb_4 _ (List.mem_of_getElem? (i := 140) rfl)) rfl
def mX9_stepFrom : jMt := (yX9_stepFrom, cX9_stepFrom, 5, (some .int))
set_option maxRecDepth 100000 in
theorem co_X9_stepFrom : Cond.code mX9_stepFrom.1 mX9_stepFrom.2.1 mX9_stepFrom.2.2.1 mX9_stepFrom.2.2.2 ∈ jtbl := jtbl_of (tb_4 _ (List.mem_of_getElem? (i := 145) rfl)) rfl
theorem mw_X9_stepFrom : jMw mX9_stepFrom 2 := ⟨co_X9_stepFrom, in_X9, by decide +kernel, by decide +kernel, by decide +kernel⟩
set_option maxRecDepth 100000 in
theorem im_X9_stepFrom : Cond.instanceMethod mX9_stepFrom.1 ∈ jtbl := jtbl_of (tb_4 _ (List.mem_of_getElem? (i := 144) rfl)) rfl
set_option maxRecDepth 100000 in
theorem se_X9_stepFrom : Cond.selects mX9_stepFrom.1.cls mX9_stepFrom.1 mX9_stepFrom.1 ∈ jtbl := jtbl_of (tb_0 _ (List.mem_of_getElem? (i := 30) rfl)) rfl
def mX10_hoursOf : jMt := (yX10_hoursOf, cX10_hoursOf, 4, (some .int))
set_option maxRecDepth 100000 in
theorem co_X10_hoursOf : Cond.code mX10_hoursOf.1 mX10_hoursOf.2.1 mX10_hoursOf.2.2.1 mX10_hoursOf.2.2.2 ∈ jtbl := jtbl_of (tb_4 _ (List.mem_of_getElem? (i := 150) rfl)) rfl
theorem mw_X10_hoursOf : jMw mX10_hoursOf 1 := ⟨co_X10_hoursOf, in_X10, by decide +kernel, by decide +kernel, by decide +kernel⟩
set_option maxRecDepth 100000 in
theorem im_X10_hoursOf : Cond.instanceMethod mX10_hoursOf.1 ∈ jtbl := jtbl_of (tb_4 _ (List.mem_of_getElem? (i := 148) rfl)) rfl
set_option maxRecDepth 100000 in
theorem se_X10_hoursOf : Cond.selects mX10_hoursOf.1.cls mX10_hoursOf.1 mX10_hoursOf.1 ∈ jtbl := jtbl_of (tb_4 _ (List.mem_of_getElem? (i := 149) rfl)) rfl
def mX10_paidOn : jMt := (yX10_paidOn, cX10_paidOn, 5, (some .int))
set_option maxRecDepth 100000 in
theorem co_X10_paidOn : Cond.code mX10_paidOn.1 mX10_paidOn.2.1 mX10_paidOn.2.2.1 mX10_paidOn.2.2.2 ∈ jtbl := jtbl_of (tb_4 _ (List.mem_of_getElem? (i := 154) rfl)) rfl
theorem mw_X10_paidOn : jMw mX10_paidOn 2 := ⟨co_X10_paidOn, in_X10, by decide +kernel, by decide +kernel, by decide +kernel⟩
set_option maxRecDepth 100000 in
theorem im_X10_paidOn : Cond.instanceMethod mX10_paidOn.1 ∈ jtbl := jtbl_of (tb_4 _ (List.mem_of_getElem? (i := 152) rfl)) rfl
set_option maxRecDepth 100000 in
theorem se_X10_paidOn : Cond.selects mX10_paidOn.1.cls mX10_paidOn.1 mX10_paidOn.1 ∈ jtbl := jtbl_of (tb_4 _ (List.mem_of_getElem? (i := 153) rfl)) rfl
def mX11_wayAt : jMt := (yX11_wayAt, cX11_wayAt, 4, (some .int))
set_option maxRecDepth 100000 in
theorem co_X11_wayAt : Cond.code mX11_wayAt.1 mX11_wayAt.2.1 mX11_wayAt.2.2.1 mX11_wayAt.2.2.2 ∈ jtbl := jtbl_of (tb_4 _ (List.mem_of_getElem? (i := 158) rfl)) rfl
theorem mw_X11_wayAt : jMw mX11_wayAt 2 := ⟨co_X11_wayAt, in_X11, by decide +kernel, by decide +kernel, by decide +kernel⟩
set_option maxRecDepth 100000 in
theorem im_X11_wayAt : Cond.instanceMethod mX11_wayAt.1 ∈ jtbl := jtbl_of (tb_4 _ (List.mem_of_getElem? (i := 156) rfl)) rfl
set_option maxRecDepth 100000 in
theorem se_X11_wayAt : Cond.selects mX11_wayAt.1.cls mX11_wayAt.1 mX11_wayAt.1 ∈ jtbl := jtbl_of (tb_4 _ (List.mem_of_getElem? (i := 157) rfl)) rfl
def mX11_gate : jMt := (yX11_gate, cX11_gate, 4, (some .boolean))
set_option maxRecDepth 100000 in
theorem co_X11_gate : Cond.code mX11_gate.1 mX11_gate.2.1 mX11_gate.2.2.1 mX11_gate.2.2.2 ∈ jtbl := jtbl_of (tb_4 _ (List.mem_of_getElem? (i := 162) rfl)) rfl
theorem mw_X11_gate : jMw mX11_gate 2 := ⟨co_X11_gate, in_X11, by decide +kernel, by decide +kernel, by decide +kernel⟩
set_option maxRecDepth 100000 in
theorem im_X11_gate : Cond.instanceMethod mX11_gate.1 ∈ jtbl := jtbl_of (tb_4 _ (List.mem_of_getElem? (i := 160) rfl)) rfl
set_option maxRecDepth 100000 in
theorem se_X11_gate : Cond.selects mX11_gate.1.cls mX11_gate.1 mX11_gate.1 ∈ jtbl := jtbl_of (tb_4 _ (List.mem_of_getElem? (i := 161) rfl)) rfl
def mX11_beginThing : jMt := (yX11_beginThing, cX11_beginThing, 1, none)
set_option maxRecDepth 100000 in
theorem co_X11_beginThing : Cond.code mX11_beginThing.1 mX11_beginThing.2.1 mX11_beginThing.2.2.1 mX11_beginThing.2.2.2 ∈ jtbl := jtbl_of (tb_4 _ (List.mem_of_getElem? (i := 166) rfl)) rfl
theorem mw_X11_beginThing : jMw mX11_beginThing 0 := ⟨co_X11_beginThing, in_X11, by decide +kernel, by decide +kernel, by decide +kernel⟩
set_option maxRecDepth 100000 in
theorem im_X11_beginThing : Cond.instanceMethod mX11_beginThing.1 ∈ jtbl := jtbl_of (tb_4 _ (List.mem_of_getElem? (i := 165) rfl)) rfl
set_option maxRecDepth 100000 in
theorem se_X11_beginThing : Cond.selects mX11_beginThing.1.cls mX11_beginThing.1 mX11_beginThing.1 ∈ jtbl := jtbl_of (tb_0 _ (List.mem_of_getElem? (i := 31) rfl)) rfl
def mX3_keep : jMt := (yX3_keep, cX3_keep, 2, none)
set_option maxRecDepth 100000 in
theorem co_X3_keep : Cond.code mX3_keep.1 mX3_keep.2.1 mX3_keep.2.2.1 mX3_keep.2.2.2 ∈ jtbl := jtbl_of (tb_4 _ (List.mem_of_getElem? (i := 170) rfl)) rfl
theorem mw_X3_keep : jMw mX3_keep 1 := ⟨co_X3_keep, in_X3, by decide +kernel, by decide +kernel, by decide +kernel⟩
set_option maxRecDepth 100000 in
theorem im_X3_keep : Cond.instanceMethod mX3_keep.1 ∈ jtbl := jtbl_of (tb_4 _ (List.mem_of_getElem? (i := 168) rfl)) rfl
set_option maxRecDepth 100000 in
theorem se_X3_keep : Cond.selects mX3_keep.1.cls mX3_keep.1 mX3_keep.1 ∈ jtbl := jtbl_of (tb_4 _ (List.mem_of_getElem? (i := 169) rfl)) rfl
def mX11_rate : jMt := (yX11_rate, cX11_rate, 2, (some .boolean))
set_option maxRecDepth 100000 in
theorem co_X11_rate : Cond.code mX11_rate.1 mX11_rate.2.1 mX11_rate.2.2.1 mX11_rate.2.2.2 ∈ jtbl := jtbl_of (tb_4 _ (List.mem_of_getElem? (i := 178) rfl)) rfl
theorem mw_X11_rate : jMw mX11_rate 1 := ⟨co_X11_rate, in_X11, by decide +kernel, by decide +kernel, by decide +kernel⟩
set_option maxRecDepth 100000 in
theorem im_X11_rate : Cond.instanceMethod mX11_rate.1 ∈ jtbl := jtbl_of (tb_4 _ (List.mem_of_getElem? (i := 176) rfl)) rfl
set_option maxRecDepth 100000 in
theorem se_X11_rate : Cond.selects mX11_rate.1.cls mX11_rate.1 mX11_rate.1 ∈ jtbl := jtbl_of (tb_4 _ (List.mem_of_getElem? (i := 177) rfl)) rfl
def mX11_mend : jMt := (yX11_mend, cX11_mend, 4, (some .int))
set_option maxRecDepth 100000 in
theorem co_X11_mend : Cond.code mX11_mend.1 mX11_mend.2.1 mX11_mend.2.2.1 mX11_mend.2.2.2 ∈ jtbl := jtbl_of (tb_4 _ (List.mem_of_getElem? (i := 183) rfl)) rfl
theorem mw_X11_mend : jMw mX11_mend 1 := ⟨co_X11_mend, in_X11, by decide +kernel, by decide +kernel, by decide +kernel⟩
set_option maxRecDepth 100000 in
theorem im_X11_mend : Cond.instanceMethod mX11_mend.1 ∈ jtbl := jtbl_of (tb_4 _ (List.mem_of_getElem? (i := 181) rfl)) rfl
set_option maxRecDepth 100000 in
theorem se_X11_mend : Cond.selects mX11_mend.1.cls mX11_mend.1 mX11_mend.1 ∈ jtbl := jtbl_of (tb_4 _ (List.mem_of_getElem? (i := 182) rfl)) rfl
def mX11_nights : jMt := (yX11_nights, cX11_nights, 2, (some .int))
set_option maxRecDepth 100000 in
theorem co_X11_nights : Cond.code mX11_nights.1 mX11_nights.2.1 mX11_nights.2.2.1 mX11_nights.2.2.2 ∈ jtbl := jtbl_of (tb_4 _ (List.mem_of_getElem? (i := 187) rfl)) rfl
theorem mw_X11_nights : jMw mX11_nights 1 := ⟨co_X11_nights, in_X11, by decide +kernel, by decide +kernel, by decide +kernel⟩
set_option maxRecDepth 100000 in
theorem im_X11_nights : Cond.instanceMethod mX11_nights.1 ∈ jtbl := jtbl_of (tb_4 _ (List.mem_of_getElem? (i := 185) rfl)) rfl
set_option maxRecDepth 100000 in
theorem se_X11_nights : Cond.selects mX11_nights.1.cls mX11_nights.1 mX11_nights.1 ∈ jtbl := jtbl_of (tb_4 _ (List.mem_of_getElem? (i := 186) rfl)) rfl
def mX10_passNights : jMt := (yX10_passNights, cX10_passNights, 3, none)
set_option maxRecDepth 100000 in
theorem co_X10_passNights : Cond.code mX10_passNights.1 mX10_passNights.2.1 mX10_passNights.2.2.1 mX10_passNights.2.2.2 ∈ jtbl := jtbl_of (tb_4 _ (List.mem_of_getElem? (i := 191) rfl)) rfl
theorem mw_X10_passNights : jMw mX10_passNights 1 := ⟨co_X10_passNights, in_X10, by decide +kernel, by decide +kernel, by decide +kernel⟩
set_option maxRecDepth 100000 in
theorem im_X10_passNights : Cond.instanceMethod mX10_passNights.1 ∈ jtbl := jtbl_of (tb_4 _ (List.mem_of_getElem? (i := 189) rfl)) rfl
set_option maxRecDepth 100000 in
theorem se_X10_passNights : Cond.selects mX10_passNights.1.cls mX10_passNights.1 mX10_passNights.1 ∈ jtbl := jtbl_of (tb_4 _ (List.mem_of_getElem? (i := 190) rfl)) rfl
def mX10_passNight : jMt := (yX10_passNight, cX10_passNight, 4, none)
set_option maxRecDepth 100000 in
theorem co_X10_passNight : Cond.code mX10_passNight.1 mX10_passNight.2.1 mX10_passNight.2.2.1 mX10_passNight.2.2.2 ∈ jtbl := jtbl_of (tb_4 _ (List.mem_of_getElem? (i := 195) rfl)) rfl
theorem mw_X10_passNight : jMw mX10_passNight 0 := ⟨co_X10_passNight, in_X10, by decide +kernel, by decide +kernel, by decide +kernel⟩
set_option maxRecDepth 100000 in
theorem im_X10_passNight : Cond.instanceMethod mX10_passNight.1 ∈ jtbl := jtbl_of (tb_4 _ (List.mem_of_getElem? (i := 193) rfl)) rfl
set_option maxRecDepth 100000 in
theorem se_X10_passNight : Cond.selects mX10_passNight.1.cls mX10_passNight.1 mX10_passNight.1 ∈ jtbl := jtbl_of (tb_4 _ (List.mem_of_getElem? (i := 194) rfl)) rfl
def mX10_walk : jMt := (yX10_walk, cX10_walk, 10, none)
set_option maxRecDepth 100000 in
theorem co_X10_walk : Cond.code mX10_walk.1 mX10_walk.2.1 mX10_walk.2.2.1 mX10_walk.2.2.2 ∈ jtbl := jtbl_of (tb_4 _ (List.mem_of_getElem? (i := 201) rfl)) rfl
theorem mw_X10_walk : jMw mX10_walk 1 := ⟨co_X10_walk, in_X10, by decide +kernel, by decide +kernel, by decide +kernel⟩
set_option maxRecDepth 100000 in
theorem im_X10_walk : Cond.instanceMethod mX10_walk.1 ∈ jtbl := jtbl_of (tb_4 _ (List.mem_of_getElem? (i := 200) rfl)) rfl
set_option maxRecDepth 100000 in
theorem se_X10_walk : Cond.selects mX10_walk.1.cls mX10_walk.1 mX10_walk.1 ∈ jtbl := jtbl_of (tb_0 _ (List.mem_of_getElem? (i := 32) rfl)) rfl
def mX11_undo : jMt := (yX11_undo, cX11_undo, 1, (some .boolean))
set_option maxRecDepth 100000 in
theorem co_X11_undo : Cond.code mX11_undo.1 mX11_undo.2.1 mX11_undo.2.2.1 mX11_undo.2.2.2 ∈ jtbl := jtbl_of (tb_4 _ (List.mem_of_getElem? (i := 206) rfl)) rfl
theorem mw_X11_undo : jMw mX11_undo 0 := ⟨co_X11_undo, in_X11, by decide +kernel, by decide +kernel, by decide +kernel⟩
set_option maxRecDepth 100000 in
theorem im_X11_undo : Cond.instanceMethod mX11_undo.1 ∈ jtbl := jtbl_of (tb_4 _ (List.mem_of_getElem? (i := 204) rfl)) rfl
set_option maxRecDepth 100000 in
theorem se_X11_undo : Cond.selects mX11_undo.1.cls mX11_undo.1 mX11_undo.1 ∈ jtbl := jtbl_of (tb_4 _ (List.mem_of_getElem? (i := 205) rfl)) rfl
def mX3_takeBack : jMt := (yX3_takeBack, cX3_takeBack, 2, (some .boolean))
set_option maxRecDepth 100000 in
theorem co_X3_takeBack : Cond.code mX3_takeBack.1 mX3_takeBack.2.1 mX3_takeBack.2.2.1 mX3_takeBack.2.2.2 ∈ jtbl := jtbl_of (tb_4 _ (List.mem_of_getElem? (i := 210) rfl)) rfl
theorem mw_X3_takeBack : jMw mX3_takeBack 1 := ⟨co_X3_takeBack, in_X3, by decide +kernel, by decide +kernel, by decide +kernel⟩
set_option maxRecDepth 100000 in
theorem im_X3_takeBack : Cond.instanceMethod mX3_takeBack.1 ∈ jtbl := jtbl_of (tb_4 _ (List.mem_of_getElem? (i := 208) rfl)) rfl
set_option maxRecDepth 100000 in
theorem se_X3_takeBack : Cond.selects mX3_takeBack.1.cls mX3_takeBack.1 mX3_takeBack.1 ∈ jtbl := jtbl_of (tb_4 _ (List.mem_of_getElem? (i := 209) rfl)) rfl
def mX11_tonight : jMt := (yX11_tonight, cX11_tonight, 2, (some .int))
set_option maxRecDepth 100000 in
theorem co_X11_tonight : Cond.code mX11_tonight.1 mX11_tonight.2.1 mX11_tonight.2.2.1 mX11_tonight.2.2.2 ∈ jtbl := jtbl_of (tb_4 _ (List.mem_of_getElem? (i := 214) rfl)) rfl
theorem mw_X11_tonight : jMw mX11_tonight 1 := ⟨co_X11_tonight, in_X11, by decide +kernel, by decide +kernel, by decide +kernel⟩
set_option maxRecDepth 100000 in
theorem im_X11_tonight : Cond.instanceMethod mX11_tonight.1 ∈ jtbl := jtbl_of (tb_4 _ (List.mem_of_getElem? (i := 212) rfl)) rfl
set_option maxRecDepth 100000 in
theorem se_X11_tonight : Cond.selects mX11_tonight.1.cls mX11_tonight.1 mX11_tonight.1 ∈ jtbl := jtbl_of (tb_4 _ (List.mem_of_getElem? (i := 213) rfl)) rfl
def mX1_startAnew : jMt := (yX1_startAnew, cX1_startAnew, 1, none)
set_option maxRecDepth 100000 in
theorem co_X1_startAnew : Cond.code mX1_startAnew.1 mX1_startAnew.2.1 mX1_startAnew.2.2.1 mX1_startAnew.2.2.2 ∈ jtbl := jtbl_of (tb_4 _ (List.mem_of_getElem? (i := 218) rfl)) rfl
theorem mw_X1_startAnew : jMw mX1_startAnew 0 := ⟨co_X1_startAnew, in_X1, by decide +kernel, by decide +kernel, by decide +kernel⟩
set_option maxRecDepth 100000 in
theorem im_X1_startAnew : Cond.instanceMethod mX1_startAnew.1 ∈ jtbl := jtbl_of (tb_4 _ (List.mem_of_getElem? (i := 216) rfl)) rfl
set_option maxRecDepth 100000 in
theorem se_X1_startAnew : Cond.selects mX1_startAnew.1.cls mX1_startAnew.1 mX1_startAnew.1 ∈ jtbl := jtbl_of (tb_4 _ (List.mem_of_getElem? (i := 217) rfl)) rfl
def mX5_copy : jMt := (yX5_copy, cX5_copy, 2, none)
set_option maxRecDepth 100000 in
theorem co_X5_copy : Cond.code mX5_copy.1 mX5_copy.2.1 mX5_copy.2.2.1 mX5_copy.2.2.2 ∈ jtbl := jtbl_of (tb_4 _ (List.mem_of_getElem? (i := 222) rfl)) rfl
theorem mw_X5_copy : jMw mX5_copy 1 := ⟨co_X5_copy, in_X5, by decide +kernel, by decide +kernel, by decide +kernel⟩
set_option maxRecDepth 100000 in
theorem im_X5_copy : Cond.instanceMethod mX5_copy.1 ∈ jtbl := jtbl_of (tb_4 _ (List.mem_of_getElem? (i := 220) rfl)) rfl
set_option maxRecDepth 100000 in
theorem se_X5_copy : Cond.selects mX5_copy.1.cls mX5_copy.1 mX5_copy.1 ∈ jtbl := jtbl_of (tb_4 _ (List.mem_of_getElem? (i := 221) rfl)) rfl
def mX1_run : jMt := (yX1_run, cX1_run, 3, none)
set_option maxRecDepth 100000 in
theorem co_X1_run : Cond.code mX1_run.1 mX1_run.2.1 mX1_run.2.2.1 mX1_run.2.2.2 ∈ jtbl := jtbl_of (tb_4 _ (List.mem_of_getElem? (i := 227) rfl)) rfl
theorem mw_X1_run : jMw mX1_run 1 := ⟨co_X1_run, in_X1, by decide +kernel, by decide +kernel, by decide +kernel⟩
set_option maxRecDepth 100000 in
theorem im_X1_run : Cond.instanceMethod mX1_run.1 ∈ jtbl := jtbl_of (tb_4 _ (List.mem_of_getElem? (i := 225) rfl)) rfl
set_option maxRecDepth 100000 in
theorem se_X1_run : Cond.selects mX1_run.1.cls mX1_run.1 mX1_run.1 ∈ jtbl := jtbl_of (tb_4 _ (List.mem_of_getElem? (i := 226) rfl)) rfl
def mX1_grown : jMt := (yX1_grown, cX1_grown, 5, (some .int))
set_option maxRecDepth 100000 in
theorem co_X1_grown : Cond.code mX1_grown.1 mX1_grown.2.1 mX1_grown.2.2.1 mX1_grown.2.2.2 ∈ jtbl := jtbl_of (tb_4 _ (List.mem_of_getElem? (i := 233) rfl)) rfl
theorem mw_X1_grown : jMw mX1_grown 2 := ⟨co_X1_grown, in_X1, by decide +kernel, by decide +kernel, by decide +kernel⟩
set_option maxRecDepth 100000 in
theorem im_X1_grown : Cond.instanceMethod mX1_grown.1 ∈ jtbl := jtbl_of (tb_4 _ (List.mem_of_getElem? (i := 231) rfl)) rfl
set_option maxRecDepth 100000 in
theorem se_X1_grown : Cond.selects mX1_grown.1.cls mX1_grown.1 mX1_grown.1 ∈ jtbl := jtbl_of (tb_4 _ (List.mem_of_getElem? (i := 232) rfl)) rfl
def mX11_put : jMt := (yX11_put, cX11_put, 5, (some .int))
set_option maxRecDepth 100000 in
theorem co_X11_put : Cond.code mX11_put.1 mX11_put.2.1 mX11_put.2.2.1 mX11_put.2.2.2 ∈ jtbl := jtbl_of (tb_4 _ (List.mem_of_getElem? (i := 237) rfl)) rfl
theorem mw_X11_put : jMw mX11_put 3 := ⟨co_X11_put, in_X11, by decide +kernel, by decide +kernel, by decide +kernel⟩
set_option maxRecDepth 100000 in
theorem im_X11_put : Cond.instanceMethod mX11_put.1 ∈ jtbl := jtbl_of (tb_4 _ (List.mem_of_getElem? (i := 235) rfl)) rfl
set_option maxRecDepth 100000 in
theorem se_X11_put : Cond.selects mX11_put.1.cls mX11_put.1 mX11_put.1 ∈ jtbl := jtbl_of (tb_4 _ (List.mem_of_getElem? (i := 236) rfl)) rfl
def mX1_seekGates : jMt := (yX1_seekGates, cX1_seekGates, 5, none)
set_option maxRecDepth 100000 in
theorem co_X1_seekGates : Cond.code mX1_seekGates.1 mX1_seekGates.2.1 mX1_seekGates.2.2.1 mX1_seekGates.2.2.2 ∈ jtbl := jtbl_of (tb_5 _ (List.mem_of_getElem? (i := 1) rfl)) rfl
theorem mw_X1_seekGates : jMw mX1_seekGates 2 := ⟨co_X1_seekGates, in_X1, by decide +kernel, by decide +kernel, by decide +kernel⟩
set_option maxRecDepth 100000 in
theorem im_X1_seekGates : Cond.instanceMethod mX1_seekGates.1 ∈ jtbl := jtbl_of (tb_4 _ (List.mem_of_getElem? (i := 239) rfl)) rfl
set_option maxRecDepth 100000 in
theorem se_X1_seekGates : Cond.selects mX1_seekGates.1.cls mX1_seekGates.1 mX1_seekGates.1 ∈ jtbl := jtbl_of (tb_5 _ (List.mem_of_getElem? (i := 0) rfl)) rfl
def mX1_isAnswered : jMt := (yX1_isAnswered, cX1_isAnswered, 2, (some .boolean))
set_option maxRecDepth 100000 in
theorem co_X1_isAnswered : Cond.code mX1_isAnswered.1 mX1_isAnswered.2.1 mX1_isAnswered.2.2.1 mX1_isAnswered.2.2.2 ∈ jtbl := jtbl_of (tb_5 _ (List.mem_of_getElem? (i := 5) rfl)) rfl
theorem mw_X1_isAnswered : jMw mX1_isAnswered 1 := ⟨co_X1_isAnswered, in_X1, by decide +kernel, by decide +kernel, by decide +kernel⟩
set_option maxRecDepth 100000 in
theorem im_X1_isAnswered : Cond.instanceMethod mX1_isAnswered.1 ∈ jtbl := jtbl_of (tb_5 _ (List.mem_of_getElem? (i := 4) rfl)) rfl
set_option maxRecDepth 100000 in
theorem se_X1_isAnswered : Cond.selects mX1_isAnswered.1.cls mX1_isAnswered.1 mX1_isAnswered.1 ∈ jtbl := jtbl_of (tb_0 _ (List.mem_of_getElem? (i := 33) rfl)) rfl
def mJI_bitCount : jMt := ((⟨"java/lang/Integer", "bitCount", "(I)I"⟩ : MethodName), prog_15_method_49_code, 1, (some .int))
set_option maxRecDepth 100000 in
theorem co_JI_bitCount : Cond.code mJI_bitCount.1 mJI_bitCount.2.1 mJI_bitCount.2.2.1 mJI_bitCount.2.2.2 ∈ jtbl := jtbl_of (tb_5 _ (List.mem_of_getElem? (i := 8) rfl)) rfl
theorem mw_JI_bitCount : jMw mJI_bitCount 1 := ⟨co_JI_bitCount, in_JI, by decide +kernel, by decide +kernel, by decide +kernel⟩
set_option maxRecDepth 100000 in
theorem sm_JI_bitCount : Cond.static mJI_bitCount.1 ∈ jtbl := jtbl_of (tb_5 _ (List.mem_of_getElem? (i := 7) rfl)) rfl
def mX1_keepMost : jMt := (yX1_keepMost, cX1_keepMost, 3, none)
set_option maxRecDepth 100000 in
theorem co_X1_keepMost : Cond.code mX1_keepMost.1 mX1_keepMost.2.1 mX1_keepMost.2.2.1 mX1_keepMost.2.2.2 ∈ jtbl := jtbl_of (tb_5 _ (List.mem_of_getElem? (i := 18) rfl)) rfl
theorem mw_X1_keepMost : jMw mX1_keepMost 2 := ⟨co_X1_keepMost, in_X1, by decide +kernel, by decide +kernel, by decide +kernel⟩
set_option maxRecDepth 100000 in
theorem im_X1_keepMost : Cond.instanceMethod mX1_keepMost.1 ∈ jtbl := jtbl_of (tb_5 _ (List.mem_of_getElem? (i := 17) rfl)) rfl
set_option maxRecDepth 100000 in
theorem se_X1_keepMost : Cond.selects mX1_keepMost.1.cls mX1_keepMost.1 mX1_keepMost.1 ∈ jtbl := jtbl_of (tb_0 _ (List.mem_of_getElem? (i := 34) rfl)) rfl
def mX11_free : jMt := (yX11_free, cX11_free, 1, (some .int))
set_option maxRecDepth 100000 in
theorem co_X11_free : Cond.code mX11_free.1 mX11_free.2.1 mX11_free.2.2.1 mX11_free.2.2.2 ∈ jtbl := jtbl_of (tb_5 _ (List.mem_of_getElem? (i := 22) rfl)) rfl
theorem mw_X11_free : jMw mX11_free 0 := ⟨co_X11_free, in_X11, by decide +kernel, by decide +kernel, by decide +kernel⟩
set_option maxRecDepth 100000 in
theorem im_X11_free : Cond.instanceMethod mX11_free.1 ∈ jtbl := jtbl_of (tb_5 _ (List.mem_of_getElem? (i := 20) rfl)) rfl
set_option maxRecDepth 100000 in
theorem se_X11_free : Cond.selects mX11_free.1.cls mX11_free.1 mX11_free.1 ∈ jtbl := jtbl_of (tb_5 _ (List.mem_of_getElem? (i := 21) rfl)) rfl
def mX10_freeGhosts : jMt := (yX10_freeGhosts, cX10_freeGhosts, 3, (some .int))
set_option maxRecDepth 100000 in
theorem co_X10_freeGhosts : Cond.code mX10_freeGhosts.1 mX10_freeGhosts.2.1 mX10_freeGhosts.2.2.1 mX10_freeGhosts.2.2.2 ∈ jtbl := jtbl_of (tb_5 _ (List.mem_of_getElem? (i := 26) rfl)) rfl
theorem mw_X10_freeGhosts : jMw mX10_freeGhosts 0 := ⟨co_X10_freeGhosts, in_X10, by decide +kernel, by decide +kernel, by decide +kernel⟩
set_option maxRecDepth 100000 in
theorem im_X10_freeGhosts : Cond.instanceMethod mX10_freeGhosts.1 ∈ jtbl := jtbl_of (tb_5 _ (List.mem_of_getElem? (i := 24) rfl)) rfl
set_option maxRecDepth 100000 in
theorem se_X10_freeGhosts : Cond.selects mX10_freeGhosts.1.cls mX10_freeGhosts.1 mX10_freeGhosts.1 ∈ jtbl := jtbl_of (tb_5 _ (List.mem_of_getElem? (i := 25) rfl)) rfl
def mX11_stop : jMt := (yX11_stop, cX11_stop, 2, (some .int))
set_option maxRecDepth 100000 in
theorem co_X11_stop : Cond.code mX11_stop.1 mX11_stop.2.1 mX11_stop.2.2.1 mX11_stop.2.2.2 ∈ jtbl := jtbl_of (tb_5 _ (List.mem_of_getElem? (i := 30) rfl)) rfl
theorem mw_X11_stop : jMw mX11_stop 1 := ⟨co_X11_stop, in_X11, by decide +kernel, by decide +kernel, by decide +kernel⟩
set_option maxRecDepth 100000 in
theorem im_X11_stop : Cond.instanceMethod mX11_stop.1 ∈ jtbl := jtbl_of (tb_5 _ (List.mem_of_getElem? (i := 28) rfl)) rfl
set_option maxRecDepth 100000 in
theorem se_X11_stop : Cond.selects mX11_stop.1.cls mX11_stop.1 mX11_stop.1 ∈ jtbl := jtbl_of (tb_5 _ (List.mem_of_getElem? (i := 29) rfl)) rfl
def mX1_seekStop : jMt := (yX1_seekStop, cX1_seekStop, 1, none)
set_option maxRecDepth 100000 in
theorem co_X1_seekStop : Cond.code mX1_seekStop.1 mX1_seekStop.2.1 mX1_seekStop.2.2.1 mX1_seekStop.2.2.2 ∈ jtbl := jtbl_of (tb_5 _ (List.mem_of_getElem? (i := 34) rfl)) rfl
theorem mw_X1_seekStop : jMw mX1_seekStop 0 := ⟨co_X1_seekStop, in_X1, by decide +kernel, by decide +kernel, by decide +kernel⟩
set_option maxRecDepth 100000 in
theorem im_X1_seekStop : Cond.instanceMethod mX1_seekStop.1 ∈ jtbl := jtbl_of (tb_5 _ (List.mem_of_getElem? (i := 32) rfl)) rfl
set_option maxRecDepth 100000 in
theorem se_X1_seekStop : Cond.selects mX1_seekStop.1.cls mX1_seekStop.1 mX1_seekStop.1 ∈ jtbl := jtbl_of (tb_5 _ (List.mem_of_getElem? (i := 33) rfl)) rfl
def mX1_findOpenRoads : jMt := (yX1_findOpenRoads, cX1_findOpenRoads, 2, none)
set_option maxRecDepth 100000 in
theorem co_X1_findOpenRoads : Cond.code mX1_findOpenRoads.1 mX1_findOpenRoads.2.1 mX1_findOpenRoads.2.2.1 mX1_findOpenRoads.2.2.2 ∈ jtbl := jtbl_of (tb_5 _ (List.mem_of_getElem? (i := 38) rfl)) rfl
theorem mw_X1_findOpenRoads : jMw mX1_findOpenRoads 0 := ⟨co_X1_findOpenRoads, in_X1, by decide +kernel, by decide +kernel, by decide +kernel⟩
set_option maxRecDepth 100000 in
theorem im_X1_findOpenRoads : Cond.instanceMethod mX1_findOpenRoads.1 ∈ jtbl := jtbl_of (tb_5 _ (List.mem_of_getElem? (i := 37) rfl)) rfl
set_option maxRecDepth 100000 in
theorem se_X1_findOpenRoads : Cond.selects mX1_findOpenRoads.1.cls mX1_findOpenRoads.1 mX1_findOpenRoads.1 ∈ jtbl := jtbl_of (tb_0 _ (List.mem_of_getElem? (i := 35) rfl)) rfl
def mX1_fewestGates : jMt := (yX1_fewestGates, cX1_fewestGates, 4, (some .int))
set_option maxRecDepth 100000 in
theorem co_X1_fewestGates : Cond.code mX1_fewestGates.1 mX1_fewestGates.2.1 mX1_fewestGates.2.2.1 mX1_fewestGates.2.2.2 ∈ jtbl := jtbl_of (tb_5 _ (List.mem_of_getElem? (i := 43) rfl)) rfl
theorem mw_X1_fewestGates : jMw mX1_fewestGates 0 := ⟨co_X1_fewestGates, in_X1, by decide +kernel, by decide +kernel, by decide +kernel⟩
set_option maxRecDepth 100000 in
theorem im_X1_fewestGates : Cond.instanceMethod mX1_fewestGates.1 ∈ jtbl := jtbl_of (tb_5 _ (List.mem_of_getElem? (i := 42) rfl)) rfl
set_option maxRecDepth 100000 in
theorem se_X1_fewestGates : Cond.selects mX1_fewestGates.1.cls mX1_fewestGates.1 mX1_fewestGates.1 ∈ jtbl := jtbl_of (tb_0 _ (List.mem_of_getElem? (i := 36) rfl)) rfl
def mX1_leavesNobodyFree : jMt := (yX1_leavesNobodyFree, cX1_leavesNobodyFree, 4, (some .boolean))
set_option maxRecDepth 100000 in
theorem co_X1_leavesNobodyFree : Cond.code mX1_leavesNobodyFree.1 mX1_leavesNobodyFree.2.1 mX1_leavesNobodyFree.2.2.1 mX1_leavesNobodyFree.2.2.2 ∈ jtbl := jtbl_of (tb_5 _ (List.mem_of_getElem? (i := 47) rfl)) rfl
theorem mw_X1_leavesNobodyFree : jMw mX1_leavesNobodyFree 1 := ⟨co_X1_leavesNobodyFree, in_X1, by decide +kernel, by decide +kernel, by decide +kernel⟩
set_option maxRecDepth 100000 in
theorem im_X1_leavesNobodyFree : Cond.instanceMethod mX1_leavesNobodyFree.1 ∈ jtbl := jtbl_of (tb_5 _ (List.mem_of_getElem? (i := 46) rfl)) rfl
set_option maxRecDepth 100000 in
theorem se_X1_leavesNobodyFree : Cond.selects mX1_leavesNobodyFree.1.cls mX1_leavesNobodyFree.1 mX1_leavesNobodyFree.1 ∈ jtbl := jtbl_of (tb_0 _ (List.mem_of_getElem? (i := 37) rfl)) rfl
def mX10_changeGates : jMt := (yX10_changeGates, cX10_changeGates, 2, none)
set_option maxRecDepth 100000 in
theorem co_X10_changeGates : Cond.code mX10_changeGates.1 mX10_changeGates.2.1 mX10_changeGates.2.2.1 mX10_changeGates.2.2.2 ∈ jtbl := jtbl_of (tb_5 _ (List.mem_of_getElem? (i := 51) rfl)) rfl
theorem mw_X10_changeGates : jMw mX10_changeGates 1 := ⟨co_X10_changeGates, in_X10, by decide +kernel, by decide +kernel, by decide +kernel⟩
set_option maxRecDepth 100000 in
theorem im_X10_changeGates : Cond.instanceMethod mX10_changeGates.1 ∈ jtbl := jtbl_of (tb_5 _ (List.mem_of_getElem? (i := 49) rfl)) rfl
set_option maxRecDepth 100000 in
theorem se_X10_changeGates : Cond.selects mX10_changeGates.1.cls mX10_changeGates.1 mX10_changeGates.1 ∈ jtbl := jtbl_of (tb_5 _ (List.mem_of_getElem? (i := 50) rfl)) rfl
def mX11_saves : jMt := (yX11_saves, cX11_saves, 2, (some .int))
set_option maxRecDepth 100000 in
theorem co_X11_saves : Cond.code mX11_saves.1 mX11_saves.2.1 mX11_saves.2.2.1 mX11_saves.2.2.2 ∈ jtbl := jtbl_of (tb_5 _ (List.mem_of_getElem? (i := 55) rfl)) rfl
theorem mw_X11_saves : jMw mX11_saves 1 := ⟨co_X11_saves, in_X11, by decide +kernel, by decide +kernel, by decide +kernel⟩
set_option maxRecDepth 100000 in
theorem im_X11_saves : Cond.instanceMethod mX11_saves.1 ∈ jtbl := jtbl_of (tb_5 _ (List.mem_of_getElem? (i := 53) rfl)) rfl
set_option maxRecDepth 100000 in
theorem se_X11_saves : Cond.selects mX11_saves.1.cls mX11_saves.1 mX11_saves.1 ∈ jtbl := jtbl_of (tb_5 _ (List.mem_of_getElem? (i := 54) rfl)) rfl
def mX1_costWithoutGates : jMt := (yX1_costWithoutGates, cX1_costWithoutGates, 2, (some .int))
set_option maxRecDepth 100000 in
theorem co_X1_costWithoutGates : Cond.code mX1_costWithoutGates.1 mX1_costWithoutGates.2.1 mX1_costWithoutGates.2.2.1 mX1_costWithoutGates.2.2.2 ∈ jtbl := jtbl_of (tb_5 _ (List.mem_of_getElem? (i := 59) rfl)) rfl
theorem mw_X1_costWithoutGates : jMw mX1_costWithoutGates 1 := ⟨co_X1_costWithoutGates, in_X1, by decide +kernel, by decide +kernel, by decide +kernel⟩
set_option maxRecDepth 100000 in
theorem im_X1_costWithoutGates : Cond.instanceMethod mX1_costWithoutGates.1 ∈ jtbl := jtbl_of (tb_5 _ (List.mem_of_getElem? (i := 57) rfl)) rfl
set_option maxRecDepth 100000 in
theorem se_X1_costWithoutGates : Cond.selects mX1_costWithoutGates.1.cls mX1_costWithoutGates.1 mX1_costWithoutGates.1 ∈ jtbl := jtbl_of (tb_5 _ (List.mem_of_getElem? (i := 58) rfl)) rfl
def mX11_pays : jMt := (yX11_pays, cX11_pays, 3, (some .int))
set_option maxRecDepth 100000 in
theorem co_X11_pays : Cond.code mX11_pays.1 mX11_pays.2.1 mX11_pays.2.2.1 mX11_pays.2.2.2 ∈ jtbl := jtbl_of (tb_5 _ (List.mem_of_getElem? (i := 63) rfl)) rfl
theorem mw_X11_pays : jMw mX11_pays 2 := ⟨co_X11_pays, in_X11, by decide +kernel, by decide +kernel, by decide +kernel⟩
set_option maxRecDepth 100000 in
theorem im_X11_pays : Cond.instanceMethod mX11_pays.1 ∈ jtbl := jtbl_of (tb_5 _ (List.mem_of_getElem? (i := 61) rfl)) rfl
set_option maxRecDepth 100000 in
theorem se_X11_pays : Cond.selects mX11_pays.1.cls mX11_pays.1 mX11_pays.1 ∈ jtbl := jtbl_of (tb_5 _ (List.mem_of_getElem? (i := 62) rfl)) rfl
def mX11_seen : jMt := (yX11_seen, cX11_seen, 3, (some .int))
set_option maxRecDepth 100000 in
theorem co_X11_seen : Cond.code mX11_seen.1 mX11_seen.2.1 mX11_seen.2.2.1 mX11_seen.2.2.2 ∈ jtbl := jtbl_of (tb_5 _ (List.mem_of_getElem? (i := 67) rfl)) rfl
theorem mw_X11_seen : jMw mX11_seen 2 := ⟨co_X11_seen, in_X11, by decide +kernel, by decide +kernel, by decide +kernel⟩
set_option maxRecDepth 100000 in
theorem im_X11_seen : Cond.instanceMethod mX11_seen.1 ∈ jtbl := jtbl_of (tb_5 _ (List.mem_of_getElem? (i := 65) rfl)) rfl
set_option maxRecDepth 100000 in
theorem se_X11_seen : Cond.selects mX11_seen.1.cls mX11_seen.1 mX11_seen.1 ∈ jtbl := jtbl_of (tb_5 _ (List.mem_of_getElem? (i := 66) rfl)) rfl
def mX11_busiest : jMt := (yX11_busiest, cX11_busiest, 3, (some .int))
set_option maxRecDepth 100000 in
theorem co_X11_busiest : Cond.code mX11_busiest.1 mX11_busiest.2.1 mX11_busiest.2.2.1 mX11_busiest.2.2.2 ∈ jtbl := jtbl_of (tb_5 _ (List.mem_of_getElem? (i := 71) rfl)) rfl
theorem mw_X11_busiest : jMw mX11_busiest 2 := ⟨co_X11_busiest, in_X11, by decide +kernel, by decide +kernel, by decide +kernel⟩
set_option maxRecDepth 100000 in
theorem im_X11_busiest : Cond.instanceMethod mX11_busiest.1 ∈ jtbl := jtbl_of (tb_5 _ (List.mem_of_getElem? (i := 69) rfl)) rfl
set_option maxRecDepth 100000 in
theorem se_X11_busiest : Cond.selects mX11_busiest.1.cls mX11_busiest.1 mX11_busiest.1 ∈ jtbl := jtbl_of (tb_5 _ (List.mem_of_getElem? (i := 70) rfl)) rfl
def mX1_seekBusiest : jMt := (yX1_seekBusiest, cX1_seekBusiest, 3, none)
set_option maxRecDepth 100000 in
theorem co_X1_seekBusiest : Cond.code mX1_seekBusiest.1 mX1_seekBusiest.2.1 mX1_seekBusiest.2.2.1 mX1_seekBusiest.2.2.2 ∈ jtbl := jtbl_of (tb_5 _ (List.mem_of_getElem? (i := 75) rfl)) rfl
theorem mw_X1_seekBusiest : jMw mX1_seekBusiest 1 := ⟨co_X1_seekBusiest, in_X1, by decide +kernel, by decide +kernel, by decide +kernel⟩
set_option maxRecDepth 100000 in
theorem im_X1_seekBusiest : Cond.instanceMethod mX1_seekBusiest.1 ∈ jtbl := jtbl_of (tb_5 _ (List.mem_of_getElem? (i := 73) rfl)) rfl
set_option maxRecDepth 100000 in
theorem se_X1_seekBusiest : Cond.selects mX1_seekBusiest.1.cls mX1_seekBusiest.1 mX1_seekBusiest.1 ∈ jtbl := jtbl_of (tb_5 _ (List.mem_of_getElem? (i := 74) rfl)) rfl
def mX11_best : jMt := (yX11_best, cX11_best, 3, (some .int))
set_option maxRecDepth 100000 in
theorem co_X11_best : Cond.code mX11_best.1 mX11_best.2.1 mX11_best.2.2.1 mX11_best.2.2.2 ∈ jtbl := jtbl_of (tb_5 _ (List.mem_of_getElem? (i := 79) rfl)) rfl
theorem mw_X11_best : jMw mX11_best 2 := ⟨co_X11_best, in_X11, by decide +kernel, by decide +kernel, by decide +kernel⟩
set_option maxRecDepth 100000 in
theorem im_X11_best : Cond.instanceMethod mX11_best.1 ∈ jtbl := jtbl_of (tb_5 _ (List.mem_of_getElem? (i := 77) rfl)) rfl
set_option maxRecDepth 100000 in
theorem se_X11_best : Cond.selects mX11_best.1.cls mX11_best.1 mX11_best.1 ∈ jtbl := jtbl_of (tb_5 _ (List.mem_of_getElem? (i := 78) rfl)) rfl
def mX1_seekRate : jMt := (yX1_seekRate, cX1_seekRate, 3, none)
set_option maxRecDepth 100000 in
theorem co_X1_seekRate : Cond.code mX1_seekRate.1 mX1_seekRate.2.1 mX1_seekRate.2.2.1 mX1_seekRate.2.2.2 ∈ jtbl := jtbl_of (tb_5 _ (List.mem_of_getElem? (i := 83) rfl)) rfl
theorem mw_X1_seekRate : jMw mX1_seekRate 1 := ⟨co_X1_seekRate, in_X1, by decide +kernel, by decide +kernel, by decide +kernel⟩
set_option maxRecDepth 100000 in
theorem im_X1_seekRate : Cond.instanceMethod mX1_seekRate.1 ∈ jtbl := jtbl_of (tb_5 _ (List.mem_of_getElem? (i := 81) rfl)) rfl
set_option maxRecDepth 100000 in
theorem se_X1_seekRate : Cond.selects mX1_seekRate.1.cls mX1_seekRate.1 mX1_seekRate.1 ∈ jtbl := jtbl_of (tb_5 _ (List.mem_of_getElem? (i := 82) rfl)) rfl
def mX11_keepers : jMt := (yX11_keepers, cX11_keepers, 3, (some .int))
set_option maxRecDepth 100000 in
theorem co_X11_keepers : Cond.code mX11_keepers.1 mX11_keepers.2.1 mX11_keepers.2.2.1 mX11_keepers.2.2.2 ∈ jtbl := jtbl_of (tb_5 _ (List.mem_of_getElem? (i := 88) rfl)) rfl
theorem mw_X11_keepers : jMw mX11_keepers 2 := ⟨co_X11_keepers, in_X11, by decide +kernel, by decide +kernel, by decide +kernel⟩
set_option maxRecDepth 100000 in
theorem im_X11_keepers : Cond.instanceMethod mX11_keepers.1 ∈ jtbl := jtbl_of (tb_5 _ (List.mem_of_getElem? (i := 86) rfl)) rfl
set_option maxRecDepth 100000 in
theorem se_X11_keepers : Cond.selects mX11_keepers.1.cls mX11_keepers.1 mX11_keepers.1 ∈ jtbl := jtbl_of (tb_5 _ (List.mem_of_getElem? (i := 87) rfl)) rfl
def mX1_takeByKeepers : jMt := (yX1_takeByKeepers, cX1_takeByKeepers, 5, none)
set_option maxRecDepth 100000 in
theorem co_X1_takeByKeepers : Cond.code mX1_takeByKeepers.1 mX1_takeByKeepers.2.1 mX1_takeByKeepers.2.2.1 mX1_takeByKeepers.2.2.2 ∈ jtbl := jtbl_of (tb_5 _ (List.mem_of_getElem? (i := 92) rfl)) rfl
theorem mw_X1_takeByKeepers : jMw mX1_takeByKeepers 1 := ⟨co_X1_takeByKeepers, in_X1, by decide +kernel, by decide +kernel, by decide +kernel⟩
set_option maxRecDepth 100000 in
theorem im_X1_takeByKeepers : Cond.instanceMethod mX1_takeByKeepers.1 ∈ jtbl := jtbl_of (tb_5 _ (List.mem_of_getElem? (i := 90) rfl)) rfl
set_option maxRecDepth 100000 in
theorem se_X1_takeByKeepers : Cond.selects mX1_takeByKeepers.1.cls mX1_takeByKeepers.1 mX1_takeByKeepers.1 ∈ jtbl := jtbl_of (tb_5 _ (List.mem_of_getElem? (i := 91) rfl)) rfl
def mX1_rest : jMt := (yX1_rest, cX1_rest, 4, (some .int))
set_option maxRecDepth 100000 in
theorem co_X1_rest : Cond.code mX1_rest.1 mX1_rest.2.1 mX1_rest.2.2.1 mX1_rest.2.2.2 ∈ jtbl := jtbl_of (tb_5 _ (List.mem_of_getElem? (i := 96) rfl)) rfl
theorem mw_X1_rest : jMw mX1_rest 1 := ⟨co_X1_rest, in_X1, by decide +kernel, by decide +kernel, by decide +kernel⟩
set_option maxRecDepth 100000 in
theorem im_X1_rest : Cond.instanceMethod mX1_rest.1 ∈ jtbl := jtbl_of (tb_5 _ (List.mem_of_getElem? (i := 94) rfl)) rfl
set_option maxRecDepth 100000 in
theorem se_X1_rest : Cond.selects mX1_rest.1.cls mX1_rest.1 mX1_rest.1 ∈ jtbl := jtbl_of (tb_5 _ (List.mem_of_getElem? (i := 95) rfl)) rfl
def mX1_bothRest : jMt := (yX1_bothRest, cX1_bothRest, 5, (some .boolean))
set_option maxRecDepth 100000 in
theorem co_X1_bothRest : Cond.code mX1_bothRest.1 mX1_bothRest.2.1 mX1_bothRest.2.2.1 mX1_bothRest.2.2.2 ∈ jtbl := jtbl_of (tb_5 _ (List.mem_of_getElem? (i := 100) rfl)) rfl
theorem mw_X1_bothRest : jMw mX1_bothRest 1 := ⟨co_X1_bothRest, in_X1, by decide +kernel, by decide +kernel, by decide +kernel⟩
set_option maxRecDepth 100000 in
theorem im_X1_bothRest : Cond.instanceMethod mX1_bothRest.1 ∈ jtbl := jtbl_of (tb_5 _ (List.mem_of_getElem? (i := 99) rfl)) rfl
set_option maxRecDepth 100000 in
theorem se_X1_bothRest : Cond.selects mX1_bothRest.1.cls mX1_bothRest.1 mX1_bothRest.1 ∈ jtbl := jtbl_of (tb_0 _ (List.mem_of_getElem? (i := 38) rfl)) rfl
def mX11_breaks : jMt := (yX11_breaks, cX11_breaks, 2, (some .int))
set_option maxRecDepth 100000 in
theorem co_X11_breaks : Cond.code mX11_breaks.1 mX11_breaks.2.1 mX11_breaks.2.2.1 mX11_breaks.2.2.2 ∈ jtbl := jtbl_of (tb_5 _ (List.mem_of_getElem? (i := 104) rfl)) rfl
theorem mw_X11_breaks : jMw mX11_breaks 1 := ⟨co_X11_breaks, in_X11, by decide +kernel, by decide +kernel, by decide +kernel⟩
set_option maxRecDepth 100000 in
theorem im_X11_breaks : Cond.instanceMethod mX11_breaks.1 ∈ jtbl := jtbl_of (tb_5 _ (List.mem_of_getElem? (i := 102) rfl)) rfl
set_option maxRecDepth 100000 in
theorem se_X11_breaks : Cond.selects mX11_breaks.1.cls mX11_breaks.1 mX11_breaks.1 ∈ jtbl := jtbl_of (tb_5 _ (List.mem_of_getElem? (i := 103) rfl)) rfl
def mX1_nightsUntilBroken : jMt := (yX1_nightsUntilBroken, cX1_nightsUntilBroken, 3, (some .int))
set_option maxRecDepth 100000 in
theorem co_X1_nightsUntilBroken : Cond.code mX1_nightsUntilBroken.1 mX1_nightsUntilBroken.2.1 mX1_nightsUntilBroken.2.2.1 mX1_nightsUntilBroken.2.2.2 ∈ jtbl := jtbl_of (tb_5 _ (List.mem_of_getElem? (i := 108) rfl)) rfl
theorem mw_X1_nightsUntilBroken : jMw mX1_nightsUntilBroken 1 := ⟨co_X1_nightsUntilBroken, in_X1, by decide +kernel, by decide +kernel, by decide +kernel⟩
set_option maxRecDepth 100000 in
theorem im_X1_nightsUntilBroken : Cond.instanceMethod mX1_nightsUntilBroken.1 ∈ jtbl := jtbl_of (tb_5 _ (List.mem_of_getElem? (i := 106) rfl)) rfl
set_option maxRecDepth 100000 in
theorem se_X1_nightsUntilBroken : Cond.selects mX1_nightsUntilBroken.1.cls mX1_nightsUntilBroken.1 mX1_nightsUntilBroken.1 ∈ jtbl := jtbl_of (tb_5 _ (List.mem_of_getElem? (i := 107) rfl)) rfl
def mX11_first : jMt := (yX11_first, cX11_first, 2, (some .int))
set_option maxRecDepth 100000 in
theorem co_X11_first : Cond.code mX11_first.1 mX11_first.2.1 mX11_first.2.2.1 mX11_first.2.2.2 ∈ jtbl := jtbl_of (tb_5 _ (List.mem_of_getElem? (i := 112) rfl)) rfl
theorem mw_X11_first : jMw mX11_first 1 := ⟨co_X11_first, in_X11, by decide +kernel, by decide +kernel, by decide +kernel⟩
set_option maxRecDepth 100000 in
theorem im_X11_first : Cond.instanceMethod mX11_first.1 ∈ jtbl := jtbl_of (tb_5 _ (List.mem_of_getElem? (i := 110) rfl)) rfl
set_option maxRecDepth 100000 in
theorem se_X11_first : Cond.selects mX11_first.1.cls mX11_first.1 mX11_first.1 ∈ jtbl := jtbl_of (tb_5 _ (List.mem_of_getElem? (i := 111) rfl)) rfl
def mX1_seekFirstBroken : jMt := (yX1_seekFirstBroken, cX1_seekFirstBroken, 4, none)
set_option maxRecDepth 100000 in
theorem co_X1_seekFirstBroken : Cond.code mX1_seekFirstBroken.1 mX1_seekFirstBroken.2.1 mX1_seekFirstBroken.2.2.1 mX1_seekFirstBroken.2.2.2 ∈ jtbl := jtbl_of (tb_5 _ (List.mem_of_getElem? (i := 116) rfl)) rfl
theorem mw_X1_seekFirstBroken : jMw mX1_seekFirstBroken 0 := ⟨co_X1_seekFirstBroken, in_X1, by decide +kernel, by decide +kernel, by decide +kernel⟩
set_option maxRecDepth 100000 in
theorem im_X1_seekFirstBroken : Cond.instanceMethod mX1_seekFirstBroken.1 ∈ jtbl := jtbl_of (tb_5 _ (List.mem_of_getElem? (i := 114) rfl)) rfl
set_option maxRecDepth 100000 in
theorem se_X1_seekFirstBroken : Cond.selects mX1_seekFirstBroken.1.cls mX1_seekFirstBroken.1 mX1_seekFirstBroken.1 ∈ jtbl := jtbl_of (tb_5 _ (List.mem_of_getElem? (i := 115) rfl)) rfl
def mX1_firstBit : jMt := (yX1_firstBit, cX1_firstBit, 2, (some .int))
set_option maxRecDepth 100000 in
theorem co_X1_firstBit : Cond.code mX1_firstBit.1 mX1_firstBit.2.1 mX1_firstBit.2.2.1 mX1_firstBit.2.2.2 ∈ jtbl := jtbl_of (tb_5 _ (List.mem_of_getElem? (i := 119) rfl)) rfl
theorem mw_X1_firstBit : jMw mX1_firstBit 1 := ⟨co_X1_firstBit, in_X1, by decide +kernel, by decide +kernel, by decide +kernel⟩
set_option maxRecDepth 100000 in
theorem sm_X1_firstBit : Cond.static mX1_firstBit.1 ∈ jtbl := jtbl_of (tb_5 _ (List.mem_of_getElem? (i := 118) rfl)) rfl
def mX11_meets : jMt := (yX11_meets, cX11_meets, 5, (some .int))
set_option maxRecDepth 100000 in
theorem co_X11_meets : Cond.code mX11_meets.1 mX11_meets.2.1 mX11_meets.2.2.1 mX11_meets.2.2.2 ∈ jtbl := jtbl_of (tb_5 _ (List.mem_of_getElem? (i := 123) rfl)) rfl
theorem mw_X11_meets : jMw mX11_meets 2 := ⟨co_X11_meets, in_X11, by decide +kernel, by decide +kernel, by decide +kernel⟩
set_option maxRecDepth 100000 in
theorem im_X11_meets : Cond.instanceMethod mX11_meets.1 ∈ jtbl := jtbl_of (tb_5 _ (List.mem_of_getElem? (i := 121) rfl)) rfl
set_option maxRecDepth 100000 in
theorem se_X11_meets : Cond.selects mX11_meets.1.cls mX11_meets.1 mX11_meets.1 ∈ jtbl := jtbl_of (tb_5 _ (List.mem_of_getElem? (i := 122) rfl)) rfl
def mX11_cutOff : jMt := (yX11_cutOff, cX11_cutOff, 2, (some .int))
set_option maxRecDepth 100000 in
theorem co_X11_cutOff : Cond.code mX11_cutOff.1 mX11_cutOff.2.1 mX11_cutOff.2.2.1 mX11_cutOff.2.2.2 ∈ jtbl := jtbl_of (tb_5 _ (List.mem_of_getElem? (i := 127) rfl)) rfl
theorem mw_X11_cutOff : jMw mX11_cutOff 1 := ⟨co_X11_cutOff, in_X11, by decide +kernel, by decide +kernel, by decide +kernel⟩
set_option maxRecDepth 100000 in
theorem im_X11_cutOff : Cond.instanceMethod mX11_cutOff.1 ∈ jtbl := jtbl_of (tb_5 _ (List.mem_of_getElem? (i := 125) rfl)) rfl
set_option maxRecDepth 100000 in
theorem se_X11_cutOff : Cond.selects mX11_cutOff.1.cls mX11_cutOff.1 mX11_cutOff.1 ∈ jtbl := jtbl_of (tb_5 _ (List.mem_of_getElem? (i := 126) rfl)) rfl
def mX1_nightsUntilCutOff : jMt := (yX1_nightsUntilCutOff, cX1_nightsUntilCutOff, 3, (some .int))
set_option maxRecDepth 100000 in
theorem co_X1_nightsUntilCutOff : Cond.code mX1_nightsUntilCutOff.1 mX1_nightsUntilCutOff.2.1 mX1_nightsUntilCutOff.2.2.1 mX1_nightsUntilCutOff.2.2.2 ∈ jtbl := jtbl_of (tb_5 _ (List.mem_of_getElem? (i := 131) rfl)) rfl
theorem mw_X1_nightsUntilCutOff : jMw mX1_nightsUntilCutOff 1 := ⟨co_X1_nightsUntilCutOff, in_X1, by decide +kernel, by decide +kernel, by decide +kernel⟩
set_option maxRecDepth 100000 in
theorem im_X1_nightsUntilCutOff : Cond.instanceMethod mX1_nightsUntilCutOff.1 ∈ jtbl := jtbl_of (tb_5 _ (List.mem_of_getElem? (i := 129) rfl)) rfl
set_option maxRecDepth 100000 in
theorem se_X1_nightsUntilCutOff : Cond.selects mX1_nightsUntilCutOff.1.cls mX1_nightsUntilCutOff.1 mX1_nightsUntilCutOff.1 ∈ jtbl := jtbl_of (tb_5 _ (List.mem_of_getElem? (i := 130) rfl)) rfl
def mX11_year : jMt := (yX11_year, cX11_year, 3, (some .int))
set_option maxRecDepth 100000 in
theorem co_X11_year : Cond.code mX11_year.1 mX11_year.2.1 mX11_year.2.2.1 mX11_year.2.2.2 ∈ jtbl := jtbl_of (tb_5 _ (List.mem_of_getElem? (i := 135) rfl)) rfl
theorem mw_X11_year : jMw mX11_year 2 := ⟨co_X11_year, in_X11, by decide +kernel, by decide +kernel, by decide +kernel⟩
set_option maxRecDepth 100000 in
theorem im_X11_year : Cond.instanceMethod mX11_year.1 ∈ jtbl := jtbl_of (tb_5 _ (List.mem_of_getElem? (i := 133) rfl)) rfl
set_option maxRecDepth 100000 in
theorem se_X11_year : Cond.selects mX11_year.1.cls mX11_year.1 mX11_year.1 ∈ jtbl := jtbl_of (tb_5 _ (List.mem_of_getElem? (i := 134) rfl)) rfl
def mX1_growthBySeeds : jMt := (yX1_growthBySeeds, cX1_growthBySeeds, 5, (some .int))
set_option maxRecDepth 100000 in
theorem co_X1_growthBySeeds : Cond.code mX1_growthBySeeds.1 mX1_growthBySeeds.2.1 mX1_growthBySeeds.2.2.1 mX1_growthBySeeds.2.2.2 ∈ jtbl := jtbl_of (tb_5 _ (List.mem_of_getElem? (i := 139) rfl)) rfl
theorem mw_X1_growthBySeeds : jMw mX1_growthBySeeds 2 := ⟨co_X1_growthBySeeds, in_X1, by decide +kernel, by decide +kernel, by decide +kernel⟩
set_option maxRecDepth 100000 in
theorem im_X1_growthBySeeds : Cond.instanceMethod mX1_growthBySeeds.1 ∈ jtbl := jtbl_of (tb_5 _ (List.mem_of_getElem? (i := 137) rfl)) rfl
set_option maxRecDepth 100000 in
theorem se_X1_growthBySeeds : Cond.selects mX1_growthBySeeds.1.cls mX1_growthBySeeds.1 mX1_growthBySeeds.1 ∈ jtbl := jtbl_of (tb_5 _ (List.mem_of_getElem? (i := 138) rfl)) rfl
def mX8_hangsOnSeed : jMt := (yX8_hangsOnSeed, cX8_hangsOnSeed, 2, (some .boolean))
set_option maxRecDepth 100000 in
theorem co_X8_hangsOnSeed : Cond.code mX8_hangsOnSeed.1 mX8_hangsOnSeed.2.1 mX8_hangsOnSeed.2.2.1 mX8_hangsOnSeed.2.2.2 ∈ jtbl := jtbl_of (tb_5 _ (List.mem_of_getElem? (i := 143) rfl)) rfl
theorem mw_X8_hangsOnSeed : jMw mX8_hangsOnSeed 0 := ⟨co_X8_hangsOnSeed, in_X8, by decide +kernel, by decide +kernel, by decide +kernel⟩
set_option maxRecDepth 100000 in
theorem im_X8_hangsOnSeed : Cond.instanceMethod mX8_hangsOnSeed.1 ∈ jtbl := jtbl_of (tb_5 _ (List.mem_of_getElem? (i := 141) rfl)) rfl
set_option maxRecDepth 100000 in
theorem se_X8_hangsOnSeed : Cond.selects mX8_hangsOnSeed.1.cls mX8_hangsOnSeed.1 mX8_hangsOnSeed.1 ∈ jtbl := jtbl_of (tb_5 _ (List.mem_of_getElem? (i := 142) rfl)) rfl
def mX2_looksAtFog : jMt := (yX2_looksAtFog, cX2_looksAtFog, 1, (some .boolean))
set_option maxRecDepth 100000 in
theorem co_X2_looksAtFog : Cond.code mX2_looksAtFog.1 mX2_looksAtFog.2.1 mX2_looksAtFog.2.2.1 mX2_looksAtFog.2.2.2 ∈ jtbl := jtbl_of (tb_5 _ (List.mem_of_getElem? (i := 147) rfl)) rfl
theorem mw_X2_looksAtFog : jMw mX2_looksAtFog 0 := ⟨co_X2_looksAtFog, in_X2, by decide +kernel, by decide +kernel, by decide +kernel⟩
set_option maxRecDepth 100000 in
theorem im_X2_looksAtFog : Cond.instanceMethod mX2_looksAtFog.1 ∈ jtbl := jtbl_of (tb_5 _ (List.mem_of_getElem? (i := 145) rfl)) rfl
set_option maxRecDepth 100000 in
theorem se_X2_looksAtFog : Cond.selects mX2_looksAtFog.1.cls mX2_looksAtFog.1 mX2_looksAtFog.1 ∈ jtbl := jtbl_of (tb_5 _ (List.mem_of_getElem? (i := 146) rfl)) rfl
def mX11_sheet : jMt := (yX11_sheet, cX11_sheet, 3, (some .int))
set_option maxRecDepth 100000 in
theorem co_X11_sheet : Cond.code mX11_sheet.1 mX11_sheet.2.1 mX11_sheet.2.2.1 mX11_sheet.2.2.2 ∈ jtbl := jtbl_of (tb_5 _ (List.mem_of_getElem? (i := 151) rfl)) rfl
theorem mw_X11_sheet : jMw mX11_sheet 2 := ⟨co_X11_sheet, in_X11, by decide +kernel, by decide +kernel, by decide +kernel⟩
set_option maxRecDepth 100000 in
theorem im_X11_sheet : Cond.instanceMethod mX11_sheet.1 ∈ jtbl := jtbl_of (tb_5 _ (List.mem_of_getElem? (i := 149) rfl)) rfl
set_option maxRecDepth 100000 in
theorem se_X11_sheet : Cond.selects mX11_sheet.1.cls mX11_sheet.1 mX11_sheet.1 ∈ jtbl := jtbl_of (tb_5 _ (List.mem_of_getElem? (i := 150) rfl)) rfl
def mX8_sheetChance : jMt := (yX8_sheetChance, cX8_sheetChance, 8, (some .int))
set_option maxRecDepth 100000 in
theorem co_X8_sheetChance : Cond.code mX8_sheetChance.1 mX8_sheetChance.2.1 mX8_sheetChance.2.2.1 mX8_sheetChance.2.2.2 ∈ jtbl := jtbl_of (tb_5 _ (List.mem_of_getElem? (i := 155) rfl)) rfl
theorem mw_X8_sheetChance : jMw mX8_sheetChance 2 := ⟨co_X8_sheetChance, in_X8, by decide +kernel, by decide +kernel, by decide +kernel⟩
set_option maxRecDepth 100000 in
theorem im_X8_sheetChance : Cond.instanceMethod mX8_sheetChance.1 ∈ jtbl := jtbl_of (tb_5 _ (List.mem_of_getElem? (i := 153) rfl)) rfl
set_option maxRecDepth 100000 in
theorem se_X8_sheetChance : Cond.selects mX8_sheetChance.1.cls mX8_sheetChance.1 mX8_sheetChance.1 ∈ jtbl := jtbl_of (tb_5 _ (List.mem_of_getElem? (i := 154) rfl)) rfl
def mX8_greatestShared : jMt := (yX8_greatestShared, cX8_greatestShared, 6, (some .int))
set_option maxRecDepth 100000 in
theorem co_X8_greatestShared : Cond.code mX8_greatestShared.1 mX8_greatestShared.2.1 mX8_greatestShared.2.2.1 mX8_greatestShared.2.2.2 ∈ jtbl := jtbl_of (tb_5 _ (List.mem_of_getElem? (i := 158) rfl)) rfl
theorem mw_X8_greatestShared : jMw mX8_greatestShared 2 := ⟨co_X8_greatestShared, in_X8, by decide +kernel, by decide +kernel, by decide +kernel⟩
set_option maxRecDepth 100000 in
theorem sm_X8_greatestShared : Cond.static mX8_greatestShared.1 ∈ jtbl := jtbl_of (tb_5 _ (List.mem_of_getElem? (i := 157) rfl)) rfl
def mX11_tell : jMt := (yX11_tell, cX11_tell, 5, (some .int))
set_option maxRecDepth 100000 in
theorem co_X11_tell : Cond.code mX11_tell.1 mX11_tell.2.1 mX11_tell.2.2.1 mX11_tell.2.2.2 ∈ jtbl := jtbl_of (tb_5 _ (List.mem_of_getElem? (i := 162) rfl)) rfl
theorem mw_X11_tell : jMw mX11_tell 3 := ⟨co_X11_tell, in_X11, by decide +kernel, by decide +kernel, by decide +kernel⟩
set_option maxRecDepth 100000 in
theorem im_X11_tell : Cond.instanceMethod mX11_tell.1 ∈ jtbl := jtbl_of (tb_5 _ (List.mem_of_getElem? (i := 160) rfl)) rfl
set_option maxRecDepth 100000 in
theorem se_X11_tell : Cond.selects mX11_tell.1.cls mX11_tell.1 mX11_tell.1 ∈ jtbl := jtbl_of (tb_5 _ (List.mem_of_getElem? (i := 161) rfl)) rfl
def mX0_add : jMt := (yX0_add, cX0_add, 4, (some .int))
set_option maxRecDepth 100000 in
theorem co_X0_add : Cond.code mX0_add.1 mX0_add.2.1 mX0_add.2.2.1 mX0_add.2.2.2 ∈ jtbl := jtbl_of (tb_5 _ (List.mem_of_getElem? (i := 166) rfl)) rfl
theorem mw_X0_add : jMw mX0_add 3 := ⟨co_X0_add, in_X0, by decide +kernel, by decide +kernel, by decide +kernel⟩
set_option maxRecDepth 100000 in
theorem im_X0_add : Cond.instanceMethod mX0_add.1 ∈ jtbl := jtbl_of (tb_5 _ (List.mem_of_getElem? (i := 164) rfl)) rfl
set_option maxRecDepth 100000 in
theorem se_X0_add : Cond.selects mX0_add.1.cls mX0_add.1 mX0_add.1 ∈ jtbl := jtbl_of (tb_5 _ (List.mem_of_getElem? (i := 165) rfl)) rfl
def mX11_forget : jMt := (yX11_forget, cX11_forget, 2, (some .int))
set_option maxRecDepth 100000 in
theorem co_X11_forget : Cond.code mX11_forget.1 mX11_forget.2.1 mX11_forget.2.2.1 mX11_forget.2.2.2 ∈ jtbl := jtbl_of (tb_5 _ (List.mem_of_getElem? (i := 170) rfl)) rfl
theorem mw_X11_forget : jMw mX11_forget 0 := ⟨co_X11_forget, in_X11, by decide +kernel, by decide +kernel, by decide +kernel⟩
set_option maxRecDepth 100000 in
theorem im_X11_forget : Cond.instanceMethod mX11_forget.1 ∈ jtbl := jtbl_of (tb_5 _ (List.mem_of_getElem? (i := 168) rfl)) rfl
set_option maxRecDepth 100000 in
theorem se_X11_forget : Cond.selects mX11_forget.1.cls mX11_forget.1 mX11_forget.1 ∈ jtbl := jtbl_of (tb_5 _ (List.mem_of_getElem? (i := 169) rfl)) rfl
def mX11_who : jMt := (yX11_who, cX11_who, 3, (some .int))
set_option maxRecDepth 100000 in
theorem co_X11_who : Cond.code mX11_who.1 mX11_who.2.1 mX11_who.2.2.1 mX11_who.2.2.2 ∈ jtbl := jtbl_of (tb_5 _ (List.mem_of_getElem? (i := 174) rfl)) rfl
theorem mw_X11_who : jMw mX11_who 2 := ⟨co_X11_who, in_X11, by decide +kernel, by decide +kernel, by decide +kernel⟩
set_option maxRecDepth 100000 in
theorem im_X11_who : Cond.instanceMethod mX11_who.1 ∈ jtbl := jtbl_of (tb_5 _ (List.mem_of_getElem? (i := 172) rfl)) rfl
set_option maxRecDepth 100000 in
theorem se_X11_who : Cond.selects mX11_who.1.cls mX11_who.1 mX11_who.1 ∈ jtbl := jtbl_of (tb_5 _ (List.mem_of_getElem? (i := 173) rfl)) rfl
def mX0_learnFor : jMt := (yX0_learnFor, cX0_learnFor, 6, none)
set_option maxRecDepth 100000 in
theorem co_X0_learnFor : Cond.code mX0_learnFor.1 mX0_learnFor.2.1 mX0_learnFor.2.2.1 mX0_learnFor.2.2.2 ∈ jtbl := jtbl_of (tb_5 _ (List.mem_of_getElem? (i := 178) rfl)) rfl
theorem mw_X0_learnFor : jMw mX0_learnFor 2 := ⟨co_X0_learnFor, in_X0, by decide +kernel, by decide +kernel, by decide +kernel⟩
set_option maxRecDepth 100000 in
theorem im_X0_learnFor : Cond.instanceMethod mX0_learnFor.1 ∈ jtbl := jtbl_of (tb_5 _ (List.mem_of_getElem? (i := 176) rfl)) rfl
set_option maxRecDepth 100000 in
theorem se_X0_learnFor : Cond.selects mX0_learnFor.1.cls mX0_learnFor.1 mX0_learnFor.1 ∈ jtbl := jtbl_of (tb_5 _ (List.mem_of_getElem? (i := 177) rfl)) rfl
def mX0_learnSet : jMt := (yX0_learnSet, cX0_learnSet, 4, none)
set_option maxRecDepth 100000 in
theorem co_X0_learnSet : Cond.code mX0_learnSet.1 mX0_learnSet.2.1 mX0_learnSet.2.2.1 mX0_learnSet.2.2.2 ∈ jtbl := jtbl_of (tb_5 _ (List.mem_of_getElem? (i := 183) rfl)) rfl
theorem mw_X0_learnSet : jMw mX0_learnSet 2 := ⟨co_X0_learnSet, in_X0, by decide +kernel, by decide +kernel, by decide +kernel⟩
set_option maxRecDepth 100000 in
theorem im_X0_learnSet : Cond.instanceMethod mX0_learnSet.1 ∈ jtbl := jtbl_of (tb_5 _ (List.mem_of_getElem? (i := 182) rfl)) rfl
set_option maxRecDepth 100000 in
theorem se_X0_learnSet : Cond.selects mX0_learnSet.1.cls mX0_learnSet.1 mX0_learnSet.1 ∈ jtbl := jtbl_of (tb_0 _ (List.mem_of_getElem? (i := 39) rfl)) rfl
def mX0_pickSet : jMt := (yX0_pickSet, cX0_pickSet, 6, (some .int))
set_option maxRecDepth 100000 in
theorem co_X0_pickSet : Cond.code mX0_pickSet.1 mX0_pickSet.2.1 mX0_pickSet.2.2.1 mX0_pickSet.2.2.2 ∈ jtbl := jtbl_of (tb_5 _ (List.mem_of_getElem? (i := 191) rfl)) rfl
theorem mw_X0_pickSet : jMw mX0_pickSet 2 := ⟨co_X0_pickSet, in_X0, by decide +kernel, by decide +kernel, by decide +kernel⟩
set_option maxRecDepth 100000 in
theorem im_X0_pickSet : Cond.instanceMethod mX0_pickSet.1 ∈ jtbl := jtbl_of (tb_5 _ (List.mem_of_getElem? (i := 189) rfl)) rfl
set_option maxRecDepth 100000 in
theorem se_X0_pickSet : Cond.selects mX0_pickSet.1.cls mX0_pickSet.1 mX0_pickSet.1 ∈ jtbl := jtbl_of (tb_5 _ (List.mem_of_getElem? (i := 190) rfl)) rfl
def mX0_mayBe : jMt := (yX0_mayBe, cX0_mayBe, 4, (some .boolean))
set_option maxRecDepth 100000 in
theorem co_X0_mayBe : Cond.code mX0_mayBe.1 mX0_mayBe.2.1 mX0_mayBe.2.2.1 mX0_mayBe.2.2.2 ∈ jtbl := jtbl_of (tb_5 _ (List.mem_of_getElem? (i := 195) rfl)) rfl
theorem mw_X0_mayBe : jMw mX0_mayBe 2 := ⟨co_X0_mayBe, in_X0, by decide +kernel, by decide +kernel, by decide +kernel⟩
set_option maxRecDepth 100000 in
theorem im_X0_mayBe : Cond.instanceMethod mX0_mayBe.1 ∈ jtbl := jtbl_of (tb_5 _ (List.mem_of_getElem? (i := 194) rfl)) rfl
set_option maxRecDepth 100000 in
theorem se_X0_mayBe : Cond.selects mX0_mayBe.1.cls mX0_mayBe.1 mX0_mayBe.1 ∈ jtbl := jtbl_of (tb_0 _ (List.mem_of_getElem? (i := 40) rfl)) rfl
def mX11_watch : jMt := (yX11_watch, cX11_watch, 3, (some .int))
set_option maxRecDepth 100000 in
theorem co_X11_watch : Cond.code mX11_watch.1 mX11_watch.2.1 mX11_watch.2.2.1 mX11_watch.2.2.2 ∈ jtbl := jtbl_of (tb_5 _ (List.mem_of_getElem? (i := 199) rfl)) rfl
theorem mw_X11_watch : jMw mX11_watch 2 := ⟨co_X11_watch, in_X11, by decide +kernel, by decide +kernel, by decide +kernel⟩
set_option maxRecDepth 100000 in
theorem im_X11_watch : Cond.instanceMethod mX11_watch.1 ∈ jtbl := jtbl_of (tb_5 _ (List.mem_of_getElem? (i := 197) rfl)) rfl
set_option maxRecDepth 100000 in
theorem se_X11_watch : Cond.selects mX11_watch.1.cls mX11_watch.1 mX11_watch.1 ∈ jtbl := jtbl_of (tb_5 _ (List.mem_of_getElem? (i := 198) rfl)) rfl
def mX0_roadToWatch : jMt := (yX0_roadToWatch, cX0_roadToWatch, 7, (some .int))
set_option maxRecDepth 100000 in
theorem co_X0_roadToWatch : Cond.code mX0_roadToWatch.1 mX0_roadToWatch.2.1 mX0_roadToWatch.2.2.1 mX0_roadToWatch.2.2.2 ∈ jtbl := jtbl_of (tb_5 _ (List.mem_of_getElem? (i := 203) rfl)) rfl
theorem mw_X0_roadToWatch : jMw mX0_roadToWatch 2 := ⟨co_X0_roadToWatch, in_X0, by decide +kernel, by decide +kernel, by decide +kernel⟩
set_option maxRecDepth 100000 in
theorem im_X0_roadToWatch : Cond.instanceMethod mX0_roadToWatch.1 ∈ jtbl := jtbl_of (tb_5 _ (List.mem_of_getElem? (i := 201) rfl)) rfl
set_option maxRecDepth 100000 in
theorem se_X0_roadToWatch : Cond.selects mX0_roadToWatch.1.cls mX0_roadToWatch.1 mX0_roadToWatch.1 ∈ jtbl := jtbl_of (tb_5 _ (List.mem_of_getElem? (i := 202) rfl)) rfl
def mX0_roadThatLeavesFewest : jMt := (yX0_roadThatLeavesFewest, cX0_roadThatLeavesFewest, 6, (some .int))
set_option maxRecDepth 100000 in
theorem co_X0_roadThatLeavesFewest : Cond.code mX0_roadThatLeavesFewest.1 mX0_roadThatLeavesFewest.2.1 mX0_roadThatLeavesFewest.2.2.1 mX0_roadThatLeavesFewest.2.2.2 ∈ jtbl := jtbl_of (tb_5 _ (List.mem_of_getElem? (i := 208) rfl)) rfl
theorem mw_X0_roadThatLeavesFewest : jMw mX0_roadThatLeavesFewest 1 := ⟨co_X0_roadThatLeavesFewest, in_X0, by decide +kernel, by decide +kernel, by decide +kernel⟩
set_option maxRecDepth 100000 in
theorem im_X0_roadThatLeavesFewest : Cond.instanceMethod mX0_roadThatLeavesFewest.1 ∈ jtbl := jtbl_of (tb_5 _ (List.mem_of_getElem? (i := 207) rfl)) rfl
set_option maxRecDepth 100000 in
theorem se_X0_roadThatLeavesFewest : Cond.selects mX0_roadThatLeavesFewest.1.cls mX0_roadThatLeavesFewest.1 mX0_roadThatLeavesFewest.1 ∈ jtbl := jtbl_of (tb_0 _ (List.mem_of_getElem? (i := 41) rfl)) rfl
def mX11_hold : jMt := (yX11_hold, cX11_hold, 2, (some .boolean))
set_option maxRecDepth 100000 in
theorem co_X11_hold : Cond.code mX11_hold.1 mX11_hold.2.1 mX11_hold.2.2.1 mX11_hold.2.2.2 ∈ jtbl := jtbl_of (tb_5 _ (List.mem_of_getElem? (i := 212) rfl)) rfl
theorem mw_X11_hold : jMw mX11_hold 1 := ⟨co_X11_hold, in_X11, by decide +kernel, by decide +kernel, by decide +kernel⟩
set_option maxRecDepth 100000 in
theorem im_X11_hold : Cond.instanceMethod mX11_hold.1 ∈ jtbl := jtbl_of (tb_5 _ (List.mem_of_getElem? (i := 210) rfl)) rfl
set_option maxRecDepth 100000 in
theorem se_X11_hold : Cond.selects mX11_hold.1.cls mX11_hold.1 mX11_hold.1 ∈ jtbl := jtbl_of (tb_5 _ (List.mem_of_getElem? (i := 211) rfl)) rfl
def mX3_fillSlot : jMt := (yX3_fillSlot, cX3_fillSlot, 3, (some .boolean))
set_option maxRecDepth 100000 in
theorem co_X3_fillSlot : Cond.code mX3_fillSlot.1 mX3_fillSlot.2.1 mX3_fillSlot.2.2.1 mX3_fillSlot.2.2.2 ∈ jtbl := jtbl_of (tb_5 _ (List.mem_of_getElem? (i := 216) rfl)) rfl
theorem mw_X3_fillSlot : jMw mX3_fillSlot 2 := ⟨co_X3_fillSlot, in_X3, by decide +kernel, by decide +kernel, by decide +kernel⟩
set_option maxRecDepth 100000 in
theorem im_X3_fillSlot : Cond.instanceMethod mX3_fillSlot.1 ∈ jtbl := jtbl_of (tb_5 _ (List.mem_of_getElem? (i := 214) rfl)) rfl
set_option maxRecDepth 100000 in
theorem se_X3_fillSlot : Cond.selects mX3_fillSlot.1.cls mX3_fillSlot.1 mX3_fillSlot.1 ∈ jtbl := jtbl_of (tb_5 _ (List.mem_of_getElem? (i := 215) rfl)) rfl
def mX11_restore : jMt := (yX11_restore, cX11_restore, 2, (some .boolean))
set_option maxRecDepth 100000 in
theorem co_X11_restore : Cond.code mX11_restore.1 mX11_restore.2.1 mX11_restore.2.2.1 mX11_restore.2.2.2 ∈ jtbl := jtbl_of (tb_5 _ (List.mem_of_getElem? (i := 220) rfl)) rfl
theorem mw_X11_restore : jMw mX11_restore 1 := ⟨co_X11_restore, in_X11, by decide +kernel, by decide +kernel, by decide +kernel⟩
set_option maxRecDepth 100000 in
theorem im_X11_restore : Cond.instanceMethod mX11_restore.1 ∈ jtbl := jtbl_of (tb_5 _ (List.mem_of_getElem? (i := 218) rfl)) rfl
set_option maxRecDepth 100000 in
theorem se_X11_restore : Cond.selects mX11_restore.1.cls mX11_restore.1 mX11_restore.1 ∈ jtbl := jtbl_of (tb_5 _ (List.mem_of_getElem? (i := 219) rfl)) rfl
def mX3_useSlot : jMt := (yX3_useSlot, cX3_useSlot, 3, (some .boolean))
set_option maxRecDepth 100000 in
theorem co_X3_useSlot : Cond.code mX3_useSlot.1 mX3_useSlot.2.1 mX3_useSlot.2.2.1 mX3_useSlot.2.2.2 ∈ jtbl := jtbl_of (tb_5 _ (List.mem_of_getElem? (i := 224) rfl)) rfl
theorem mw_X3_useSlot : jMw mX3_useSlot 2 := ⟨co_X3_useSlot, in_X3, by decide +kernel, by decide +kernel, by decide +kernel⟩
set_option maxRecDepth 100000 in
theorem im_X3_useSlot : Cond.instanceMethod mX3_useSlot.1 ∈ jtbl := jtbl_of (tb_5 _ (List.mem_of_getElem? (i := 222) rfl)) rfl
set_option maxRecDepth 100000 in
theorem se_X3_useSlot : Cond.selects mX3_useSlot.1.cls mX3_useSlot.1 mX3_useSlot.1 ∈ jtbl := jtbl_of (tb_5 _ (List.mem_of_getElem? (i := 223) rfl)) rfl
def mX11_count : jMt := (yX11_count, cX11_count, 3, (some .int))
set_option maxRecDepth 100000 in
theorem co_X11_count : Cond.code mX11_count.1 mX11_count.2.1 mX11_count.2.2.1 mX11_count.2.2.2 ∈ jtbl := jtbl_of (tb_5 _ (List.mem_of_getElem? (i := 228) rfl)) rfl
theorem mw_X11_count : jMw mX11_count 1 := ⟨co_X11_count, in_X11, by decide +kernel, by decide +kernel, by decide +kernel⟩
set_option maxRecDepth 100000 in
theorem im_X11_count : Cond.instanceMethod mX11_count.1 ∈ jtbl := jtbl_of (tb_5 _ (List.mem_of_getElem? (i := 226) rfl)) rfl
set_option maxRecDepth 100000 in
theorem se_X11_count : Cond.selects mX11_count.1.cls mX11_count.1 mX11_count.1 ∈ jtbl := jtbl_of (tb_5 _ (List.mem_of_getElem? (i := 227) rfl)) rfl
def mX12_init : jMt := (yX12_init, cX12_init, 1, none)
set_option maxRecDepth 100000 in
theorem co_X12_init : Cond.code mX12_init.1 mX12_init.2.1 mX12_init.2.2.1 mX12_init.2.2.2 ∈ jtbl := jtbl_of (tb_5 _ (List.mem_of_getElem? (i := 234) rfl)) rfl
theorem mw_X12_init : jMw mX12_init 0 := ⟨co_X12_init, in_X12, by decide +kernel, by decide +kernel, by decide +kernel⟩
set_option maxRecDepth 100000 in
theorem im_X12_init : Cond.instanceMethod mX12_init.1 ∈ jtbl := jtbl_of (tb_5 _ (List.mem_of_getElem? (i := 233) rfl)) rfl
def mX12_plain : jMt := (yX12_plain, cX12_plain, 3, none)
set_option maxRecDepth 100000 in
theorem co_X12_plain : Cond.code mX12_plain.1 mX12_plain.2.1 mX12_plain.2.2.1 mX12_plain.2.2.2 ∈ jtbl := jtbl_of (tb_5 _ (List.mem_of_getElem? (i := 239) rfl)) rfl
theorem mw_X12_plain : jMw mX12_plain 1 := ⟨co_X12_plain, in_X12, by decide +kernel, by decide +kernel, by decide +kernel⟩
set_option maxRecDepth 100000 in
theorem im_X12_plain : Cond.instanceMethod mX12_plain.1 ∈ jtbl := jtbl_of (tb_5 _ (List.mem_of_getElem? (i := 238) rfl)) rfl
set_option maxRecDepth 100000 in
theorem se_X12_plain : Cond.selects mX12_plain.1.cls mX12_plain.1 mX12_plain.1 ∈ jtbl := jtbl_of (tb_0 _ (List.mem_of_getElem? (i := 42) rfl)) rfl
def mX12_word : jMt := (yX12_word, cX12_word, 7, (some .long))
set_option maxRecDepth 100000 in
theorem co_X12_word : Cond.code mX12_word.1 mX12_word.2.1 mX12_word.2.2.1 mX12_word.2.2.2 ∈ jtbl := jtbl_of (tb_6 _ (List.mem_of_getElem? (i := 2) rfl)) rfl
theorem mw_X12_word : jMw mX12_word 7 := ⟨co_X12_word, in_X12, by decide +kernel, by decide +kernel, by decide +kernel⟩
set_option maxRecDepth 100000 in
theorem sm_X12_word : Cond.static mX12_word.1 ∈ jtbl := jtbl_of (tb_6 _ (List.mem_of_getElem? (i := 1) rfl)) rfl
def mX12_appends : jMt := (yX12_appends, cX12_appends, 3, (some .long))
set_option maxRecDepth 100000 in
theorem co_X12_appends : Cond.code mX12_appends.1 mX12_appends.2.1 mX12_appends.2.2.1 mX12_appends.2.2.2 ∈ jtbl := jtbl_of (tb_6 _ (List.mem_of_getElem? (i := 5) rfl)) rfl
theorem mw_X12_appends : jMw mX12_appends 2 := ⟨co_X12_appends, in_X12, by decide +kernel, by decide +kernel, by decide +kernel⟩
set_option maxRecDepth 100000 in
theorem sm_X12_appends : Cond.static mX12_appends.1 ∈ jtbl := jtbl_of (tb_6 _ (List.mem_of_getElem? (i := 4) rfl)) rfl
def mX12_begins : jMt := (yX12_begins, cX12_begins, 2, none)
set_option maxRecDepth 100000 in
theorem co_X12_begins : Cond.code mX12_begins.1 mX12_begins.2.1 mX12_begins.2.2.1 mX12_begins.2.2.2 ∈ jtbl := jtbl_of (tb_6 _ (List.mem_of_getElem? (i := 10) rfl)) rfl
theorem mw_X12_begins : jMw mX12_begins 0 := ⟨co_X12_begins, in_X12, by decide +kernel, by decide +kernel, by decide +kernel⟩
set_option maxRecDepth 100000 in
theorem im_X12_begins : Cond.instanceMethod mX12_begins.1 ∈ jtbl := jtbl_of (tb_6 _ (List.mem_of_getElem? (i := 9) rfl)) rfl
set_option maxRecDepth 100000 in
theorem se_X12_begins : Cond.selects mX12_begins.1.cls mX12_begins.1 mX12_begins.1 ∈ jtbl := jtbl_of (tb_0 _ (List.mem_of_getElem? (i := 43) rfl)) rfl
def mX12_plainly : jMt := (yX12_plainly, cX12_plainly, 1, none)
set_option maxRecDepth 100000 in
theorem co_X12_plainly : Cond.code mX12_plainly.1 mX12_plainly.2.1 mX12_plainly.2.2.1 mX12_plainly.2.2.2 ∈ jtbl := jtbl_of (tb_6 _ (List.mem_of_getElem? (i := 14) rfl)) rfl
theorem mw_X12_plainly : jMw mX12_plainly 0 := ⟨co_X12_plainly, in_X12, by decide +kernel, by decide +kernel, by decide +kernel⟩
set_option maxRecDepth 100000 in
theorem im_X12_plainly : Cond.instanceMethod mX12_plainly.1 ∈ jtbl := jtbl_of (tb_6 _ (List.mem_of_getElem? (i := 13) rfl)) rfl
set_option maxRecDepth 100000 in
theorem se_X12_plainly : Cond.selects mX12_plainly.1.cls mX12_plainly.1 mX12_plainly.1 ∈ jtbl := jtbl_of (tb_0 _ (List.mem_of_getElem? (i := 44) rfl)) rfl
def mX12_keepsRow : jMt := (yX12_keepsRow, cX12_keepsRow, 2, none)
set_option maxRecDepth 100000 in
theorem co_X12_keepsRow : Cond.code mX12_keepsRow.1 mX12_keepsRow.2.1 mX12_keepsRow.2.2.1 mX12_keepsRow.2.2.2 ∈ jtbl := jtbl_of (tb_6 _ (List.mem_of_getElem? (i := 18) rfl)) rfl
theorem mw_X12_keepsRow : jMw mX12_keepsRow 0 := ⟨co_X12_keepsRow, in_X12, by decide +kernel, by decide +kernel, by decide +kernel⟩
set_option maxRecDepth 100000 in
theorem im_X12_keepsRow : Cond.instanceMethod mX12_keepsRow.1 ∈ jtbl := jtbl_of (tb_6 _ (List.mem_of_getElem? (i := 17) rfl)) rfl
set_option maxRecDepth 100000 in
theorem se_X12_keepsRow : Cond.selects mX12_keepsRow.1.cls mX12_keepsRow.1 mX12_keepsRow.1 ∈ jtbl := jtbl_of (tb_0 _ (List.mem_of_getElem? (i := 45) rfl)) rfl
def mX12_feed : jMt := (yX12_feed, cX12_feed, 6, (some .int))
set_option maxRecDepth 100000 in
theorem co_X12_feed : Cond.code mX12_feed.1 mX12_feed.2.1 mX12_feed.2.2.1 mX12_feed.2.2.2 ∈ jtbl := jtbl_of (tb_7 _ (List.mem_of_getElem? (i := 23) rfl)) rfl
theorem mw_X12_feed : jMw mX12_feed 5 := ⟨co_X12_feed, in_X12, by decide +kernel, by decide +kernel, by decide +kernel⟩
set_option maxRecDepth 100000 in
theorem im_X12_feed : Cond.instanceMethod mX12_feed.1 ∈ jtbl := jtbl_of (tb_7 _ (List.mem_of_getElem? (i := 21) rfl)) rfl
set_option maxRecDepth 100000 in
theorem se_X12_feed : Cond.selects mX12_feed.1.cls mX12_feed.1 mX12_feed.1 ∈ jtbl := jtbl_of (tb_7 _ (List.mem_of_getElem? (i := 22) rfl)) rfl
def mX12_tapes : jMt := (yX12_tapes, cX12_tapes, 3, none)
set_option maxRecDepth 100000 in
theorem co_X12_tapes : Cond.code mX12_tapes.1 mX12_tapes.2.1 mX12_tapes.2.2.1 mX12_tapes.2.2.2 ∈ jtbl := jtbl_of (tb_7 _ (List.mem_of_getElem? (i := 27) rfl)) rfl
theorem mw_X12_tapes : jMw mX12_tapes 1 := ⟨co_X12_tapes, in_X12, by decide +kernel, by decide +kernel, by decide +kernel⟩
set_option maxRecDepth 100000 in
theorem im_X12_tapes : Cond.instanceMethod mX12_tapes.1 ∈ jtbl := jtbl_of (tb_7 _ (List.mem_of_getElem? (i := 26) rfl)) rfl
set_option maxRecDepth 100000 in
theorem se_X12_tapes : Cond.selects mX12_tapes.1.cls mX12_tapes.1 mX12_tapes.1 ∈ jtbl := jtbl_of (tb_0 _ (List.mem_of_getElem? (i := 46) rfl)) rfl
def mX12_back : jMt := (yX12_back, cX12_back, 2, (some .int))
set_option maxRecDepth 100000 in
theorem co_X12_back : Cond.code mX12_back.1 mX12_back.2.1 mX12_back.2.2.1 mX12_back.2.2.2 ∈ jtbl := jtbl_of (tb_7 _ (List.mem_of_getElem? (i := 31) rfl)) rfl
theorem mw_X12_back : jMw mX12_back 1 := ⟨co_X12_back, in_X12, by decide +kernel, by decide +kernel, by decide +kernel⟩
set_option maxRecDepth 100000 in
theorem im_X12_back : Cond.instanceMethod mX12_back.1 ∈ jtbl := jtbl_of (tb_7 _ (List.mem_of_getElem? (i := 29) rfl)) rfl
set_option maxRecDepth 100000 in
theorem se_X12_back : Cond.selects mX12_back.1.cls mX12_back.1 mX12_back.1 ∈ jtbl := jtbl_of (tb_7 _ (List.mem_of_getElem? (i := 30) rfl)) rfl
def mX12_read : jMt := (yX12_read, cX12_read, 2, (some .int))
set_option maxRecDepth 100000 in
theorem co_X12_read : Cond.code mX12_read.1 mX12_read.2.1 mX12_read.2.2.1 mX12_read.2.2.2 ∈ jtbl := jtbl_of (tb_7 _ (List.mem_of_getElem? (i := 35) rfl)) rfl
theorem mw_X12_read : jMw mX12_read 0 := ⟨co_X12_read, in_X12, by decide +kernel, by decide +kernel, by decide +kernel⟩
set_option maxRecDepth 100000 in
theorem im_X12_read : Cond.instanceMethod mX12_read.1 ∈ jtbl := jtbl_of (tb_7 _ (List.mem_of_getElem? (i := 33) rfl)) rfl
set_option maxRecDepth 100000 in
theorem se_X12_read : Cond.selects mX12_read.1.cls mX12_read.1 mX12_read.1 ∈ jtbl := jtbl_of (tb_7 _ (List.mem_of_getElem? (i := 34) rfl)) rfl
def mX12_cut : jMt := (yX12_cut, cX12_cut, 8, none)
set_option maxRecDepth 100000 in
theorem co_X12_cut : Cond.code mX12_cut.1 mX12_cut.2.1 mX12_cut.2.2.1 mX12_cut.2.2.2 ∈ jtbl := jtbl_of (tb_7 _ (List.mem_of_getElem? (i := 39) rfl)) rfl
theorem mw_X12_cut : jMw mX12_cut 0 := ⟨co_X12_cut, in_X12, by decide +kernel, by decide +kernel, by decide +kernel⟩
set_option maxRecDepth 100000 in
theorem im_X12_cut : Cond.instanceMethod mX12_cut.1 ∈ jtbl := jtbl_of (tb_7 _ (List.mem_of_getElem? (i := 38) rfl)) rfl
set_option maxRecDepth 100000 in
theorem se_X12_cut : Cond.selects mX12_cut.1.cls mX12_cut.1 mX12_cut.1 ∈ jtbl := jtbl_of (tb_0 _ (List.mem_of_getElem? (i := 47) rfl)) rfl
def mX12_byteAt : jMt := (yX12_byteAt, cX12_byteAt, 2, (some .int))
set_option maxRecDepth 100000 in
theorem co_X12_byteAt : Cond.code mX12_byteAt.1 mX12_byteAt.2.1 mX12_byteAt.2.2.1 mX12_byteAt.2.2.2 ∈ jtbl := jtbl_of (tb_7 _ (List.mem_of_getElem? (i := 43) rfl)) rfl
theorem mw_X12_byteAt : jMw mX12_byteAt 1 := ⟨co_X12_byteAt, in_X12, by decide +kernel, by decide +kernel, by decide +kernel⟩
set_option maxRecDepth 100000 in
theorem im_X12_byteAt : Cond.instanceMethod mX12_byteAt.1 ∈ jtbl := jtbl_of (tb_7 _ (List.mem_of_getElem? (i := 42) rfl)) rfl
set_option maxRecDepth 100000 in
theorem se_X12_byteAt : Cond.selects mX12_byteAt.1.cls mX12_byteAt.1 mX12_byteAt.1 ∈ jtbl := jtbl_of (tb_0 _ (List.mem_of_getElem? (i := 48) rfl)) rfl
def mX12_token : jMt := (yX12_token, cX12_token, 6, none)
set_option maxRecDepth 100000 in
theorem co_X12_token : Cond.code mX12_token.1 mX12_token.2.1 mX12_token.2.2.1 mX12_token.2.2.2 ∈ jtbl := jtbl_of (tb_7 _ (List.mem_of_getElem? (i := 47) rfl)) rfl
theorem mw_X12_token : jMw mX12_token 4 := ⟨co_X12_token, in_X12, by decide +kernel, by decide +kernel, by decide +kernel⟩
set_option maxRecDepth 100000 in
theorem im_X12_token : Cond.instanceMethod mX12_token.1 ∈ jtbl := jtbl_of (tb_7 _ (List.mem_of_getElem? (i := 46) rfl)) rfl
set_option maxRecDepth 100000 in
theorem se_X12_token : Cond.selects mX12_token.1.cls mX12_token.1 mX12_token.1 ∈ jtbl := jtbl_of (tb_0 _ (List.mem_of_getElem? (i := 49) rfl)) rfl
def mX12_isLetter : jMt := (yX12_isLetter, cX12_isLetter, 1, (some .boolean))
set_option maxRecDepth 100000 in
theorem co_X12_isLetter : Cond.code mX12_isLetter.1 mX12_isLetter.2.1 mX12_isLetter.2.2.1 mX12_isLetter.2.2.2 ∈ jtbl := jtbl_of (tb_7 _ (List.mem_of_getElem? (i := 50) rfl)) rfl
theorem mw_X12_isLetter : jMw mX12_isLetter 1 := ⟨co_X12_isLetter, in_X12, by decide +kernel, by decide +kernel, by decide +kernel⟩
set_option maxRecDepth 100000 in
theorem sm_X12_isLetter : Cond.static mX12_isLetter.1 ∈ jtbl := jtbl_of (tb_7 _ (List.mem_of_getElem? (i := 49) rfl)) rfl
def mX12_isDigit : jMt := (yX12_isDigit, cX12_isDigit, 1, (some .boolean))
set_option maxRecDepth 100000 in
theorem co_X12_isDigit : Cond.code mX12_isDigit.1 mX12_isDigit.2.1 mX12_isDigit.2.2.1 mX12_isDigit.2.2.2 ∈ jtbl := jtbl_of (tb_7 _ (List.mem_of_getElem? (i := 53) rfl)) rfl
theorem mw_X12_isDigit : jMw mX12_isDigit 1 := ⟨co_X12_isDigit, in_X12, by decide +kernel, by decide +kernel, by decide +kernel⟩
set_option maxRecDepth 100000 in
theorem sm_X12_isDigit : Cond.static mX12_isDigit.1 ∈ jtbl := jtbl_of (tb_7 _ (List.mem_of_getElem? (i := 52) rfl)) rfl
def mX12_sign : jMt := (yX12_sign, cX12_sign, 5, (some .int))
set_option maxRecDepth 100000 in
theorem co_X12_sign : Cond.code mX12_sign.1 mX12_sign.2.1 mX12_sign.2.2.1 mX12_sign.2.2.2 ∈ jtbl := jtbl_of (tb_7 _ (List.mem_of_getElem? (i := 57) rfl)) rfl
theorem mw_X12_sign : jMw mX12_sign 3 := ⟨co_X12_sign, in_X12, by decide +kernel, by decide +kernel, by decide +kernel⟩
set_option maxRecDepth 100000 in
theorem im_X12_sign : Cond.instanceMethod mX12_sign.1 ∈ jtbl := jtbl_of (tb_7 _ (List.mem_of_getElem? (i := 56) rfl)) rfl
set_option maxRecDepth 100000 in
theorem se_X12_sign : Cond.selects mX12_sign.1.cls mX12_sign.1 mX12_sign.1 ∈ jtbl := jtbl_of (tb_0 _ (List.mem_of_getElem? (i := 50) rfl)) rfl
def mX12_is : jMt := (yX12_is, cX12_is, 2, (some .boolean))
set_option maxRecDepth 100000 in
theorem co_X12_is : Cond.code mX12_is.1 mX12_is.2.1 mX12_is.2.2.1 mX12_is.2.2.2 ∈ jtbl := jtbl_of (tb_7 _ (List.mem_of_getElem? (i := 61) rfl)) rfl
theorem mw_X12_is : jMw mX12_is 1 := ⟨co_X12_is, in_X12, by decide +kernel, by decide +kernel, by decide +kernel⟩
set_option maxRecDepth 100000 in
theorem im_X12_is : Cond.instanceMethod mX12_is.1 ∈ jtbl := jtbl_of (tb_7 _ (List.mem_of_getElem? (i := 60) rfl)) rfl
set_option maxRecDepth 100000 in
theorem se_X12_is : Cond.selects mX12_is.1.cls mX12_is.1 mX12_is.1 ∈ jtbl := jtbl_of (tb_0 _ (List.mem_of_getElem? (i := 51) rfl)) rfl
def mX12_tellOne : jMt := (yX12_tellOne, cX12_tellOne, 2, none)
set_option maxRecDepth 100000 in
theorem co_X12_tellOne : Cond.code mX12_tellOne.1 mX12_tellOne.2.1 mX12_tellOne.2.2.1 mX12_tellOne.2.2.2 ∈ jtbl := jtbl_of (tb_7 _ (List.mem_of_getElem? (i := 65) rfl)) rfl
theorem mw_X12_tellOne : jMw mX12_tellOne 0 := ⟨co_X12_tellOne, in_X12, by decide +kernel, by decide +kernel, by decide +kernel⟩
set_option maxRecDepth 100000 in
theorem im_X12_tellOne : Cond.instanceMethod mX12_tellOne.1 ∈ jtbl := jtbl_of (tb_7 _ (List.mem_of_getElem? (i := 64) rfl)) rfl
set_option maxRecDepth 100000 in
theorem se_X12_tellOne : Cond.selects mX12_tellOne.1.cls mX12_tellOne.1 mX12_tellOne.1 ∈ jtbl := jtbl_of (tb_0 _ (List.mem_of_getElem? (i := 52) rfl)) rfl
def mX12_roomFor : jMt := (yX12_roomFor, cX12_roomFor, 3, none)
set_option maxRecDepth 100000 in
theorem co_X12_roomFor : Cond.code mX12_roomFor.1 mX12_roomFor.2.1 mX12_roomFor.2.2.1 mX12_roomFor.2.2.2 ∈ jtbl := jtbl_of (tb_7 _ (List.mem_of_getElem? (i := 69) rfl)) rfl
theorem mw_X12_roomFor : jMw mX12_roomFor 2 := ⟨co_X12_roomFor, in_X12, by decide +kernel, by decide +kernel, by decide +kernel⟩
set_option maxRecDepth 100000 in
theorem im_X12_roomFor : Cond.instanceMethod mX12_roomFor.1 ∈ jtbl := jtbl_of (tb_7 _ (List.mem_of_getElem? (i := 68) rfl)) rfl
set_option maxRecDepth 100000 in
theorem se_X12_roomFor : Cond.selects mX12_roomFor.1.cls mX12_roomFor.1 mX12_roomFor.1 ∈ jtbl := jtbl_of (tb_0 _ (List.mem_of_getElem? (i := 53) rfl)) rfl
def mX12_fail : jMt := (yX12_fail, cX12_fail, 2, none)
set_option maxRecDepth 100000 in
theorem co_X12_fail : Cond.code mX12_fail.1 mX12_fail.2.1 mX12_fail.2.2.1 mX12_fail.2.2.2 ∈ jtbl := jtbl_of (tb_7 _ (List.mem_of_getElem? (i := 73) rfl)) rfl
theorem mw_X12_fail : jMw mX12_fail 1 := ⟨co_X12_fail, in_X12, by decide +kernel, by decide +kernel, by decide +kernel⟩
set_option maxRecDepth 100000 in
theorem im_X12_fail : Cond.instanceMethod mX12_fail.1 ∈ jtbl := jtbl_of (tb_7 _ (List.mem_of_getElem? (i := 72) rfl)) rfl
set_option maxRecDepth 100000 in
theorem se_X12_fail : Cond.selects mX12_fail.1.cls mX12_fail.1 mX12_fail.1 ∈ jtbl := jtbl_of (tb_0 _ (List.mem_of_getElem? (i := 54) rfl)) rfl
def mX12_goesOn : jMt := (yX12_goesOn, cX12_goesOn, 1, none)
set_option maxRecDepth 100000 in
theorem co_X12_goesOn : Cond.code mX12_goesOn.1 mX12_goesOn.2.1 mX12_goesOn.2.2.1 mX12_goesOn.2.2.2 ∈ jtbl := jtbl_of (tb_7 _ (List.mem_of_getElem? (i := 77) rfl)) rfl
theorem mw_X12_goesOn : jMw mX12_goesOn 0 := ⟨co_X12_goesOn, in_X12, by decide +kernel, by decide +kernel, by decide +kernel⟩
set_option maxRecDepth 100000 in
theorem im_X12_goesOn : Cond.instanceMethod mX12_goesOn.1 ∈ jtbl := jtbl_of (tb_7 _ (List.mem_of_getElem? (i := 76) rfl)) rfl
set_option maxRecDepth 100000 in
theorem se_X12_goesOn : Cond.selects mX12_goesOn.1.cls mX12_goesOn.1 mX12_goesOn.1 ∈ jtbl := jtbl_of (tb_0 _ (List.mem_of_getElem? (i := 55) rfl)) rfl
def mX12_named : jMt := (yX12_named, cX12_named, 3, (some .int))
set_option maxRecDepth 100000 in
theorem co_X12_named : Cond.code mX12_named.1 mX12_named.2.1 mX12_named.2.2.1 mX12_named.2.2.2 ∈ jtbl := jtbl_of (tb_7 _ (List.mem_of_getElem? (i := 81) rfl)) rfl
theorem mw_X12_named : jMw mX12_named 0 := ⟨co_X12_named, in_X12, by decide +kernel, by decide +kernel, by decide +kernel⟩
set_option maxRecDepth 100000 in
theorem im_X12_named : Cond.instanceMethod mX12_named.1 ∈ jtbl := jtbl_of (tb_7 _ (List.mem_of_getElem? (i := 80) rfl)) rfl
set_option maxRecDepth 100000 in
theorem se_X12_named : Cond.selects mX12_named.1.cls mX12_named.1 mX12_named.1 ∈ jtbl := jtbl_of (tb_0 _ (List.mem_of_getElem? (i := 56) rfl)) rfl
def mX12_must : jMt := (yX12_must, cX12_must, 2, none)
set_option maxRecDepth 100000 in
theorem co_X12_must : Cond.code mX12_must.1 mX12_must.2.1 mX12_must.2.2.1 mX12_must.2.2.2 ∈ jtbl := jtbl_of (tb_7 _ (List.mem_of_getElem? (i := 85) rfl)) rfl
theorem mw_X12_must : jMw mX12_must 1 := ⟨co_X12_must, in_X12, by decide +kernel, by decide +kernel, by decide +kernel⟩
set_option maxRecDepth 100000 in
theorem im_X12_must : Cond.instanceMethod mX12_must.1 ∈ jtbl := jtbl_of (tb_7 _ (List.mem_of_getElem? (i := 84) rfl)) rfl
set_option maxRecDepth 100000 in
theorem se_X12_must : Cond.selects mX12_must.1.cls mX12_must.1 mX12_must.1 ∈ jtbl := jtbl_of (tb_0 _ (List.mem_of_getElem? (i := 57) rfl)) rfl
def mX12_wrong : jMt := (yX12_wrong, cX12_wrong, 4, none)
set_option maxRecDepth 100000 in
theorem co_X12_wrong : Cond.code mX12_wrong.1 mX12_wrong.2.1 mX12_wrong.2.2.1 mX12_wrong.2.2.2 ∈ jtbl := jtbl_of (tb_7 _ (List.mem_of_getElem? (i := 89) rfl)) rfl
theorem mw_X12_wrong : jMw mX12_wrong 2 := ⟨co_X12_wrong, in_X12, by decide +kernel, by decide +kernel, by decide +kernel⟩
set_option maxRecDepth 100000 in
theorem im_X12_wrong : Cond.instanceMethod mX12_wrong.1 ∈ jtbl := jtbl_of (tb_7 _ (List.mem_of_getElem? (i := 88) rfl)) rfl
set_option maxRecDepth 100000 in
theorem se_X12_wrong : Cond.selects mX12_wrong.1.cls mX12_wrong.1 mX12_wrong.1 ∈ jtbl := jtbl_of (tb_0 _ (List.mem_of_getElem? (i := 58) rfl)) rfl
def mX12_ends : jMt := (yX12_ends, cX12_ends, 3, none)
set_option maxRecDepth 100000 in
theorem co_X12_ends : Cond.code mX12_ends.1 mX12_ends.2.1 mX12_ends.2.2.1 mX12_ends.2.2.2 ∈ jtbl := jtbl_of (tb_7 _ (List.mem_of_getElem? (i := 93) rfl)) rfl
theorem mw_X12_ends : jMw mX12_ends 2 := ⟨co_X12_ends, in_X12, by decide +kernel, by decide +kernel, by decide +kernel⟩
set_option maxRecDepth 100000 in
theorem im_X12_ends : Cond.instanceMethod mX12_ends.1 ∈ jtbl := jtbl_of (tb_7 _ (List.mem_of_getElem? (i := 92) rfl)) rfl
set_option maxRecDepth 100000 in
theorem se_X12_ends : Cond.selects mX12_ends.1.cls mX12_ends.1 mX12_ends.1 ∈ jtbl := jtbl_of (tb_0 _ (List.mem_of_getElem? (i := 59) rfl)) rfl
def mX12_tellRoad : jMt := (yX12_tellRoad, cX12_tellRoad, 3, none)
set_option maxRecDepth 100000 in
theorem co_X12_tellRoad : Cond.code mX12_tellRoad.1 mX12_tellRoad.2.1 mX12_tellRoad.2.2.1 mX12_tellRoad.2.2.2 ∈ jtbl := jtbl_of (tb_7 _ (List.mem_of_getElem? (i := 97) rfl)) rfl
theorem mw_X12_tellRoad : jMw mX12_tellRoad 0 := ⟨co_X12_tellRoad, in_X12, by decide +kernel, by decide +kernel, by decide +kernel⟩
set_option maxRecDepth 100000 in
theorem im_X12_tellRoad : Cond.instanceMethod mX12_tellRoad.1 ∈ jtbl := jtbl_of (tb_7 _ (List.mem_of_getElem? (i := 96) rfl)) rfl
set_option maxRecDepth 100000 in
theorem se_X12_tellRoad : Cond.selects mX12_tellRoad.1.cls mX12_tellRoad.1 mX12_tellRoad.1 ∈ jtbl := jtbl_of (tb_0 _ (List.mem_of_getElem? (i := 60) rfl)) rfl
def mX12_knownPlace : jMt := (yX12_knownPlace, cX12_knownPlace, 3, (some .int))
set_option maxRecDepth 100000 in
theorem co_X12_knownPlace : Cond.code mX12_knownPlace.1 mX12_knownPlace.2.1 mX12_knownPlace.2.2.1 mX12_knownPlace.2.2.2 ∈ jtbl := jtbl_of (tb_7 _ (List.mem_of_getElem? (i := 101) rfl)) rfl
theorem mw_X12_knownPlace : jMw mX12_knownPlace 0 := ⟨co_X12_knownPlace, in_X12, by decide +kernel, by decide +kernel, by decide +kernel⟩
set_option maxRecDepth 100000 in
theorem im_X12_knownPlace : Cond.instanceMethod mX12_knownPlace.1 ∈ jtbl := jtbl_of (tb_7 _ (List.mem_of_getElem? (i := 100) rfl)) rfl
set_option maxRecDepth 100000 in
theorem se_X12_knownPlace : Cond.selects mX12_knownPlace.1.cls mX12_knownPlace.1 mX12_knownPlace.1 ∈ jtbl := jtbl_of (tb_0 _ (List.mem_of_getElem? (i := 61) rfl)) rfl
def mX12_otherThan : jMt := (yX12_otherThan, cX12_otherThan, 4, (some .int))
set_option maxRecDepth 100000 in
theorem co_X12_otherThan : Cond.code mX12_otherThan.1 mX12_otherThan.2.1 mX12_otherThan.2.2.1 mX12_otherThan.2.2.2 ∈ jtbl := jtbl_of (tb_7 _ (List.mem_of_getElem? (i := 105) rfl)) rfl
theorem mw_X12_otherThan : jMw mX12_otherThan 1 := ⟨co_X12_otherThan, in_X12, by decide +kernel, by decide +kernel, by decide +kernel⟩
set_option maxRecDepth 100000 in
theorem im_X12_otherThan : Cond.instanceMethod mX12_otherThan.1 ∈ jtbl := jtbl_of (tb_7 _ (List.mem_of_getElem? (i := 104) rfl)) rfl
set_option maxRecDepth 100000 in
theorem se_X12_otherThan : Cond.selects mX12_otherThan.1.cls mX12_otherThan.1 mX12_otherThan.1 ∈ jtbl := jtbl_of (tb_0 _ (List.mem_of_getElem? (i := 62) rfl)) rfl
def mX12_bounded : jMt := (yX12_bounded, cX12_bounded, 4, (some .int))
set_option maxRecDepth 100000 in
theorem co_X12_bounded : Cond.code mX12_bounded.1 mX12_bounded.2.1 mX12_bounded.2.2.1 mX12_bounded.2.2.2 ∈ jtbl := jtbl_of (tb_7 _ (List.mem_of_getElem? (i := 109) rfl)) rfl
theorem mw_X12_bounded : jMw mX12_bounded 2 := ⟨co_X12_bounded, in_X12, by decide +kernel, by decide +kernel, by decide +kernel⟩
set_option maxRecDepth 100000 in
theorem im_X12_bounded : Cond.instanceMethod mX12_bounded.1 ∈ jtbl := jtbl_of (tb_7 _ (List.mem_of_getElem? (i := 108) rfl)) rfl
set_option maxRecDepth 100000 in
theorem se_X12_bounded : Cond.selects mX12_bounded.1.cls mX12_bounded.1 mX12_bounded.1 ∈ jtbl := jtbl_of (tb_0 _ (List.mem_of_getElem? (i := 63) rfl)) rfl
def mX12_isTold : jMt := (yX12_isTold, cX12_isTold, 3, (some .boolean))
set_option maxRecDepth 100000 in
theorem co_X12_isTold : Cond.code mX12_isTold.1 mX12_isTold.2.1 mX12_isTold.2.2.1 mX12_isTold.2.2.2 ∈ jtbl := jtbl_of (tb_7 _ (List.mem_of_getElem? (i := 113) rfl)) rfl
theorem mw_X12_isTold : jMw mX12_isTold 1 := ⟨co_X12_isTold, in_X12, by decide +kernel, by decide +kernel, by decide +kernel⟩
set_option maxRecDepth 100000 in
theorem im_X12_isTold : Cond.instanceMethod mX12_isTold.1 ∈ jtbl := jtbl_of (tb_7 _ (List.mem_of_getElem? (i := 112) rfl)) rfl
set_option maxRecDepth 100000 in
theorem se_X12_isTold : Cond.selects mX12_isTold.1.cls mX12_isTold.1 mX12_isTold.1 ∈ jtbl := jtbl_of (tb_0 _ (List.mem_of_getElem? (i := 64) rfl)) rfl
def mX12_tellGhost : jMt := (yX12_tellGhost, cX12_tellGhost, 3, none)
set_option maxRecDepth 100000 in
theorem co_X12_tellGhost : Cond.code mX12_tellGhost.1 mX12_tellGhost.2.1 mX12_tellGhost.2.2.1 mX12_tellGhost.2.2.2 ∈ jtbl := jtbl_of (tb_7 _ (List.mem_of_getElem? (i := 117) rfl)) rfl
theorem mw_X12_tellGhost : jMw mX12_tellGhost 0 := ⟨co_X12_tellGhost, in_X12, by decide +kernel, by decide +kernel, by decide +kernel⟩
set_option maxRecDepth 100000 in
theorem im_X12_tellGhost : Cond.instanceMethod mX12_tellGhost.1 ∈ jtbl := jtbl_of (tb_7 _ (List.mem_of_getElem? (i := 116) rfl)) rfl
set_option maxRecDepth 100000 in
theorem se_X12_tellGhost : Cond.selects mX12_tellGhost.1.cls mX12_tellGhost.1 mX12_tellGhost.1 ∈ jtbl := jtbl_of (tb_0 _ (List.mem_of_getElem? (i := 65) rfl)) rfl
def mX12_tellLaw : jMt := (yX12_tellLaw, cX12_tellLaw, 4, none)
set_option maxRecDepth 100000 in
theorem co_X12_tellLaw : Cond.code mX12_tellLaw.1 mX12_tellLaw.2.1 mX12_tellLaw.2.2.1 mX12_tellLaw.2.2.2 ∈ jtbl := jtbl_of (tb_7 _ (List.mem_of_getElem? (i := 121) rfl)) rfl
theorem mw_X12_tellLaw : jMw mX12_tellLaw 1 := ⟨co_X12_tellLaw, in_X12, by decide +kernel, by decide +kernel, by decide +kernel⟩
set_option maxRecDepth 100000 in
theorem im_X12_tellLaw : Cond.instanceMethod mX12_tellLaw.1 ∈ jtbl := jtbl_of (tb_7 _ (List.mem_of_getElem? (i := 120) rfl)) rfl
set_option maxRecDepth 100000 in
theorem se_X12_tellLaw : Cond.selects mX12_tellLaw.1.cls mX12_tellLaw.1 mX12_tellLaw.1 ∈ jtbl := jtbl_of (tb_0 _ (List.mem_of_getElem? (i := 66) rfl)) rfl
def mX12_expression : jMt := (yX12_expression, cX12_expression, 3, none)
set_option maxRecDepth 100000 in
theorem co_X12_expression : Cond.code mX12_expression.1 mX12_expression.2.1 mX12_expression.2.2.1 mX12_expression.2.2.2 ∈ jtbl := jtbl_of (tb_7 _ (List.mem_of_getElem? (i := 125) rfl)) rfl
theorem mw_X12_expression : jMw mX12_expression 0 := ⟨co_X12_expression, in_X12, by decide +kernel, by decide +kernel, by decide +kernel⟩
set_option maxRecDepth 100000 in
theorem im_X12_expression : Cond.instanceMethod mX12_expression.1 ∈ jtbl := jtbl_of (tb_7 _ (List.mem_of_getElem? (i := 124) rfl)) rfl
set_option maxRecDepth 100000 in
theorem se_X12_expression : Cond.selects mX12_expression.1.cls mX12_expression.1 mX12_expression.1 ∈ jtbl := jtbl_of (tb_0 _ (List.mem_of_getElem? (i := 67) rfl)) rfl
def mX12_unit : jMt := (yX12_unit, cX12_unit, 1, none)
set_option maxRecDepth 100000 in
theorem co_X12_unit : Cond.code mX12_unit.1 mX12_unit.2.1 mX12_unit.2.2.1 mX12_unit.2.2.2 ∈ jtbl := jtbl_of (tb_7 _ (List.mem_of_getElem? (i := 129) rfl)) rfl
theorem mw_X12_unit : jMw mX12_unit 0 := ⟨co_X12_unit, in_X12, by decide +kernel, by decide +kernel, by decide +kernel⟩
set_option maxRecDepth 100000 in
theorem im_X12_unit : Cond.instanceMethod mX12_unit.1 ∈ jtbl := jtbl_of (tb_7 _ (List.mem_of_getElem? (i := 128) rfl)) rfl
set_option maxRecDepth 100000 in
theorem se_X12_unit : Cond.selects mX12_unit.1.cls mX12_unit.1 mX12_unit.1 ∈ jtbl := jtbl_of (tb_0 _ (List.mem_of_getElem? (i := 68) rfl)) rfl
def mX12_emit : jMt := (yX12_emit, cX12_emit, 3, none)
set_option maxRecDepth 100000 in
theorem co_X12_emit : Cond.code mX12_emit.1 mX12_emit.2.1 mX12_emit.2.2.1 mX12_emit.2.2.2 ∈ jtbl := jtbl_of (tb_7 _ (List.mem_of_getElem? (i := 133) rfl)) rfl
theorem mw_X12_emit : jMw mX12_emit 2 := ⟨co_X12_emit, in_X12, by decide +kernel, by decide +kernel, by decide +kernel⟩
set_option maxRecDepth 100000 in
theorem im_X12_emit : Cond.instanceMethod mX12_emit.1 ∈ jtbl := jtbl_of (tb_7 _ (List.mem_of_getElem? (i := 132) rfl)) rfl
set_option maxRecDepth 100000 in
theorem se_X12_emit : Cond.selects mX12_emit.1.cls mX12_emit.1 mX12_emit.1 ∈ jtbl := jtbl_of (tb_0 _ (List.mem_of_getElem? (i := 69) rfl)) rfl
def mX12_comesOut : jMt := (yX12_comesOut, cX12_comesOut, 3, none)
set_option maxRecDepth 100000 in
theorem co_X12_comesOut : Cond.code mX12_comesOut.1 mX12_comesOut.2.1 mX12_comesOut.2.2.1 mX12_comesOut.2.2.2 ∈ jtbl := jtbl_of (tb_7 _ (List.mem_of_getElem? (i := 137) rfl)) rfl
theorem mw_X12_comesOut : jMw mX12_comesOut 1 := ⟨co_X12_comesOut, in_X12, by decide +kernel, by decide +kernel, by decide +kernel⟩
set_option maxRecDepth 100000 in
theorem im_X12_comesOut : Cond.instanceMethod mX12_comesOut.1 ∈ jtbl := jtbl_of (tb_7 _ (List.mem_of_getElem? (i := 136) rfl)) rfl
set_option maxRecDepth 100000 in
theorem se_X12_comesOut : Cond.selects mX12_comesOut.1.cls mX12_comesOut.1 mX12_comesOut.1 ∈ jtbl := jtbl_of (tb_0 _ (List.mem_of_getElem? (i := 70) rfl)) rfl
def mX12_term : jMt := (yX12_term, cX12_term, 1, none)
set_option maxRecDepth 100000 in
theorem co_X12_term : Cond.code mX12_term.1 mX12_term.2.1 mX12_term.2.2.1 mX12_term.2.2.2 ∈ jtbl := jtbl_of (tb_7 _ (List.mem_of_getElem? (i := 141) rfl)) rfl
theorem mw_X12_term : jMw mX12_term 0 := ⟨co_X12_term, in_X12, by decide +kernel, by decide +kernel, by decide +kernel⟩
set_option maxRecDepth 100000 in
theorem im_X12_term : Cond.instanceMethod mX12_term.1 ∈ jtbl := jtbl_of (tb_7 _ (List.mem_of_getElem? (i := 140) rfl)) rfl
set_option maxRecDepth 100000 in
theorem se_X12_term : Cond.selects mX12_term.1.cls mX12_term.1 mX12_term.1 ∈ jtbl := jtbl_of (tb_0 _ (List.mem_of_getElem? (i := 71) rfl)) rfl
def mX12_place : jMt := (yX12_place, cX12_place, 1, (some .int))
set_option maxRecDepth 100000 in
theorem co_X12_place : Cond.code mX12_place.1 mX12_place.2.1 mX12_place.2.2.1 mX12_place.2.2.2 ∈ jtbl := jtbl_of (tb_7 _ (List.mem_of_getElem? (i := 145) rfl)) rfl
theorem mw_X12_place : jMw mX12_place 0 := ⟨co_X12_place, in_X12, by decide +kernel, by decide +kernel, by decide +kernel⟩
set_option maxRecDepth 100000 in
theorem im_X12_place : Cond.instanceMethod mX12_place.1 ∈ jtbl := jtbl_of (tb_7 _ (List.mem_of_getElem? (i := 143) rfl)) rfl
set_option maxRecDepth 100000 in
theorem se_X12_place : Cond.selects mX12_place.1.cls mX12_place.1 mX12_place.1 ∈ jtbl := jtbl_of (tb_7 _ (List.mem_of_getElem? (i := 144) rfl)) rfl
def mX12_road : jMt := (yX12_road, cX12_road, 3, (some .int))
set_option maxRecDepth 100000 in
theorem co_X12_road : Cond.code mX12_road.1 mX12_road.2.1 mX12_road.2.2.1 mX12_road.2.2.2 ∈ jtbl := jtbl_of (tb_7 _ (List.mem_of_getElem? (i := 149) rfl)) rfl
theorem mw_X12_road : jMw mX12_road 2 := ⟨co_X12_road, in_X12, by decide +kernel, by decide +kernel, by decide +kernel⟩
set_option maxRecDepth 100000 in
theorem im_X12_road : Cond.instanceMethod mX12_road.1 ∈ jtbl := jtbl_of (tb_7 _ (List.mem_of_getElem? (i := 147) rfl)) rfl
set_option maxRecDepth 100000 in
theorem se_X12_road : Cond.selects mX12_road.1.cls mX12_road.1 mX12_road.1 ∈ jtbl := jtbl_of (tb_7 _ (List.mem_of_getElem? (i := 148) rfl)) rfl
def mX12_isRoad : jMt := (yX12_isRoad, cX12_isRoad, 2, (some .boolean))
set_option maxRecDepth 100000 in
theorem co_X12_isRoad : Cond.code mX12_isRoad.1 mX12_isRoad.2.1 mX12_isRoad.2.2.1 mX12_isRoad.2.2.2 ∈ jtbl := jtbl_of (tb_7 _ (List.mem_of_getElem? (i := 153) rfl)) rfl
theorem mw_X12_isRoad : jMw mX12_isRoad 1 := ⟨co_X12_isRoad, in_X12, by decide +kernel, by decide +kernel, by decide +kernel⟩
set_option maxRecDepth 100000 in
theorem im_X12_isRoad : Cond.instanceMethod mX12_isRoad.1 ∈ jtbl := jtbl_of (tb_7 _ (List.mem_of_getElem? (i := 152) rfl)) rfl
set_option maxRecDepth 100000 in
theorem se_X12_isRoad : Cond.selects mX12_isRoad.1.cls mX12_isRoad.1 mX12_isRoad.1 ∈ jtbl := jtbl_of (tb_0 _ (List.mem_of_getElem? (i := 72) rfl)) rfl
def mX12_in : jMt := (yX12_in, cX12_in, 3, (some .boolean))
set_option maxRecDepth 100000 in
theorem co_X12_in : Cond.code mX12_in.1 mX12_in.2.1 mX12_in.2.2.1 mX12_in.2.2.2 ∈ jtbl := jtbl_of (tb_7 _ (List.mem_of_getElem? (i := 156) rfl)) rfl
theorem mw_X12_in : jMw mX12_in 3 := ⟨co_X12_in, in_X12, by decide +kernel, by decide +kernel, by decide +kernel⟩
set_option maxRecDepth 100000 in
theorem sm_X12_in : Cond.static mX12_in.1 ∈ jtbl := jtbl_of (tb_7 _ (List.mem_of_getElem? (i := 155) rfl)) rfl
def mX12_copies : jMt := (yX12_copies, cX12_copies, 2, none)
set_option maxRecDepth 100000 in
theorem co_X12_copies : Cond.code mX12_copies.1 mX12_copies.2.1 mX12_copies.2.2.1 mX12_copies.2.2.2 ∈ jtbl := jtbl_of (tb_7 _ (List.mem_of_getElem? (i := 160) rfl)) rfl
theorem mw_X12_copies : jMw mX12_copies 0 := ⟨co_X12_copies, in_X12, by decide +kernel, by decide +kernel, by decide +kernel⟩
set_option maxRecDepth 100000 in
theorem im_X12_copies : Cond.instanceMethod mX12_copies.1 ∈ jtbl := jtbl_of (tb_7 _ (List.mem_of_getElem? (i := 159) rfl)) rfl
set_option maxRecDepth 100000 in
theorem se_X12_copies : Cond.selects mX12_copies.1.cls mX12_copies.1 mX12_copies.1 ∈ jtbl := jtbl_of (tb_0 _ (List.mem_of_getElem? (i := 73) rfl)) rfl
def mX12_overField : jMt := (yX12_overField, cX12_overField, 2, (some .boolean))
set_option maxRecDepth 100000 in
theorem co_X12_overField : Cond.code mX12_overField.1 mX12_overField.2.1 mX12_overField.2.2.1 mX12_overField.2.2.2 ∈ jtbl := jtbl_of (tb_7 _ (List.mem_of_getElem? (i := 164) rfl)) rfl
theorem mw_X12_overField : jMw mX12_overField 1 := ⟨co_X12_overField, in_X12, by decide +kernel, by decide +kernel, by decide +kernel⟩
set_option maxRecDepth 100000 in
theorem im_X12_overField : Cond.instanceMethod mX12_overField.1 ∈ jtbl := jtbl_of (tb_7 _ (List.mem_of_getElem? (i := 163) rfl)) rfl
set_option maxRecDepth 100000 in
theorem se_X12_overField : Cond.selects mX12_overField.1.cls mX12_overField.1 mX12_overField.1 ∈ jtbl := jtbl_of (tb_0 _ (List.mem_of_getElem? (i := 74) rfl)) rfl
def mX12_hasGate : jMt := (yX12_hasGate, cX12_hasGate, 2, (some .boolean))
set_option maxRecDepth 100000 in
theorem co_X12_hasGate : Cond.code mX12_hasGate.1 mX12_hasGate.2.1 mX12_hasGate.2.2.1 mX12_hasGate.2.2.2 ∈ jtbl := jtbl_of (tb_7 _ (List.mem_of_getElem? (i := 168) rfl)) rfl
theorem mw_X12_hasGate : jMw mX12_hasGate 1 := ⟨co_X12_hasGate, in_X12, by decide +kernel, by decide +kernel, by decide +kernel⟩
set_option maxRecDepth 100000 in
theorem im_X12_hasGate : Cond.instanceMethod mX12_hasGate.1 ∈ jtbl := jtbl_of (tb_7 _ (List.mem_of_getElem? (i := 167) rfl)) rfl
set_option maxRecDepth 100000 in
theorem se_X12_hasGate : Cond.selects mX12_hasGate.1.cls mX12_hasGate.1 mX12_hasGate.1 ∈ jtbl := jtbl_of (tb_0 _ (List.mem_of_getElem? (i := 75) rfl)) rfl
def mX12_isDown : jMt := (yX12_isDown, cX12_isDown, 3, (some .boolean))
set_option maxRecDepth 100000 in
theorem co_X12_isDown : Cond.code mX12_isDown.1 mX12_isDown.2.1 mX12_isDown.2.2.1 mX12_isDown.2.2.2 ∈ jtbl := jtbl_of (tb_7 _ (List.mem_of_getElem? (i := 172) rfl)) rfl
theorem mw_X12_isDown : jMw mX12_isDown 1 := ⟨co_X12_isDown, in_X12, by decide +kernel, by decide +kernel, by decide +kernel⟩
set_option maxRecDepth 100000 in
theorem im_X12_isDown : Cond.instanceMethod mX12_isDown.1 ∈ jtbl := jtbl_of (tb_7 _ (List.mem_of_getElem? (i := 171) rfl)) rfl
set_option maxRecDepth 100000 in
theorem se_X12_isDown : Cond.selects mX12_isDown.1.cls mX12_isDown.1 mX12_isDown.1 ∈ jtbl := jtbl_of (tb_0 _ (List.mem_of_getElem? (i := 76) rfl)) rfl
def mX12_asks : jMt := (yX12_asks, cX12_asks, 8, (some .int))
set_option maxRecDepth 100000 in
theorem co_X12_asks : Cond.code mX12_asks.1 mX12_asks.2.1 mX12_asks.2.2.1 mX12_asks.2.2.2 ∈ jtbl := jtbl_of (tb_7 _ (List.mem_of_getElem? (i := 176) rfl)) rfl
theorem mw_X12_asks : jMw mX12_asks 3 := ⟨co_X12_asks, in_X12, by decide +kernel, by decide +kernel, by decide +kernel⟩
set_option maxRecDepth 100000 in
theorem im_X12_asks : Cond.instanceMethod mX12_asks.1 ∈ jtbl := jtbl_of (tb_7 _ (List.mem_of_getElem? (i := 175) rfl)) rfl
set_option maxRecDepth 100000 in
theorem se_X12_asks : Cond.selects mX12_asks.1.cls mX12_asks.1 mX12_asks.1 ∈ jtbl := jtbl_of (tb_0 _ (List.mem_of_getElem? (i := 77) rfl)) rfl
def mX12_termOf : jMt := (yX12_termOf, cX12_termOf, 8, (some .int))
set_option maxRecDepth 100000 in
theorem co_X12_termOf : Cond.code mX12_termOf.1 mX12_termOf.2.1 mX12_termOf.2.2.1 mX12_termOf.2.2.2 ∈ jtbl := jtbl_of (tb_7 _ (List.mem_of_getElem? (i := 180) rfl)) rfl
theorem mw_X12_termOf : jMw mX12_termOf 2 := ⟨co_X12_termOf, in_X12, by decide +kernel, by decide +kernel, by decide +kernel⟩
set_option maxRecDepth 100000 in
theorem im_X12_termOf : Cond.instanceMethod mX12_termOf.1 ∈ jtbl := jtbl_of (tb_7 _ (List.mem_of_getElem? (i := 179) rfl)) rfl
set_option maxRecDepth 100000 in
theorem se_X12_termOf : Cond.selects mX12_termOf.1.cls mX12_termOf.1 mX12_termOf.1 ∈ jtbl := jtbl_of (tb_0 _ (List.mem_of_getElem? (i := 78) rfl)) rfl
def mX12_ghost : jMt := (yX12_ghost, cX12_ghost, 3, (some .int))
set_option maxRecDepth 100000 in
theorem co_X12_ghost : Cond.code mX12_ghost.1 mX12_ghost.2.1 mX12_ghost.2.2.1 mX12_ghost.2.2.2 ∈ jtbl := jtbl_of (tb_7 _ (List.mem_of_getElem? (i := 184) rfl)) rfl
theorem mw_X12_ghost : jMw mX12_ghost 2 := ⟨co_X12_ghost, in_X12, by decide +kernel, by decide +kernel, by decide +kernel⟩
set_option maxRecDepth 100000 in
theorem im_X12_ghost : Cond.instanceMethod mX12_ghost.1 ∈ jtbl := jtbl_of (tb_7 _ (List.mem_of_getElem? (i := 182) rfl)) rfl
set_option maxRecDepth 100000 in
theorem se_X12_ghost : Cond.selects mX12_ghost.1.cls mX12_ghost.1 mX12_ghost.1 ∈ jtbl := jtbl_of (tb_7 _ (List.mem_of_getElem? (i := 183) rfl)) rfl
def mX12_isGhost : jMt := (yX12_isGhost, cX12_isGhost, 2, (some .boolean))
set_option maxRecDepth 100000 in
theorem co_X12_isGhost : Cond.code mX12_isGhost.1 mX12_isGhost.2.1 mX12_isGhost.2.2.1 mX12_isGhost.2.2.2 ∈ jtbl := jtbl_of (tb_7 _ (List.mem_of_getElem? (i := 188) rfl)) rfl
theorem mw_X12_isGhost : jMw mX12_isGhost 1 := ⟨co_X12_isGhost, in_X12, by decide +kernel, by decide +kernel, by decide +kernel⟩
set_option maxRecDepth 100000 in
theorem im_X12_isGhost : Cond.instanceMethod mX12_isGhost.1 ∈ jtbl := jtbl_of (tb_7 _ (List.mem_of_getElem? (i := 187) rfl)) rfl
set_option maxRecDepth 100000 in
theorem se_X12_isGhost : Cond.selects mX12_isGhost.1.cls mX12_isGhost.1 mX12_isGhost.1 ∈ jtbl := jtbl_of (tb_0 _ (List.mem_of_getElem? (i := 79) rfl)) rfl
def mX12_isHis : jMt := (yX12_isHis, cX12_isHis, 2, (some .boolean))
set_option maxRecDepth 100000 in
theorem co_X12_isHis : Cond.code mX12_isHis.1 mX12_isHis.2.1 mX12_isHis.2.2.1 mX12_isHis.2.2.2 ∈ jtbl := jtbl_of (tb_7 _ (List.mem_of_getElem? (i := 192) rfl)) rfl
theorem mw_X12_isHis : jMw mX12_isHis 1 := ⟨co_X12_isHis, in_X12, by decide +kernel, by decide +kernel, by decide +kernel⟩
set_option maxRecDepth 100000 in
theorem im_X12_isHis : Cond.instanceMethod mX12_isHis.1 ∈ jtbl := jtbl_of (tb_7 _ (List.mem_of_getElem? (i := 191) rfl)) rfl
set_option maxRecDepth 100000 in
theorem se_X12_isHis : Cond.selects mX12_isHis.1.cls mX12_isHis.1 mX12_isHis.1 ∈ jtbl := jtbl_of (tb_0 _ (List.mem_of_getElem? (i := 80) rfl)) rfl
def mX12_cost : jMt := (yX12_cost, cX12_cost, 3, (some .int))
set_option maxRecDepth 100000 in
theorem co_X12_cost : Cond.code mX12_cost.1 mX12_cost.2.1 mX12_cost.2.2.1 mX12_cost.2.2.2 ∈ jtbl := jtbl_of (tb_7 _ (List.mem_of_getElem? (i := 196) rfl)) rfl
theorem mw_X12_cost : jMw mX12_cost 2 := ⟨co_X12_cost, in_X12, by decide +kernel, by decide +kernel, by decide +kernel⟩
set_option maxRecDepth 100000 in
theorem im_X12_cost : Cond.instanceMethod mX12_cost.1 ∈ jtbl := jtbl_of (tb_7 _ (List.mem_of_getElem? (i := 194) rfl)) rfl
set_option maxRecDepth 100000 in
theorem se_X12_cost : Cond.selects mX12_cost.1.cls mX12_cost.1 mX12_cost.1 ∈ jtbl := jtbl_of (tb_7 _ (List.mem_of_getElem? (i := 195) rfl)) rfl
def mX12_costOf : jMt := (yX12_costOf, cX12_costOf, 4, (some .int))
set_option maxRecDepth 100000 in
theorem co_X12_costOf : Cond.code mX12_costOf.1 mX12_costOf.2.1 mX12_costOf.2.2.1 mX12_costOf.2.2.2 ∈ jtbl := jtbl_of (tb_7 _ (List.mem_of_getElem? (i := 200) rfl)) rfl
theorem mw_X12_costOf : jMw mX12_costOf 2 := ⟨co_X12_costOf, in_X12, by decide +kernel, by decide +kernel, by decide +kernel⟩
set_option maxRecDepth 100000 in
theorem im_X12_costOf : Cond.instanceMethod mX12_costOf.1 ∈ jtbl := jtbl_of (tb_7 _ (List.mem_of_getElem? (i := 199) rfl)) rfl
set_option maxRecDepth 100000 in
theorem se_X12_costOf : Cond.selects mX12_costOf.1.cls mX12_costOf.1 mX12_costOf.1 ∈ jtbl := jtbl_of (tb_0 _ (List.mem_of_getElem? (i := 81) rfl)) rfl
def mX12_owesOn : jMt := (yX12_owesOn, cX12_owesOn, 3, (some .int))
set_option maxRecDepth 100000 in
theorem co_X12_owesOn : Cond.code mX12_owesOn.1 mX12_owesOn.2.1 mX12_owesOn.2.2.1 mX12_owesOn.2.2.2 ∈ jtbl := jtbl_of (tb_7 _ (List.mem_of_getElem? (i := 204) rfl)) rfl
theorem mw_X12_owesOn : jMw mX12_owesOn 2 := ⟨co_X12_owesOn, in_X12, by decide +kernel, by decide +kernel, by decide +kernel⟩
set_option maxRecDepth 100000 in
theorem im_X12_owesOn : Cond.instanceMethod mX12_owesOn.1 ∈ jtbl := jtbl_of (tb_7 _ (List.mem_of_getElem? (i := 203) rfl)) rfl
set_option maxRecDepth 100000 in
theorem se_X12_owesOn : Cond.selects mX12_owesOn.1.cls mX12_owesOn.1 mX12_owesOn.1 ∈ jtbl := jtbl_of (tb_0 _ (List.mem_of_getElem? (i := 82) rfl)) rfl
def mX12_looks : jMt := (yX12_looks, cX12_looks, 3, none)
set_option maxRecDepth 100000 in
theorem co_X12_looks : Cond.code mX12_looks.1 mX12_looks.2.1 mX12_looks.2.2.1 mX12_looks.2.2.2 ∈ jtbl := jtbl_of (tb_7 _ (List.mem_of_getElem? (i := 208) rfl)) rfl
theorem mw_X12_looks : jMw mX12_looks 2 := ⟨co_X12_looks, in_X12, by decide +kernel, by decide +kernel, by decide +kernel⟩
set_option maxRecDepth 100000 in
theorem im_X12_looks : Cond.instanceMethod mX12_looks.1 ∈ jtbl := jtbl_of (tb_7 _ (List.mem_of_getElem? (i := 207) rfl)) rfl
set_option maxRecDepth 100000 in
theorem se_X12_looks : Cond.selects mX12_looks.1.cls mX12_looks.1 mX12_looks.1 ∈ jtbl := jtbl_of (tb_0 _ (List.mem_of_getElem? (i := 83) rfl)) rfl
def mX12_isFoggy : jMt := (yX12_isFoggy, cX12_isFoggy, 1, (some .boolean))
set_option maxRecDepth 100000 in
theorem co_X12_isFoggy : Cond.code mX12_isFoggy.1 mX12_isFoggy.2.1 mX12_isFoggy.2.2.1 mX12_isFoggy.2.2.2 ∈ jtbl := jtbl_of (tb_7 _ (List.mem_of_getElem? (i := 212) rfl)) rfl
theorem mw_X12_isFoggy : jMw mX12_isFoggy 0 := ⟨co_X12_isFoggy, in_X12, by decide +kernel, by decide +kernel, by decide +kernel⟩
set_option maxRecDepth 100000 in
theorem im_X12_isFoggy : Cond.instanceMethod mX12_isFoggy.1 ∈ jtbl := jtbl_of (tb_7 _ (List.mem_of_getElem? (i := 211) rfl)) rfl
set_option maxRecDepth 100000 in
theorem se_X12_isFoggy : Cond.selects mX12_isFoggy.1.cls mX12_isFoggy.1 mX12_isFoggy.1 ∈ jtbl := jtbl_of (tb_0 _ (List.mem_of_getElem? (i := 84) rfl)) rfl
def mX12_mixed : jMt := (yX12_mixed, cX12_mixed, 3, (some .int))
set_option maxRecDepth 100000 in
theorem co_X12_mixed : Cond.code mX12_mixed.1 mX12_mixed.2.1 mX12_mixed.2.2.1 mX12_mixed.2.2.2 ∈ jtbl := jtbl_of (tb_7 _ (List.mem_of_getElem? (i := 215) rfl)) rfl
theorem mw_X12_mixed : jMw mX12_mixed 2 := ⟨co_X12_mixed, in_X12, by decide +kernel, by decide +kernel, by decide +kernel⟩
set_option maxRecDepth 100000 in
theorem sm_X12_mixed : Cond.static mX12_mixed.1 ∈ jtbl := jtbl_of (tb_7 _ (List.mem_of_getElem? (i := 214) rfl)) rfl
def mX12_rateOn : jMt := (yX12_rateOn, cX12_rateOn, 2, (some .int))
set_option maxRecDepth 100000 in
theorem co_X12_rateOn : Cond.code mX12_rateOn.1 mX12_rateOn.2.1 mX12_rateOn.2.2.1 mX12_rateOn.2.2.2 ∈ jtbl := jtbl_of (tb_7 _ (List.mem_of_getElem? (i := 220) rfl)) rfl
theorem mw_X12_rateOn : jMw mX12_rateOn 1 := ⟨co_X12_rateOn, in_X12, by decide +kernel, by decide +kernel, by decide +kernel⟩
set_option maxRecDepth 100000 in
theorem im_X12_rateOn : Cond.instanceMethod mX12_rateOn.1 ∈ jtbl := jtbl_of (tb_7 _ (List.mem_of_getElem? (i := 219) rfl)) rfl
set_option maxRecDepth 100000 in
theorem se_X12_rateOn : Cond.selects mX12_rateOn.1.cls mX12_rateOn.1 mX12_rateOn.1 ∈ jtbl := jtbl_of (tb_0 _ (List.mem_of_getElem? (i := 85) rfl)) rfl
def mX12_way : jMt := (yX12_way, cX12_way, 5, (some .int))
set_option maxRecDepth 100000 in
theorem co_X12_way : Cond.code mX12_way.1 mX12_way.2.1 mX12_way.2.2.1 mX12_way.2.2.2 ∈ jtbl := jtbl_of (tb_7 _ (List.mem_of_getElem? (i := 224) rfl)) rfl
theorem mw_X12_way : jMw mX12_way 2 := ⟨co_X12_way, in_X12, by decide +kernel, by decide +kernel, by decide +kernel⟩
set_option maxRecDepth 100000 in
theorem im_X12_way : Cond.instanceMethod mX12_way.1 ∈ jtbl := jtbl_of (tb_7 _ (List.mem_of_getElem? (i := 222) rfl)) rfl
set_option maxRecDepth 100000 in
theorem se_X12_way : Cond.selects mX12_way.1.cls mX12_way.1 mX12_way.1 ∈ jtbl := jtbl_of (tb_7 _ (List.mem_of_getElem? (i := 223) rfl)) rfl
def mX12_findsWay : jMt := (yX12_findsWay, cX12_findsWay, 5, (some .boolean))
set_option maxRecDepth 100000 in
theorem co_X12_findsWay : Cond.code mX12_findsWay.1 mX12_findsWay.2.1 mX12_findsWay.2.2.1 mX12_findsWay.2.2.2 ∈ jtbl := jtbl_of (tb_7 _ (List.mem_of_getElem? (i := 228) rfl)) rfl
theorem mw_X12_findsWay : jMw mX12_findsWay 1 := ⟨co_X12_findsWay, in_X12, by decide +kernel, by decide +kernel, by decide +kernel⟩
set_option maxRecDepth 100000 in
theorem im_X12_findsWay : Cond.instanceMethod mX12_findsWay.1 ∈ jtbl := jtbl_of (tb_7 _ (List.mem_of_getElem? (i := 227) rfl)) rfl
set_option maxRecDepth 100000 in
theorem se_X12_findsWay : Cond.selects mX12_findsWay.1.cls mX12_findsWay.1 mX12_findsWay.1 ∈ jtbl := jtbl_of (tb_0 _ (List.mem_of_getElem? (i := 86) rfl)) rfl
def mX12_fillsCosts : jMt := (yX12_fillsCosts, cX12_fillsCosts, 3, none)
set_option maxRecDepth 100000 in
theorem co_X12_fillsCosts : Cond.code mX12_fillsCosts.1 mX12_fillsCosts.2.1 mX12_fillsCosts.2.2.1 mX12_fillsCosts.2.2.2 ∈ jtbl := jtbl_of (tb_7 _ (List.mem_of_getElem? (i := 232) rfl)) rfl
theorem mw_X12_fillsCosts : jMw mX12_fillsCosts 1 := ⟨co_X12_fillsCosts, in_X12, by decide +kernel, by decide +kernel, by decide +kernel⟩
set_option maxRecDepth 100000 in
theorem im_X12_fillsCosts : Cond.instanceMethod mX12_fillsCosts.1 ∈ jtbl := jtbl_of (tb_7 _ (List.mem_of_getElem? (i := 231) rfl)) rfl
set_option maxRecDepth 100000 in
theorem se_X12_fillsCosts : Cond.selects mX12_fillsCosts.1.cls mX12_fillsCosts.1 mX12_fillsCosts.1 ∈ jtbl := jtbl_of (tb_0 _ (List.mem_of_getElem? (i := 87) rfl)) rfl
def mX12_fillsLeft : jMt := (yX12_fillsLeft, cX12_fillsLeft, 7, none)
set_option maxRecDepth 100000 in
theorem co_X12_fillsLeft : Cond.code mX12_fillsLeft.1 mX12_fillsLeft.2.1 mX12_fillsLeft.2.2.1 mX12_fillsLeft.2.2.2 ∈ jtbl := jtbl_of (tb_7 _ (List.mem_of_getElem? (i := 236) rfl)) rfl
theorem mw_X12_fillsLeft : jMw mX12_fillsLeft 1 := ⟨co_X12_fillsLeft, in_X12, by decide +kernel, by decide +kernel, by decide +kernel⟩
set_option maxRecDepth 100000 in
theorem im_X12_fillsLeft : Cond.instanceMethod mX12_fillsLeft.1 ∈ jtbl := jtbl_of (tb_7 _ (List.mem_of_getElem? (i := 235) rfl)) rfl
set_option maxRecDepth 100000 in
theorem se_X12_fillsLeft : Cond.selects mX12_fillsLeft.1.cls mX12_fillsLeft.1 mX12_fillsLeft.1 ∈ jtbl := jtbl_of (tb_0 _ (List.mem_of_getElem? (i := 88) rfl)) rfl
def mX12_through : jMt := (yX12_through, cX12_through, 4, (some .int))
set_option maxRecDepth 100000 in
theorem co_X12_through : Cond.code mX12_through.1 mX12_through.2.1 mX12_through.2.2.1 mX12_through.2.2.2 ∈ jtbl := jtbl_of (tb_8 _ (List.mem_of_getElem? (i := 0) rfl)) rfl
theorem mw_X12_through : jMw mX12_through 2 := ⟨co_X12_through, in_X12, by decide +kernel, by decide +kernel, by decide +kernel⟩
set_option maxRecDepth 100000 in
theorem im_X12_through : Cond.instanceMethod mX12_through.1 ∈ jtbl := jtbl_of (tb_7 _ (List.mem_of_getElem? (i := 239) rfl)) rfl
set_option maxRecDepth 100000 in
theorem se_X12_through : Cond.selects mX12_through.1.cls mX12_through.1 mX12_through.1 ∈ jtbl := jtbl_of (tb_0 _ (List.mem_of_getElem? (i := 89) rfl)) rfl
def mX12_firstRoad : jMt := (yX12_firstRoad, cX12_firstRoad, 4, (some .int))
set_option maxRecDepth 100000 in
theorem co_X12_firstRoad : Cond.code mX12_firstRoad.1 mX12_firstRoad.2.1 mX12_firstRoad.2.2.1 mX12_firstRoad.2.2.2 ∈ jtbl := jtbl_of (tb_8 _ (List.mem_of_getElem? (i := 4) rfl)) rfl
theorem mw_X12_firstRoad : jMw mX12_firstRoad 1 := ⟨co_X12_firstRoad, in_X12, by decide +kernel, by decide +kernel, by decide +kernel⟩
set_option maxRecDepth 100000 in
theorem im_X12_firstRoad : Cond.instanceMethod mX12_firstRoad.1 ∈ jtbl := jtbl_of (tb_8 _ (List.mem_of_getElem? (i := 3) rfl)) rfl
set_option maxRecDepth 100000 in
theorem se_X12_firstRoad : Cond.selects mX12_firstRoad.1.cls mX12_firstRoad.1 mX12_firstRoad.1 ∈ jtbl := jtbl_of (tb_0 _ (List.mem_of_getElem? (i := 90) rfl)) rfl
def mX12_paysByWay : jMt := (yX12_paysByWay, cX12_paysByWay, 5, (some .int))
set_option maxRecDepth 100000 in
theorem co_X12_paysByWay : Cond.code mX12_paysByWay.1 mX12_paysByWay.2.1 mX12_paysByWay.2.2.1 mX12_paysByWay.2.2.2 ∈ jtbl := jtbl_of (tb_8 _ (List.mem_of_getElem? (i := 8) rfl)) rfl
theorem mw_X12_paysByWay : jMw mX12_paysByWay 1 := ⟨co_X12_paysByWay, in_X12, by decide +kernel, by decide +kernel, by decide +kernel⟩
set_option maxRecDepth 100000 in
theorem im_X12_paysByWay : Cond.instanceMethod mX12_paysByWay.1 ∈ jtbl := jtbl_of (tb_8 _ (List.mem_of_getElem? (i := 7) rfl)) rfl
set_option maxRecDepth 100000 in
theorem se_X12_paysByWay : Cond.selects mX12_paysByWay.1.cls mX12_paysByWay.1 mX12_paysByWay.1 ∈ jtbl := jtbl_of (tb_0 _ (List.mem_of_getElem? (i := 91) rfl)) rfl
def mX12_wayAt : jMt := (yX12_wayAt, cX12_wayAt, 3, (some .int))
set_option maxRecDepth 100000 in
theorem co_X12_wayAt : Cond.code mX12_wayAt.1 mX12_wayAt.2.1 mX12_wayAt.2.2.1 mX12_wayAt.2.2.2 ∈ jtbl := jtbl_of (tb_8 _ (List.mem_of_getElem? (i := 12) rfl)) rfl
theorem mw_X12_wayAt : jMw mX12_wayAt 2 := ⟨co_X12_wayAt, in_X12, by decide +kernel, by decide +kernel, by decide +kernel⟩
set_option maxRecDepth 100000 in
theorem im_X12_wayAt : Cond.instanceMethod mX12_wayAt.1 ∈ jtbl := jtbl_of (tb_8 _ (List.mem_of_getElem? (i := 10) rfl)) rfl
set_option maxRecDepth 100000 in
theorem se_X12_wayAt : Cond.selects mX12_wayAt.1.cls mX12_wayAt.1 mX12_wayAt.1 ∈ jtbl := jtbl_of (tb_8 _ (List.mem_of_getElem? (i := 11) rfl)) rfl
def mX12_gate : jMt := (yX12_gate, cX12_gate, 3, (some .boolean))
set_option maxRecDepth 100000 in
theorem co_X12_gate : Cond.code mX12_gate.1 mX12_gate.2.1 mX12_gate.2.2.1 mX12_gate.2.2.2 ∈ jtbl := jtbl_of (tb_8 _ (List.mem_of_getElem? (i := 16) rfl)) rfl
theorem mw_X12_gate : jMw mX12_gate 2 := ⟨co_X12_gate, in_X12, by decide +kernel, by decide +kernel, by decide +kernel⟩
set_option maxRecDepth 100000 in
theorem im_X12_gate : Cond.instanceMethod mX12_gate.1 ∈ jtbl := jtbl_of (tb_8 _ (List.mem_of_getElem? (i := 14) rfl)) rfl
set_option maxRecDepth 100000 in
theorem se_X12_gate : Cond.selects mX12_gate.1.cls mX12_gate.1 mX12_gate.1 ∈ jtbl := jtbl_of (tb_8 _ (List.mem_of_getElem? (i := 15) rfl)) rfl
def mX12_keeps : jMt := (yX12_keeps, cX12_keeps, 2, none)
set_option maxRecDepth 100000 in
theorem co_X12_keeps : Cond.code mX12_keeps.1 mX12_keeps.2.1 mX12_keeps.2.2.1 mX12_keeps.2.2.2 ∈ jtbl := jtbl_of (tb_8 _ (List.mem_of_getElem? (i := 20) rfl)) rfl
theorem mw_X12_keeps : jMw mX12_keeps 0 := ⟨co_X12_keeps, in_X12, by decide +kernel, by decide +kernel, by decide +kernel⟩
set_option maxRecDepth 100000 in
theorem im_X12_keeps : Cond.instanceMethod mX12_keeps.1 ∈ jtbl := jtbl_of (tb_8 _ (List.mem_of_getElem? (i := 19) rfl)) rfl
set_option maxRecDepth 100000 in
theorem se_X12_keeps : Cond.selects mX12_keeps.1.cls mX12_keeps.1 mX12_keeps.1 ∈ jtbl := jtbl_of (tb_0 _ (List.mem_of_getElem? (i := 92) rfl)) rfl
def mX12_rate : jMt := (yX12_rate, cX12_rate, 2, (some .boolean))
set_option maxRecDepth 100000 in
theorem co_X12_rate : Cond.code mX12_rate.1 mX12_rate.2.1 mX12_rate.2.2.1 mX12_rate.2.2.2 ∈ jtbl := jtbl_of (tb_8 _ (List.mem_of_getElem? (i := 24) rfl)) rfl
theorem mw_X12_rate : jMw mX12_rate 1 := ⟨co_X12_rate, in_X12, by decide +kernel, by decide +kernel, by decide +kernel⟩
set_option maxRecDepth 100000 in
theorem im_X12_rate : Cond.instanceMethod mX12_rate.1 ∈ jtbl := jtbl_of (tb_8 _ (List.mem_of_getElem? (i := 22) rfl)) rfl
set_option maxRecDepth 100000 in
theorem se_X12_rate : Cond.selects mX12_rate.1.cls mX12_rate.1 mX12_rate.1 ∈ jtbl := jtbl_of (tb_8 _ (List.mem_of_getElem? (i := 23) rfl)) rfl
def mX12_mend : jMt := (yX12_mend, cX12_mend, 2, (some .int))
set_option maxRecDepth 100000 in
theorem co_X12_mend : Cond.code mX12_mend.1 mX12_mend.2.1 mX12_mend.2.2.1 mX12_mend.2.2.2 ∈ jtbl := jtbl_of (tb_8 _ (List.mem_of_getElem? (i := 28) rfl)) rfl
theorem mw_X12_mend : jMw mX12_mend 1 := ⟨co_X12_mend, in_X12, by decide +kernel, by decide +kernel, by decide +kernel⟩
set_option maxRecDepth 100000 in
theorem im_X12_mend : Cond.instanceMethod mX12_mend.1 ∈ jtbl := jtbl_of (tb_8 _ (List.mem_of_getElem? (i := 26) rfl)) rfl
set_option maxRecDepth 100000 in
theorem se_X12_mend : Cond.selects mX12_mend.1.cls mX12_mend.1 mX12_mend.1 ∈ jtbl := jtbl_of (tb_8 _ (List.mem_of_getElem? (i := 27) rfl)) rfl
def mX12_nights : jMt := (yX12_nights, cX12_nights, 2, (some .int))
set_option maxRecDepth 100000 in
theorem co_X12_nights : Cond.code mX12_nights.1 mX12_nights.2.1 mX12_nights.2.2.1 mX12_nights.2.2.2 ∈ jtbl := jtbl_of (tb_8 _ (List.mem_of_getElem? (i := 32) rfl)) rfl
theorem mw_X12_nights : jMw mX12_nights 1 := ⟨co_X12_nights, in_X12, by decide +kernel, by decide +kernel, by decide +kernel⟩
set_option maxRecDepth 100000 in
theorem im_X12_nights : Cond.instanceMethod mX12_nights.1 ∈ jtbl := jtbl_of (tb_8 _ (List.mem_of_getElem? (i := 30) rfl)) rfl
set_option maxRecDepth 100000 in
theorem se_X12_nights : Cond.selects mX12_nights.1.cls mX12_nights.1 mX12_nights.1 ∈ jtbl := jtbl_of (tb_8 _ (List.mem_of_getElem? (i := 31) rfl)) rfl
def mX12_goes : jMt := (yX12_goes, cX12_goes, 3, none)
set_option maxRecDepth 100000 in
theorem co_X12_goes : Cond.code mX12_goes.1 mX12_goes.2.1 mX12_goes.2.2.1 mX12_goes.2.2.2 ∈ jtbl := jtbl_of (tb_8 _ (List.mem_of_getElem? (i := 36) rfl)) rfl
theorem mw_X12_goes : jMw mX12_goes 1 := ⟨co_X12_goes, in_X12, by decide +kernel, by decide +kernel, by decide +kernel⟩
set_option maxRecDepth 100000 in
theorem im_X12_goes : Cond.instanceMethod mX12_goes.1 ∈ jtbl := jtbl_of (tb_8 _ (List.mem_of_getElem? (i := 35) rfl)) rfl
set_option maxRecDepth 100000 in
theorem se_X12_goes : Cond.selects mX12_goes.1.cls mX12_goes.1 mX12_goes.1 ∈ jtbl := jtbl_of (tb_0 _ (List.mem_of_getElem? (i := 93) rfl)) rfl
def mX12_nightGoes : jMt := (yX12_nightGoes, cX12_nightGoes, 2, none)
set_option maxRecDepth 100000 in
theorem co_X12_nightGoes : Cond.code mX12_nightGoes.1 mX12_nightGoes.2.1 mX12_nightGoes.2.2.1 mX12_nightGoes.2.2.2 ∈ jtbl := jtbl_of (tb_8 _ (List.mem_of_getElem? (i := 40) rfl)) rfl
theorem mw_X12_nightGoes : jMw mX12_nightGoes 0 := ⟨co_X12_nightGoes, in_X12, by decide +kernel, by decide +kernel, by decide +kernel⟩
set_option maxRecDepth 100000 in
theorem im_X12_nightGoes : Cond.instanceMethod mX12_nightGoes.1 ∈ jtbl := jtbl_of (tb_8 _ (List.mem_of_getElem? (i := 39) rfl)) rfl
set_option maxRecDepth 100000 in
theorem se_X12_nightGoes : Cond.selects mX12_nightGoes.1.cls mX12_nightGoes.1 mX12_nightGoes.1 ∈ jtbl := jtbl_of (tb_0 _ (List.mem_of_getElem? (i := 94) rfl)) rfl
def mX12_goesHis : jMt := (yX12_goesHis, cX12_goesHis, 6, none)
set_option maxRecDepth 100000 in
theorem co_X12_goesHis : Cond.code mX12_goesHis.1 mX12_goesHis.2.1 mX12_goesHis.2.2.1 mX12_goesHis.2.2.2 ∈ jtbl := jtbl_of (tb_8 _ (List.mem_of_getElem? (i := 44) rfl)) rfl
theorem mw_X12_goesHis : jMw mX12_goesHis 1 := ⟨co_X12_goesHis, in_X12, by decide +kernel, by decide +kernel, by decide +kernel⟩
set_option maxRecDepth 100000 in
theorem im_X12_goesHis : Cond.instanceMethod mX12_goesHis.1 ∈ jtbl := jtbl_of (tb_8 _ (List.mem_of_getElem? (i := 43) rfl)) rfl
set_option maxRecDepth 100000 in
theorem se_X12_goesHis : Cond.selects mX12_goesHis.1.cls mX12_goesHis.1 mX12_goesHis.1 ∈ jtbl := jtbl_of (tb_0 _ (List.mem_of_getElem? (i := 95) rfl)) rfl
def mX12_undo : jMt := (yX12_undo, cX12_undo, 2, (some .boolean))
set_option maxRecDepth 100000 in
theorem co_X12_undo : Cond.code mX12_undo.1 mX12_undo.2.1 mX12_undo.2.2.1 mX12_undo.2.2.2 ∈ jtbl := jtbl_of (tb_8 _ (List.mem_of_getElem? (i := 48) rfl)) rfl
theorem mw_X12_undo : jMw mX12_undo 0 := ⟨co_X12_undo, in_X12, by decide +kernel, by decide +kernel, by decide +kernel⟩
set_option maxRecDepth 100000 in
theorem im_X12_undo : Cond.instanceMethod mX12_undo.1 ∈ jtbl := jtbl_of (tb_8 _ (List.mem_of_getElem? (i := 46) rfl)) rfl
set_option maxRecDepth 100000 in
theorem se_X12_undo : Cond.selects mX12_undo.1.cls mX12_undo.1 mX12_undo.1 ∈ jtbl := jtbl_of (tb_8 _ (List.mem_of_getElem? (i := 47) rfl)) rfl
def mX12_tonight : jMt := (yX12_tonight, cX12_tonight, 2, (some .int))
set_option maxRecDepth 100000 in
theorem co_X12_tonight : Cond.code mX12_tonight.1 mX12_tonight.2.1 mX12_tonight.2.2.1 mX12_tonight.2.2.2 ∈ jtbl := jtbl_of (tb_8 _ (List.mem_of_getElem? (i := 52) rfl)) rfl
theorem mw_X12_tonight : jMw mX12_tonight 1 := ⟨co_X12_tonight, in_X12, by decide +kernel, by decide +kernel, by decide +kernel⟩
set_option maxRecDepth 100000 in
theorem im_X12_tonight : Cond.instanceMethod mX12_tonight.1 ∈ jtbl := jtbl_of (tb_8 _ (List.mem_of_getElem? (i := 50) rfl)) rfl
set_option maxRecDepth 100000 in
theorem se_X12_tonight : Cond.selects mX12_tonight.1.cls mX12_tonight.1 mX12_tonight.1 ∈ jtbl := jtbl_of (tb_8 _ (List.mem_of_getElem? (i := 51) rfl)) rfl
def mX12_moreIn : jMt := (yX12_moreIn, cX12_moreIn, 5, (some .int))
set_option maxRecDepth 100000 in
theorem co_X12_moreIn : Cond.code mX12_moreIn.1 mX12_moreIn.2.1 mX12_moreIn.2.2.1 mX12_moreIn.2.2.2 ∈ jtbl := jtbl_of (tb_8 _ (List.mem_of_getElem? (i := 56) rfl)) rfl
theorem mw_X12_moreIn : jMw mX12_moreIn 2 := ⟨co_X12_moreIn, in_X12, by decide +kernel, by decide +kernel, by decide +kernel⟩
set_option maxRecDepth 100000 in
theorem im_X12_moreIn : Cond.instanceMethod mX12_moreIn.1 ∈ jtbl := jtbl_of (tb_8 _ (List.mem_of_getElem? (i := 55) rfl)) rfl
set_option maxRecDepth 100000 in
theorem se_X12_moreIn : Cond.selects mX12_moreIn.1.cls mX12_moreIn.1 mX12_moreIn.1 ∈ jtbl := jtbl_of (tb_0 _ (List.mem_of_getElem? (i := 96) rfl)) rfl
def mX12_put : jMt := (yX12_put, cX12_put, 4, (some .int))
set_option maxRecDepth 100000 in
theorem co_X12_put : Cond.code mX12_put.1 mX12_put.2.1 mX12_put.2.2.1 mX12_put.2.2.2 ∈ jtbl := jtbl_of (tb_8 _ (List.mem_of_getElem? (i := 60) rfl)) rfl
theorem mw_X12_put : jMw mX12_put 3 := ⟨co_X12_put, in_X12, by decide +kernel, by decide +kernel, by decide +kernel⟩
set_option maxRecDepth 100000 in
theorem im_X12_put : Cond.instanceMethod mX12_put.1 ∈ jtbl := jtbl_of (tb_8 _ (List.mem_of_getElem? (i := 58) rfl)) rfl
set_option maxRecDepth 100000 in
theorem se_X12_put : Cond.selects mX12_put.1.cls mX12_put.1 mX12_put.1 ∈ jtbl := jtbl_of (tb_8 _ (List.mem_of_getElem? (i := 59) rfl)) rfl
def mX12_fillsPut : jMt := (yX12_fillsPut, cX12_fillsPut, 4, none)
set_option maxRecDepth 100000 in
theorem co_X12_fillsPut : Cond.code mX12_fillsPut.1 mX12_fillsPut.2.1 mX12_fillsPut.2.2.1 mX12_fillsPut.2.2.2 ∈ jtbl := jtbl_of (tb_8 _ (List.mem_of_getElem? (i := 64) rfl)) rfl
theorem mw_X12_fillsPut : jMw mX12_fillsPut 2 := ⟨co_X12_fillsPut, in_X12, by decide +kernel, by decide +kernel, by decide +kernel⟩
set_option maxRecDepth 100000 in
theorem im_X12_fillsPut : Cond.instanceMethod mX12_fillsPut.1 ∈ jtbl := jtbl_of (tb_8 _ (List.mem_of_getElem? (i := 63) rfl)) rfl
set_option maxRecDepth 100000 in
theorem se_X12_fillsPut : Cond.selects mX12_fillsPut.1.cls mX12_fillsPut.1 mX12_fillsPut.1 ∈ jtbl := jtbl_of (tb_0 _ (List.mem_of_getElem? (i := 97) rfl)) rfl
def mX12_bits : jMt := (yX12_bits, cX12_bits, 3, (some .int))
set_option maxRecDepth 100000 in
theorem co_X12_bits : Cond.code mX12_bits.1 mX12_bits.2.1 mX12_bits.2.2.1 mX12_bits.2.2.2 ∈ jtbl := jtbl_of (tb_8 _ (List.mem_of_getElem? (i := 67) rfl)) rfl
theorem mw_X12_bits : jMw mX12_bits 1 := ⟨co_X12_bits, in_X12, by decide +kernel, by decide +kernel, by decide +kernel⟩
set_option maxRecDepth 100000 in
theorem sm_X12_bits : Cond.static mX12_bits.1 ∈ jtbl := jtbl_of (tb_8 _ (List.mem_of_getElem? (i := 66) rfl)) rfl
def mX12_free : jMt := (yX12_free, cX12_free, 1, (some .int))
set_option maxRecDepth 100000 in
theorem co_X12_free : Cond.code mX12_free.1 mX12_free.2.1 mX12_free.2.2.1 mX12_free.2.2.2 ∈ jtbl := jtbl_of (tb_8 _ (List.mem_of_getElem? (i := 71) rfl)) rfl
theorem mw_X12_free : jMw mX12_free 0 := ⟨co_X12_free, in_X12, by decide +kernel, by decide +kernel, by decide +kernel⟩
set_option maxRecDepth 100000 in
theorem im_X12_free : Cond.instanceMethod mX12_free.1 ∈ jtbl := jtbl_of (tb_8 _ (List.mem_of_getElem? (i := 69) rfl)) rfl
set_option maxRecDepth 100000 in
theorem se_X12_free : Cond.selects mX12_free.1.cls mX12_free.1 mX12_free.1 ∈ jtbl := jtbl_of (tb_8 _ (List.mem_of_getElem? (i := 70) rfl)) rfl
def mX12_freeNow : jMt := (yX12_freeNow, cX12_freeNow, 3, (some .int))
set_option maxRecDepth 100000 in
theorem co_X12_freeNow : Cond.code mX12_freeNow.1 mX12_freeNow.2.1 mX12_freeNow.2.2.1 mX12_freeNow.2.2.2 ∈ jtbl := jtbl_of (tb_8 _ (List.mem_of_getElem? (i := 75) rfl)) rfl
theorem mw_X12_freeNow : jMw mX12_freeNow 0 := ⟨co_X12_freeNow, in_X12, by decide +kernel, by decide +kernel, by decide +kernel⟩
set_option maxRecDepth 100000 in
theorem im_X12_freeNow : Cond.instanceMethod mX12_freeNow.1 ∈ jtbl := jtbl_of (tb_8 _ (List.mem_of_getElem? (i := 74) rfl)) rfl
set_option maxRecDepth 100000 in
theorem se_X12_freeNow : Cond.selects mX12_freeNow.1.cls mX12_freeNow.1 mX12_freeNow.1 ∈ jtbl := jtbl_of (tb_0 _ (List.mem_of_getElem? (i := 98) rfl)) rfl
def mX12_isFree : jMt := (yX12_isFree, cX12_isFree, 3, (some .boolean))
set_option maxRecDepth 100000 in
theorem co_X12_isFree : Cond.code mX12_isFree.1 mX12_isFree.2.1 mX12_isFree.2.2.1 mX12_isFree.2.2.2 ∈ jtbl := jtbl_of (tb_8 _ (List.mem_of_getElem? (i := 79) rfl)) rfl
theorem mw_X12_isFree : jMw mX12_isFree 1 := ⟨co_X12_isFree, in_X12, by decide +kernel, by decide +kernel, by decide +kernel⟩
set_option maxRecDepth 100000 in
theorem im_X12_isFree : Cond.instanceMethod mX12_isFree.1 ∈ jtbl := jtbl_of (tb_8 _ (List.mem_of_getElem? (i := 78) rfl)) rfl
set_option maxRecDepth 100000 in
theorem se_X12_isFree : Cond.selects mX12_isFree.1.cls mX12_isFree.1 mX12_isFree.1 ∈ jtbl := jtbl_of (tb_0 _ (List.mem_of_getElem? (i := 99) rfl)) rfl
def mX12_stop : jMt := (yX12_stop, cX12_stop, 4, (some .int))
set_option maxRecDepth 100000 in
theorem co_X12_stop : Cond.code mX12_stop.1 mX12_stop.2.1 mX12_stop.2.2.1 mX12_stop.2.2.2 ∈ jtbl := jtbl_of (tb_8 _ (List.mem_of_getElem? (i := 83) rfl)) rfl
theorem mw_X12_stop : jMw mX12_stop 1 := ⟨co_X12_stop, in_X12, by decide +kernel, by decide +kernel, by decide +kernel⟩
set_option maxRecDepth 100000 in
theorem im_X12_stop : Cond.instanceMethod mX12_stop.1 ∈ jtbl := jtbl_of (tb_8 _ (List.mem_of_getElem? (i := 81) rfl)) rfl
set_option maxRecDepth 100000 in
theorem se_X12_stop : Cond.selects mX12_stop.1.cls mX12_stop.1 mX12_stop.1 ∈ jtbl := jtbl_of (tb_8 _ (List.mem_of_getElem? (i := 82) rfl)) rfl
def mX12_saves : jMt := (yX12_saves, cX12_saves, 3, (some .int))
set_option maxRecDepth 100000 in
theorem co_X12_saves : Cond.code mX12_saves.1 mX12_saves.2.1 mX12_saves.2.2.1 mX12_saves.2.2.2 ∈ jtbl := jtbl_of (tb_8 _ (List.mem_of_getElem? (i := 87) rfl)) rfl
theorem mw_X12_saves : jMw mX12_saves 1 := ⟨co_X12_saves, in_X12, by decide +kernel, by decide +kernel, by decide +kernel⟩
set_option maxRecDepth 100000 in
theorem im_X12_saves : Cond.instanceMethod mX12_saves.1 ∈ jtbl := jtbl_of (tb_8 _ (List.mem_of_getElem? (i := 85) rfl)) rfl
set_option maxRecDepth 100000 in
theorem se_X12_saves : Cond.selects mX12_saves.1.cls mX12_saves.1 mX12_saves.1 ∈ jtbl := jtbl_of (tb_8 _ (List.mem_of_getElem? (i := 86) rfl)) rfl
def mX12_pays : jMt := (yX12_pays, cX12_pays, 3, (some .int))
set_option maxRecDepth 100000 in
theorem co_X12_pays : Cond.code mX12_pays.1 mX12_pays.2.1 mX12_pays.2.2.1 mX12_pays.2.2.2 ∈ jtbl := jtbl_of (tb_8 _ (List.mem_of_getElem? (i := 91) rfl)) rfl
theorem mw_X12_pays : jMw mX12_pays 2 := ⟨co_X12_pays, in_X12, by decide +kernel, by decide +kernel, by decide +kernel⟩
set_option maxRecDepth 100000 in
theorem im_X12_pays : Cond.instanceMethod mX12_pays.1 ∈ jtbl := jtbl_of (tb_8 _ (List.mem_of_getElem? (i := 89) rfl)) rfl
set_option maxRecDepth 100000 in
theorem se_X12_pays : Cond.selects mX12_pays.1.cls mX12_pays.1 mX12_pays.1 ∈ jtbl := jtbl_of (tb_8 _ (List.mem_of_getElem? (i := 90) rfl)) rfl
def mX12_isLong : jMt := (yX12_isLong, cX12_isLong, 1, (some .boolean))
set_option maxRecDepth 100000 in
theorem co_X12_isLong : Cond.code mX12_isLong.1 mX12_isLong.2.1 mX12_isLong.2.2.1 mX12_isLong.2.2.2 ∈ jtbl := jtbl_of (tb_8 _ (List.mem_of_getElem? (i := 94) rfl)) rfl
theorem mw_X12_isLong : jMw mX12_isLong 1 := ⟨co_X12_isLong, in_X12, by decide +kernel, by decide +kernel, by decide +kernel⟩
set_option maxRecDepth 100000 in
theorem sm_X12_isLong : Cond.static mX12_isLong.1 ∈ jtbl := jtbl_of (tb_8 _ (List.mem_of_getElem? (i := 93) rfl)) rfl
def mX12_seen : jMt := (yX12_seen, cX12_seen, 3, (some .int))
set_option maxRecDepth 100000 in
theorem co_X12_seen : Cond.code mX12_seen.1 mX12_seen.2.1 mX12_seen.2.2.1 mX12_seen.2.2.2 ∈ jtbl := jtbl_of (tb_8 _ (List.mem_of_getElem? (i := 98) rfl)) rfl
theorem mw_X12_seen : jMw mX12_seen 2 := ⟨co_X12_seen, in_X12, by decide +kernel, by decide +kernel, by decide +kernel⟩
set_option maxRecDepth 100000 in
theorem im_X12_seen : Cond.instanceMethod mX12_seen.1 ∈ jtbl := jtbl_of (tb_8 _ (List.mem_of_getElem? (i := 96) rfl)) rfl
set_option maxRecDepth 100000 in
theorem se_X12_seen : Cond.selects mX12_seen.1.cls mX12_seen.1 mX12_seen.1 ∈ jtbl := jtbl_of (tb_8 _ (List.mem_of_getElem? (i := 97) rfl)) rfl
def mX12_busiest : jMt := (yX12_busiest, cX12_busiest, 5, (some .int))
set_option maxRecDepth 100000 in
theorem co_X12_busiest : Cond.code mX12_busiest.1 mX12_busiest.2.1 mX12_busiest.2.2.1 mX12_busiest.2.2.2 ∈ jtbl := jtbl_of (tb_8 _ (List.mem_of_getElem? (i := 102) rfl)) rfl
theorem mw_X12_busiest : jMw mX12_busiest 2 := ⟨co_X12_busiest, in_X12, by decide +kernel, by decide +kernel, by decide +kernel⟩
set_option maxRecDepth 100000 in
theorem im_X12_busiest : Cond.instanceMethod mX12_busiest.1 ∈ jtbl := jtbl_of (tb_8 _ (List.mem_of_getElem? (i := 100) rfl)) rfl
set_option maxRecDepth 100000 in
theorem se_X12_busiest : Cond.selects mX12_busiest.1.cls mX12_busiest.1 mX12_busiest.1 ∈ jtbl := jtbl_of (tb_8 _ (List.mem_of_getElem? (i := 101) rfl)) rfl
def mX12_best : jMt := (yX12_best, cX12_best, 6, (some .int))
set_option maxRecDepth 100000 in
theorem co_X12_best : Cond.code mX12_best.1 mX12_best.2.1 mX12_best.2.2.1 mX12_best.2.2.2 ∈ jtbl := jtbl_of (tb_8 _ (List.mem_of_getElem? (i := 106) rfl)) rfl
theorem mw_X12_best : jMw mX12_best 2 := ⟨co_X12_best, in_X12, by decide +kernel, by decide +kernel, by decide +kernel⟩
set_option maxRecDepth 100000 in
theorem im_X12_best : Cond.instanceMethod mX12_best.1 ∈ jtbl := jtbl_of (tb_8 _ (List.mem_of_getElem? (i := 104) rfl)) rfl
set_option maxRecDepth 100000 in
theorem se_X12_best : Cond.selects mX12_best.1.cls mX12_best.1 mX12_best.1 ∈ jtbl := jtbl_of (tb_8 _ (List.mem_of_getElem? (i := 105) rfl)) rfl
def mX12_keepers : jMt := (yX12_keepers, cX12_keepers, 5, (some .int))
set_option maxRecDepth 100000 in
theorem co_X12_keepers : Cond.code mX12_keepers.1 mX12_keepers.2.1 mX12_keepers.2.2.1 mX12_keepers.2.2.2 ∈ jtbl := jtbl_of (tb_8 _ (List.mem_of_getElem? (i := 110) rfl)) rfl
theorem mw_X12_keepers : jMw mX12_keepers 2 := ⟨co_X12_keepers, in_X12, by decide +kernel, by decide +kernel, by decide +kernel⟩
set_option maxRecDepth 100000 in
theorem im_X12_keepers : Cond.instanceMethod mX12_keepers.1 ∈ jtbl := jtbl_of (tb_8 _ (List.mem_of_getElem? (i := 108) rfl)) rfl
set_option maxRecDepth 100000 in
theorem se_X12_keepers : Cond.selects mX12_keepers.1.cls mX12_keepers.1 mX12_keepers.1 ∈ jtbl := jtbl_of (tb_8 _ (List.mem_of_getElem? (i := 109) rfl)) rfl
def mX12_fillsTaken : jMt := (yX12_fillsTaken, cX12_fillsTaken, 4, none)
set_option maxRecDepth 100000 in
theorem co_X12_fillsTaken : Cond.code mX12_fillsTaken.1 mX12_fillsTaken.2.1 mX12_fillsTaken.2.2.1 mX12_fillsTaken.2.2.2 ∈ jtbl := jtbl_of (tb_8 _ (List.mem_of_getElem? (i := 114) rfl)) rfl
theorem mw_X12_fillsTaken : jMw mX12_fillsTaken 1 := ⟨co_X12_fillsTaken, in_X12, by decide +kernel, by decide +kernel, by decide +kernel⟩
set_option maxRecDepth 100000 in
theorem im_X12_fillsTaken : Cond.instanceMethod mX12_fillsTaken.1 ∈ jtbl := jtbl_of (tb_8 _ (List.mem_of_getElem? (i := 113) rfl)) rfl
set_option maxRecDepth 100000 in
theorem se_X12_fillsTaken : Cond.selects mX12_fillsTaken.1.cls mX12_fillsTaken.1 mX12_fillsTaken.1 ∈ jtbl := jtbl_of (tb_0 _ (List.mem_of_getElem? (i := 100) rfl)) rfl
def mX12_isResting : jMt := (yX12_isResting, cX12_isResting, 3, (some .boolean))
set_option maxRecDepth 100000 in
theorem co_X12_isResting : Cond.code mX12_isResting.1 mX12_isResting.2.1 mX12_isResting.2.2.1 mX12_isResting.2.2.2 ∈ jtbl := jtbl_of (tb_8 _ (List.mem_of_getElem? (i := 118) rfl)) rfl
theorem mw_X12_isResting : jMw mX12_isResting 1 := ⟨co_X12_isResting, in_X12, by decide +kernel, by decide +kernel, by decide +kernel⟩
set_option maxRecDepth 100000 in
theorem im_X12_isResting : Cond.instanceMethod mX12_isResting.1 ∈ jtbl := jtbl_of (tb_8 _ (List.mem_of_getElem? (i := 117) rfl)) rfl
set_option maxRecDepth 100000 in
theorem se_X12_isResting : Cond.selects mX12_isResting.1.cls mX12_isResting.1 mX12_isResting.1 ∈ jtbl := jtbl_of (tb_0 _ (List.mem_of_getElem? (i := 101) rfl)) rfl
def mX12_breaks : jMt := (yX12_breaks, cX12_breaks, 3, (some .int))
set_option maxRecDepth 100000 in
theorem co_X12_breaks : Cond.code mX12_breaks.1 mX12_breaks.2.1 mX12_breaks.2.2.1 mX12_breaks.2.2.2 ∈ jtbl := jtbl_of (tb_8 _ (List.mem_of_getElem? (i := 122) rfl)) rfl
theorem mw_X12_breaks : jMw mX12_breaks 1 := ⟨co_X12_breaks, in_X12, by decide +kernel, by decide +kernel, by decide +kernel⟩
set_option maxRecDepth 100000 in
theorem im_X12_breaks : Cond.instanceMethod mX12_breaks.1 ∈ jtbl := jtbl_of (tb_8 _ (List.mem_of_getElem? (i := 120) rfl)) rfl
set_option maxRecDepth 100000 in
theorem se_X12_breaks : Cond.selects mX12_breaks.1.cls mX12_breaks.1 mX12_breaks.1 ∈ jtbl := jtbl_of (tb_8 _ (List.mem_of_getElem? (i := 121) rfl)) rfl
def mX12_first : jMt := (yX12_first, cX12_first, 6, (some .int))
set_option maxRecDepth 100000 in
theorem co_X12_first : Cond.code mX12_first.1 mX12_first.2.1 mX12_first.2.2.1 mX12_first.2.2.2 ∈ jtbl := jtbl_of (tb_8 _ (List.mem_of_getElem? (i := 126) rfl)) rfl
theorem mw_X12_first : jMw mX12_first 1 := ⟨co_X12_first, in_X12, by decide +kernel, by decide +kernel, by decide +kernel⟩
set_option maxRecDepth 100000 in
theorem im_X12_first : Cond.instanceMethod mX12_first.1 ∈ jtbl := jtbl_of (tb_8 _ (List.mem_of_getElem? (i := 124) rfl)) rfl
set_option maxRecDepth 100000 in
theorem se_X12_first : Cond.selects mX12_first.1.cls mX12_first.1 mX12_first.1 ∈ jtbl := jtbl_of (tb_8 _ (List.mem_of_getElem? (i := 125) rfl)) rfl
def mX12_downNow : jMt := (yX12_downNow, cX12_downNow, 3, (some .int))
set_option maxRecDepth 100000 in
theorem co_X12_downNow : Cond.code mX12_downNow.1 mX12_downNow.2.1 mX12_downNow.2.2.1 mX12_downNow.2.2.2 ∈ jtbl := jtbl_of (tb_8 _ (List.mem_of_getElem? (i := 130) rfl)) rfl
theorem mw_X12_downNow : jMw mX12_downNow 0 := ⟨co_X12_downNow, in_X12, by decide +kernel, by decide +kernel, by decide +kernel⟩
set_option maxRecDepth 100000 in
theorem im_X12_downNow : Cond.instanceMethod mX12_downNow.1 ∈ jtbl := jtbl_of (tb_8 _ (List.mem_of_getElem? (i := 129) rfl)) rfl
set_option maxRecDepth 100000 in
theorem se_X12_downNow : Cond.selects mX12_downNow.1.cls mX12_downNow.1 mX12_downNow.1 ∈ jtbl := jtbl_of (tb_0 _ (List.mem_of_getElem? (i := 102) rfl)) rfl
def mX12_meets : jMt := (yX12_meets, cX12_meets, 4, (some .int))
set_option maxRecDepth 100000 in
theorem co_X12_meets : Cond.code mX12_meets.1 mX12_meets.2.1 mX12_meets.2.2.1 mX12_meets.2.2.2 ∈ jtbl := jtbl_of (tb_8 _ (List.mem_of_getElem? (i := 134) rfl)) rfl
theorem mw_X12_meets : jMw mX12_meets 2 := ⟨co_X12_meets, in_X12, by decide +kernel, by decide +kernel, by decide +kernel⟩
set_option maxRecDepth 100000 in
theorem im_X12_meets : Cond.instanceMethod mX12_meets.1 ∈ jtbl := jtbl_of (tb_8 _ (List.mem_of_getElem? (i := 132) rfl)) rfl
set_option maxRecDepth 100000 in
theorem se_X12_meets : Cond.selects mX12_meets.1.cls mX12_meets.1 mX12_meets.1 ∈ jtbl := jtbl_of (tb_8 _ (List.mem_of_getElem? (i := 133) rfl)) rfl
def mX12_cutOff : jMt := (yX12_cutOff, cX12_cutOff, 3, (some .int))
set_option maxRecDepth 100000 in
theorem co_X12_cutOff : Cond.code mX12_cutOff.1 mX12_cutOff.2.1 mX12_cutOff.2.2.1 mX12_cutOff.2.2.2 ∈ jtbl := jtbl_of (tb_8 _ (List.mem_of_getElem? (i := 138) rfl)) rfl
theorem mw_X12_cutOff : jMw mX12_cutOff 1 := ⟨co_X12_cutOff, in_X12, by decide +kernel, by decide +kernel, by decide +kernel⟩
set_option maxRecDepth 100000 in
theorem im_X12_cutOff : Cond.instanceMethod mX12_cutOff.1 ∈ jtbl := jtbl_of (tb_8 _ (List.mem_of_getElem? (i := 136) rfl)) rfl
set_option maxRecDepth 100000 in
theorem se_X12_cutOff : Cond.selects mX12_cutOff.1.cls mX12_cutOff.1 mX12_cutOff.1 ∈ jtbl := jtbl_of (tb_8 _ (List.mem_of_getElem? (i := 137) rfl)) rfl
def mX12_year : jMt := (yX12_year, cX12_year, 5, (some .int))
set_option maxRecDepth 100000 in
theorem co_X12_year : Cond.code mX12_year.1 mX12_year.2.1 mX12_year.2.2.1 mX12_year.2.2.2 ∈ jtbl := jtbl_of (tb_8 _ (List.mem_of_getElem? (i := 142) rfl)) rfl
theorem mw_X12_year : jMw mX12_year 2 := ⟨co_X12_year, in_X12, by decide +kernel, by decide +kernel, by decide +kernel⟩
set_option maxRecDepth 100000 in
theorem im_X12_year : Cond.instanceMethod mX12_year.1 ∈ jtbl := jtbl_of (tb_8 _ (List.mem_of_getElem? (i := 140) rfl)) rfl
set_option maxRecDepth 100000 in
theorem se_X12_year : Cond.selects mX12_year.1.cls mX12_year.1 mX12_year.1 ∈ jtbl := jtbl_of (tb_8 _ (List.mem_of_getElem? (i := 141) rfl)) rfl
def mX12_sheet : jMt := (yX12_sheet, cX12_sheet, 7, (some .int))
set_option maxRecDepth 100000 in
theorem co_X12_sheet : Cond.code mX12_sheet.1 mX12_sheet.2.1 mX12_sheet.2.2.1 mX12_sheet.2.2.2 ∈ jtbl := jtbl_of (tb_8 _ (List.mem_of_getElem? (i := 146) rfl)) rfl
theorem mw_X12_sheet : jMw mX12_sheet 2 := ⟨co_X12_sheet, in_X12, by decide +kernel, by decide +kernel, by decide +kernel⟩
set_option maxRecDepth 100000 in
theorem im_X12_sheet : Cond.instanceMethod mX12_sheet.1 ∈ jtbl := jtbl_of (tb_8 _ (List.mem_of_getElem? (i := 144) rfl)) rfl
set_option maxRecDepth 100000 in
theorem se_X12_sheet : Cond.selects mX12_sheet.1.cls mX12_sheet.1 mX12_sheet.1 ∈ jtbl := jtbl_of (tb_8 _ (List.mem_of_getElem? (i := 145) rfl)) rfl
def mX12_common : jMt := (yX12_common, cX12_common, 5, (some .int))
set_option maxRecDepth 100000 in
theorem co_X12_common : Cond.code mX12_common.1 mX12_common.2.1 mX12_common.2.2.1 mX12_common.2.2.2 ∈ jtbl := jtbl_of (tb_8 _ (List.mem_of_getElem? (i := 149) rfl)) rfl
theorem mw_X12_common : jMw mX12_common 2 := ⟨co_X12_common, in_X12, by decide +kernel, by decide +kernel, by decide +kernel⟩
set_option maxRecDepth 100000 in
theorem sm_X12_common : Cond.static mX12_common.1 ∈ jtbl := jtbl_of (tb_8 _ (List.mem_of_getElem? (i := 148) rfl)) rfl
def mX12_tell : jMt := (yX12_tell, cX12_tell, 4, (some .int))
set_option maxRecDepth 100000 in
theorem co_X12_tell : Cond.code mX12_tell.1 mX12_tell.2.1 mX12_tell.2.2.1 mX12_tell.2.2.2 ∈ jtbl := jtbl_of (tb_8 _ (List.mem_of_getElem? (i := 153) rfl)) rfl
theorem mw_X12_tell : jMw mX12_tell 3 := ⟨co_X12_tell, in_X12, by decide +kernel, by decide +kernel, by decide +kernel⟩
set_option maxRecDepth 100000 in
theorem im_X12_tell : Cond.instanceMethod mX12_tell.1 ∈ jtbl := jtbl_of (tb_8 _ (List.mem_of_getElem? (i := 151) rfl)) rfl
set_option maxRecDepth 100000 in
theorem se_X12_tell : Cond.selects mX12_tell.1.cls mX12_tell.1 mX12_tell.1 ∈ jtbl := jtbl_of (tb_8 _ (List.mem_of_getElem? (i := 152) rfl)) rfl
def mX12_forget : jMt := (yX12_forget, cX12_forget, 2, (some .int))
set_option maxRecDepth 100000 in
theorem co_X12_forget : Cond.code mX12_forget.1 mX12_forget.2.1 mX12_forget.2.2.1 mX12_forget.2.2.2 ∈ jtbl := jtbl_of (tb_8 _ (List.mem_of_getElem? (i := 157) rfl)) rfl
theorem mw_X12_forget : jMw mX12_forget 0 := ⟨co_X12_forget, in_X12, by decide +kernel, by decide +kernel, by decide +kernel⟩
set_option maxRecDepth 100000 in
theorem im_X12_forget : Cond.instanceMethod mX12_forget.1 ∈ jtbl := jtbl_of (tb_8 _ (List.mem_of_getElem? (i := 155) rfl)) rfl
set_option maxRecDepth 100000 in
theorem se_X12_forget : Cond.selects mX12_forget.1.cls mX12_forget.1 mX12_forget.1 ∈ jtbl := jtbl_of (tb_8 _ (List.mem_of_getElem? (i := 156) rfl)) rfl
def mX12_who : jMt := (yX12_who, cX12_who, 6, (some .int))
set_option maxRecDepth 100000 in
theorem co_X12_who : Cond.code mX12_who.1 mX12_who.2.1 mX12_who.2.2.1 mX12_who.2.2.2 ∈ jtbl := jtbl_of (tb_8 _ (List.mem_of_getElem? (i := 161) rfl)) rfl
theorem mw_X12_who : jMw mX12_who 2 := ⟨co_X12_who, in_X12, by decide +kernel, by decide +kernel, by decide +kernel⟩
set_option maxRecDepth 100000 in
theorem im_X12_who : Cond.instanceMethod mX12_who.1 ∈ jtbl := jtbl_of (tb_8 _ (List.mem_of_getElem? (i := 159) rfl)) rfl
set_option maxRecDepth 100000 in
theorem se_X12_who : Cond.selects mX12_who.1.cls mX12_who.1 mX12_who.1 ∈ jtbl := jtbl_of (tb_8 _ (List.mem_of_getElem? (i := 160) rfl)) rfl
def mX12_lastTold : jMt := (yX12_lastTold, cX12_lastTold, 4, (some .int))
set_option maxRecDepth 100000 in
theorem co_X12_lastTold : Cond.code mX12_lastTold.1 mX12_lastTold.2.1 mX12_lastTold.2.2.1 mX12_lastTold.2.2.2 ∈ jtbl := jtbl_of (tb_8 _ (List.mem_of_getElem? (i := 165) rfl)) rfl
theorem mw_X12_lastTold : jMw mX12_lastTold 1 := ⟨co_X12_lastTold, in_X12, by decide +kernel, by decide +kernel, by decide +kernel⟩
set_option maxRecDepth 100000 in
theorem im_X12_lastTold : Cond.instanceMethod mX12_lastTold.1 ∈ jtbl := jtbl_of (tb_8 _ (List.mem_of_getElem? (i := 164) rfl)) rfl
set_option maxRecDepth 100000 in
theorem se_X12_lastTold : Cond.selects mX12_lastTold.1.cls mX12_lastTold.1 mX12_lastTold.1 ∈ jtbl := jtbl_of (tb_0 _ (List.mem_of_getElem? (i := 103) rfl)) rfl
def mX12_fillsSeen : jMt := (yX12_fillsSeen, cX12_fillsSeen, 5, none)
set_option maxRecDepth 100000 in
theorem co_X12_fillsSeen : Cond.code mX12_fillsSeen.1 mX12_fillsSeen.2.1 mX12_fillsSeen.2.2.1 mX12_fillsSeen.2.2.2 ∈ jtbl := jtbl_of (tb_8 _ (List.mem_of_getElem? (i := 169) rfl)) rfl
theorem mw_X12_fillsSeen : jMw mX12_fillsSeen 2 := ⟨co_X12_fillsSeen, in_X12, by decide +kernel, by decide +kernel, by decide +kernel⟩
set_option maxRecDepth 100000 in
theorem im_X12_fillsSeen : Cond.instanceMethod mX12_fillsSeen.1 ∈ jtbl := jtbl_of (tb_8 _ (List.mem_of_getElem? (i := 168) rfl)) rfl
set_option maxRecDepth 100000 in
theorem se_X12_fillsSeen : Cond.selects mX12_fillsSeen.1.cls mX12_fillsSeen.1 mX12_fillsSeen.1 ∈ jtbl := jtbl_of (tb_0 _ (List.mem_of_getElem? (i := 104) rfl)) rfl
def mX12_isSo : jMt := (yX12_isSo, cX12_isSo, 3, (some .boolean))
set_option maxRecDepth 100000 in
theorem co_X12_isSo : Cond.code mX12_isSo.1 mX12_isSo.2.1 mX12_isSo.2.2.1 mX12_isSo.2.2.2 ∈ jtbl := jtbl_of (tb_8 _ (List.mem_of_getElem? (i := 173) rfl)) rfl
theorem mw_X12_isSo : jMw mX12_isSo 1 := ⟨co_X12_isSo, in_X12, by decide +kernel, by decide +kernel, by decide +kernel⟩
set_option maxRecDepth 100000 in
theorem im_X12_isSo : Cond.instanceMethod mX12_isSo.1 ∈ jtbl := jtbl_of (tb_8 _ (List.mem_of_getElem? (i := 172) rfl)) rfl
set_option maxRecDepth 100000 in
theorem se_X12_isSo : Cond.selects mX12_isSo.1.cls mX12_isSo.1 mX12_isSo.1 ∈ jtbl := jtbl_of (tb_0 _ (List.mem_of_getElem? (i := 105) rfl)) rfl
def mX12_watch : jMt := (yX12_watch, cX12_watch, 9, (some .int))
set_option maxRecDepth 100000 in
theorem co_X12_watch : Cond.code mX12_watch.1 mX12_watch.2.1 mX12_watch.2.2.1 mX12_watch.2.2.2 ∈ jtbl := jtbl_of (tb_8 _ (List.mem_of_getElem? (i := 177) rfl)) rfl
theorem mw_X12_watch : jMw mX12_watch 2 := ⟨co_X12_watch, in_X12, by decide +kernel, by decide +kernel, by decide +kernel⟩
set_option maxRecDepth 100000 in
theorem im_X12_watch : Cond.instanceMethod mX12_watch.1 ∈ jtbl := jtbl_of (tb_8 _ (List.mem_of_getElem? (i := 175) rfl)) rfl
set_option maxRecDepth 100000 in
theorem se_X12_watch : Cond.selects mX12_watch.1.cls mX12_watch.1 mX12_watch.1 ∈ jtbl := jtbl_of (tb_8 _ (List.mem_of_getElem? (i := 176) rfl)) rfl
def mX12_hold : jMt := (yX12_hold, cX12_hold, 3, (some .boolean))
set_option maxRecDepth 100000 in
theorem co_X12_hold : Cond.code mX12_hold.1 mX12_hold.2.1 mX12_hold.2.2.1 mX12_hold.2.2.2 ∈ jtbl := jtbl_of (tb_8 _ (List.mem_of_getElem? (i := 181) rfl)) rfl
theorem mw_X12_hold : jMw mX12_hold 1 := ⟨co_X12_hold, in_X12, by decide +kernel, by decide +kernel, by decide +kernel⟩
set_option maxRecDepth 100000 in
theorem im_X12_hold : Cond.instanceMethod mX12_hold.1 ∈ jtbl := jtbl_of (tb_8 _ (List.mem_of_getElem? (i := 179) rfl)) rfl
set_option maxRecDepth 100000 in
theorem se_X12_hold : Cond.selects mX12_hold.1.cls mX12_hold.1 mX12_hold.1 ∈ jtbl := jtbl_of (tb_8 _ (List.mem_of_getElem? (i := 180) rfl)) rfl
def mX12_restore : jMt := (yX12_restore, cX12_restore, 3, (some .boolean))
set_option maxRecDepth 100000 in
theorem co_X12_restore : Cond.code mX12_restore.1 mX12_restore.2.1 mX12_restore.2.2.1 mX12_restore.2.2.2 ∈ jtbl := jtbl_of (tb_8 _ (List.mem_of_getElem? (i := 185) rfl)) rfl
theorem mw_X12_restore : jMw mX12_restore 1 := ⟨co_X12_restore, in_X12, by decide +kernel, by decide +kernel, by decide +kernel⟩
set_option maxRecDepth 100000 in
theorem im_X12_restore : Cond.instanceMethod mX12_restore.1 ∈ jtbl := jtbl_of (tb_8 _ (List.mem_of_getElem? (i := 183) rfl)) rfl
set_option maxRecDepth 100000 in
theorem se_X12_restore : Cond.selects mX12_restore.1.cls mX12_restore.1 mX12_restore.1 ∈ jtbl := jtbl_of (tb_8 _ (List.mem_of_getElem? (i := 184) rfl)) rfl
def mX12_count : jMt := (yX12_count, cX12_count, 2, (some .int))
set_option maxRecDepth 100000 in
theorem co_X12_count : Cond.code mX12_count.1 mX12_count.2.1 mX12_count.2.2.1 mX12_count.2.2.2 ∈ jtbl := jtbl_of (tb_8 _ (List.mem_of_getElem? (i := 189) rfl)) rfl
theorem mw_X12_count : jMw mX12_count 1 := ⟨co_X12_count, in_X12, by decide +kernel, by decide +kernel, by decide +kernel⟩
set_option maxRecDepth 100000 in
theorem im_X12_count : Cond.instanceMethod mX12_count.1 ∈ jtbl := jtbl_of (tb_8 _ (List.mem_of_getElem? (i := 187) rfl)) rfl
set_option maxRecDepth 100000 in
theorem se_X12_count : Cond.selects mX12_count.1.cls mX12_count.1 mX12_count.1 ∈ jtbl := jtbl_of (tb_8 _ (List.mem_of_getElem? (i := 188) rfl)) rfl
set_option maxRecDepth 100000 in
theorem im_obj : Cond.instanceMethod objectInit ∈ jtbl := jtbl_of (tb_1 _ (List.mem_of_getElem? (i := 28) rfl)) rfl
set_option maxRecDepth 100000 in
theorem co_obj : Cond.code objectInit ⟨#[0xb1]⟩ 1 none ∈ jtbl := jtbl_of (tb_1 _ (List.mem_of_getElem? (i := 29) rfl)) rfl
set_option maxRecDepth 100000 in
theorem sm_min : Cond.static Lib.Math.min.name ∈ jtbl := jtbl_of (tb_3 _ (List.mem_of_getElem? (i := 127) rfl)) rfl
set_option maxRecDepth 100000 in
theorem co_min : Cond.code Lib.Math.min.name Lib.Math.min.code 2 (some .int) ∈ jtbl := jtbl_of (tb_3 _ (List.mem_of_getElem? (i := 128) rfl)) rfl
set_option maxRecDepth 100000 in
theorem sm_max : Cond.static Lib.Math.max.name ∈ jtbl := jtbl_of (tb_3 _ (List.mem_of_getElem? (i := 130) rfl)) rfl
set_option maxRecDepth 100000 in
theorem co_max : Cond.code Lib.Math.max.name Lib.Math.max.code 2 (some .int) ∈ jtbl := jtbl_of (tb_3 _ (List.mem_of_getElem? (i := 131) rfl)) rfl
set_option maxRecDepth 100000 in
theorem sm_copy : Cond.static arraycopyName ∈ jtbl := jtbl_of (tb_4 _ (List.mem_of_getElem? (i := 172) rfl)) rfl
set_option maxRecDepth 100000 in
theorem na_copy : Cond.native arraycopyName ∈ jtbl := jtbl_of (tb_4 _ (List.mem_of_getElem? (i := 173) rfl)) rfl
set_option maxRecDepth 100000 in
theorem ml_L_9 : Cond.methodLink RL 9 mX11_init.1 ∈ jtbl := jtbl_of (tb_1 _ (List.mem_of_getElem? (i := 24) rfl)) rfl
theorem vw_L_9 : jIw RL 9 mX11_init 0 := ⟨⟨ml_L_9, im_X11_init, rfl⟩, mw_X11_init⟩
set_option maxRecDepth 100000 in
theorem ml_X11_1 : Cond.methodLink RX11 1 objectInit ∈ jtbl := jtbl_of (tb_1 _ (List.mem_of_getElem? (i := 27) rfl)) rfl
set_option maxRecDepth 100000 in
theorem ml_X6_3 : Cond.methodLink RX6 3 objectInit ∈ jtbl := jtbl_of (tb_1 _ (List.mem_of_getElem? (i := 35) rfl)) rfl
set_option maxRecDepth 100000 in
theorem ml_X4_3 : Cond.methodLink RX4 3 objectInit ∈ jtbl := jtbl_of (tb_1 _ (List.mem_of_getElem? (i := 52) rfl)) rfl
set_option maxRecDepth 100000 in
theorem ml_X4_11 : Cond.methodLink RX4 11 mX7_init.1 ∈ jtbl := jtbl_of (tb_1 _ (List.mem_of_getElem? (i := 55) rfl)) rfl
theorem vw_X4_11 : jIw RX4 11 mX7_init 0 := ⟨⟨ml_X4_11, im_X7_init, rfl⟩, mw_X7_init⟩
set_option maxRecDepth 100000 in
theorem ml_X7_5 : Cond.methodLink RX7 5 objectInit ∈ jtbl := jtbl_of (tb_1 _ (List.mem_of_getElem? (i := 58) rfl)) rfl
set_option maxRecDepth 100000 in
theorem ml_X7_27 : Cond.methodLink RX7 27 mJS_length.1 ∈ jtbl := jtbl_of (tb_1 _ (List.mem_of_getElem? (i := 60) rfl)) rfl
theorem vw_X7_27 : jVw RX7 27 mJS_length 0 := ⟨⟨ml_X7_27, im_JS_length, se_JS_length⟩, mw_JS_length⟩
set_option maxRecDepth 100000 in
theorem ml_X7_33 : Cond.methodLink RX7 33 mJS_charAt.1 ∈ jtbl := jtbl_of (tb_1 _ (List.mem_of_getElem? (i := 70) rfl)) rfl
theorem vw_X7_33 : jVw RX7 33 mJS_charAt 1 := ⟨⟨ml_X7_33, im_JS_charAt, se_JS_charAt⟩, mw_JS_charAt⟩
set_option maxRecDepth 100000 in
theorem ml_X7_37 : Cond.methodLink RX7 37 mX7_withLetter.1 ∈ jtbl := jtbl_of (tb_1 _ (List.mem_of_getElem? (i := 108) rfl)) rfl
theorem vw_X7_37 : jSw RX7 37 mX7_withLetter 2 := ⟨⟨ml_X7_37, sm_X7_withLetter⟩, mw_X7_withLetter⟩
set_option maxRecDepth 100000 in
theorem ml_X11_25 : Cond.methodLink RX11 25 mX10_init.1 ∈ jtbl := jtbl_of (tb_1 _ (List.mem_of_getElem? (i := 173) rfl)) rfl
theorem vw_X11_25 : jIw RX11 25 mX10_init 0 := ⟨⟨ml_X11_25, im_X10_init, rfl⟩, mw_X10_init⟩
set_option maxRecDepth 100000 in
theorem ml_X10_3 : Cond.methodLink RX10 3 objectInit ∈ jtbl := jtbl_of (tb_1 _ (List.mem_of_getElem? (i := 176) rfl)) rfl
set_option maxRecDepth 100000 in
theorem ml_X9_3 : Cond.methodLink RX9 3 objectInit ∈ jtbl := jtbl_of (tb_1 _ (List.mem_of_getElem? (i := 183) rfl)) rfl
set_option maxRecDepth 100000 in
theorem ml_X5_5 : Cond.methodLink RX5 5 objectInit ∈ jtbl := jtbl_of (tb_2 _ (List.mem_of_getElem? (i := 30) rfl)) rfl
set_option maxRecDepth 100000 in
theorem ml_X3_1 : Cond.methodLink RX3 1 objectInit ∈ jtbl := jtbl_of (tb_2 _ (List.mem_of_getElem? (i := 45) rfl)) rfl
set_option maxRecDepth 100000 in
theorem ml_X11_46 : Cond.methodLink RX11 46 mX1_init.1 ∈ jtbl := jtbl_of (tb_2 _ (List.mem_of_getElem? (i := 66) rfl)) rfl
theorem vw_X11_46 : jIw RX11 46 mX1_init 2 := ⟨⟨ml_X11_46, im_X1_init, rfl⟩, mw_X1_init⟩
set_option maxRecDepth 100000 in
theorem ml_X1_3 : Cond.methodLink RX1 3 objectInit ∈ jtbl := jtbl_of (tb_2 _ (List.mem_of_getElem? (i := 69) rfl)) rfl
set_option maxRecDepth 100000 in
theorem ml_X11_55 : Cond.methodLink RX11 55 mX0_init.1 ∈ jtbl := jtbl_of (tb_2 _ (List.mem_of_getElem? (i := 104) rfl)) rfl
theorem vw_X11_55 : jIw RX11 55 mX0_init 1 := ⟨⟨ml_X11_55, im_X0_init, rfl⟩, mw_X0_init⟩
set_option maxRecDepth 100000 in
theorem ml_X0_3 : Cond.methodLink RX0 3 objectInit ∈ jtbl := jtbl_of (tb_2 _ (List.mem_of_getElem? (i := 107) rfl)) rfl
set_option maxRecDepth 100000 in
theorem ml_X8_3 : Cond.methodLink RX8 3 objectInit ∈ jtbl := jtbl_of (tb_2 _ (List.mem_of_getElem? (i := 147) rfl)) rfl
set_option maxRecDepth 100000 in
theorem ml_X8_38 : Cond.methodLink RX8 38 mX2_init.1 ∈ jtbl := jtbl_of (tb_2 _ (List.mem_of_getElem? (i := 150) rfl)) rfl
theorem vw_X8_38 : jIw RX8 38 mX2_init 1 := ⟨⟨ml_X8_38, im_X2_init, rfl⟩, mw_X2_init⟩
set_option maxRecDepth 100000 in
theorem ml_X2_5 : Cond.methodLink RX2 5 objectInit ∈ jtbl := jtbl_of (tb_2 _ (List.mem_of_getElem? (i := 153) rfl)) rfl
set_option maxRecDepth 100000 in
theorem ml_X11_73 : Cond.methodLink RX11 73 mX8_clear.1 ∈ jtbl := jtbl_of (tb_3 _ (List.mem_of_getElem? (i := 51) rfl)) rfl
theorem vw_X11_73 : jVw RX11 73 mX8_clear 0 := ⟨⟨ml_X11_73, im_X8_clear, se_X8_clear⟩, mw_X8_clear⟩
set_option maxRecDepth 100000 in
theorem ml_X8_67 : Cond.methodLink RX8 67 mX2_clear.1 ∈ jtbl := jtbl_of (tb_3 _ (List.mem_of_getElem? (i := 55) rfl)) rfl
theorem vw_X8_67 : jVw RX8 67 mX2_clear 0 := ⟨⟨ml_X8_67, im_X2_clear, se_X2_clear⟩, mw_X2_clear⟩
set_option maxRecDepth 100000 in
theorem ml_X2_35 : Cond.methodLink RX2 35 mJA_fill_JJ.1 ∈ jtbl := jtbl_of (tb_3 _ (List.mem_of_getElem? (i := 60) rfl)) rfl
theorem vw_X2_35 : jSw RX2 35 mJA_fill_JJ 2 := ⟨⟨ml_X2_35, sm_JA_fill_JJ⟩, mw_JA_fill_JJ⟩
set_option maxRecDepth 100000 in
theorem ml_X8_70 : Cond.methodLink RX8 70 mX2_addVar.1 ∈ jtbl := jtbl_of (tb_3 _ (List.mem_of_getElem? (i := 63) rfl)) rfl
theorem vw_X8_70 : jVw RX8 70 mX2_addVar 1 := ⟨⟨ml_X8_70, im_X2_addVar, se_X2_addVar⟩, mw_X2_addVar⟩
set_option maxRecDepth 100000 in
theorem ml_X2_41 : Cond.methodLink RX2 41 mX2_add.1 ∈ jtbl := jtbl_of (tb_3 _ (List.mem_of_getElem? (i := 67) rfl)) rfl
theorem vw_X2_41 : jVw RX2 41 mX2_add 2 := ⟨⟨ml_X2_41, im_X2_add, se_X2_add⟩, mw_X2_add⟩
set_option maxRecDepth 100000 in
theorem ml_X2_45 : Cond.methodLink RX2 45 mX2_maskOf.1 ∈ jtbl := jtbl_of (tb_3 _ (List.mem_of_getElem? (i := 71) rfl)) rfl
theorem vw_X2_45 : jSw RX2 45 mX2_maskOf 1 := ⟨⟨ml_X2_45, sm_X2_maskOf⟩, mw_X2_maskOf⟩
set_option maxRecDepth 100000 in
theorem ml_X8_73 : Cond.methodLink RX8 73 mX2_add.1 ∈ jtbl := jtbl_of (tb_3 _ (List.mem_of_getElem? (i := 78) rfl)) rfl
theorem vw_X8_73 : jVw RX8 73 mX2_add 2 := ⟨⟨ml_X8_73, im_X2_add, se_X2_add⟩, mw_X2_add⟩
set_option maxRecDepth 100000 in
theorem ml_X11_76 : Cond.methodLink RX11 76 mX10_begin.1 ∈ jtbl := jtbl_of (tb_3 _ (List.mem_of_getElem? (i := 79) rfl)) rfl
theorem vw_X11_76 : jVw RX11 76 mX10_begin 1 := ⟨⟨ml_X11_76, im_X10_begin, se_X10_begin⟩, mw_X10_begin⟩
set_option maxRecDepth 100000 in
theorem ml_X11_80 : Cond.methodLink RX11 80 mX5_begin.1 ∈ jtbl := jtbl_of (tb_3 _ (List.mem_of_getElem? (i := 84) rfl)) rfl
theorem vw_X11_80 : jVw RX11 80 mX5_begin 1 := ⟨⟨ml_X11_80, im_X5_begin, se_X5_begin⟩, mw_X5_begin⟩
set_option maxRecDepth 100000 in
theorem ml_X5_15 : Cond.methodLink RX5 15 mJA_fill_II.1 ∈ jtbl := jtbl_of (tb_3 _ (List.mem_of_getElem? (i := 88) rfl)) rfl
theorem vw_X5_15 : jSw RX5 15 mJA_fill_II 2 := ⟨⟨ml_X5_15, sm_JA_fill_II⟩, mw_JA_fill_II⟩
set_option maxRecDepth 100000 in
theorem ml_X5_21 : Cond.methodLink RX5 21 mX5_setRates.1 ∈ jtbl := jtbl_of (tb_3 _ (List.mem_of_getElem? (i := 91) rfl)) rfl
theorem vw_X5_21 : jVw RX5 21 mX5_setRates 2 := ⟨⟨ml_X5_21, im_X5_setRates, se_X5_setRates⟩, mw_X5_setRates⟩
set_option maxRecDepth 100000 in
theorem ml_X11_81 : Cond.methodLink RX11 81 mX10_enter.1 ∈ jtbl := jtbl_of (tb_3 _ (List.mem_of_getElem? (i := 95) rfl)) rfl
theorem vw_X11_81 : jVw RX11 81 mX10_enter 1 := ⟨⟨ml_X11_81, im_X10_enter, se_X10_enter⟩, mw_X10_enter⟩
set_option maxRecDepth 100000 in
theorem ml_X10_50 : Cond.methodLink RX10 50 mX10_lookAtNight.1 ∈ jtbl := jtbl_of (tb_3 _ (List.mem_of_getElem? (i := 99) rfl)) rfl
theorem vw_X10_50 : jVw RX10 50 mX10_lookAtNight 0 := ⟨⟨ml_X10_50, im_X10_lookAtNight, se_X10_lookAtNight⟩, mw_X10_lookAtNight⟩
set_option maxRecDepth 100000 in
theorem ml_X10_161 : Cond.methodLink RX10 161 mX10_lot.1 ∈ jtbl := jtbl_of (tb_3 _ (List.mem_of_getElem? (i := 103) rfl)) rfl
theorem vw_X10_161 : jSw RX10 161 mX10_lot 3 := ⟨⟨ml_X10_161, sm_X10_lot⟩, mw_X10_lot⟩
set_option maxRecDepth 100000 in
theorem ml_X10_191 : Cond.methodLink RX10 191 mX10_stirred.1 ∈ jtbl := jtbl_of (tb_3 _ (List.mem_of_getElem? (i := 106) rfl)) rfl
theorem vw_X10_191 : jSw RX10 191 mX10_stirred 2 := ⟨⟨ml_X10_191, sm_X10_stirred⟩, mw_X10_stirred⟩
set_option maxRecDepth 100000 in
theorem ml_X10_148 : Cond.methodLink RX10 148 mX10_doubtBy.1 ∈ jtbl := jtbl_of (tb_3 _ (List.mem_of_getElem? (i := 110) rfl)) rfl
theorem vw_X10_148 : jVw RX10 148 mX10_doubtBy 2 := ⟨⟨ml_X10_148, im_X10_doubtBy, se_X10_doubtBy⟩, mw_X10_doubtBy⟩
set_option maxRecDepth 100000 in
theorem ml_X10_61 : Cond.methodLink RX10 61 mX10_doubt.1 ∈ jtbl := jtbl_of (tb_3 _ (List.mem_of_getElem? (i := 114) rfl)) rfl
theorem vw_X10_61 : jVw RX10 61 mX10_doubt 1 := ⟨⟨ml_X10_61, im_X10_doubt, se_X10_doubt⟩, mw_X10_doubt⟩
set_option maxRecDepth 100000 in
theorem ml_X10_117 : Cond.methodLink RX10 117 mX10_said.1 ∈ jtbl := jtbl_of (tb_3 _ (List.mem_of_getElem? (i := 118) rfl)) rfl
theorem vw_X10_117 : jVw RX10 117 mX10_said 4 := ⟨⟨ml_X10_117, im_X10_said, se_X10_said⟩, mw_X10_said⟩
set_option maxRecDepth 100000 in
theorem ml_X10_184 : Cond.methodLink RX10 184 mX2_valueOf.1 ∈ jtbl := jtbl_of (tb_3 _ (List.mem_of_getElem? (i := 122) rfl)) rfl
theorem vw_X10_184 : jVw RX10 184 mX2_valueOf 2 := ⟨⟨ml_X10_184, im_X2_valueOf, se_X2_valueOf⟩, mw_X2_valueOf⟩
set_option maxRecDepth 100000 in
theorem ml_X10_135 : Cond.methodLink RX10 135 Lib.Math.min.name ∈ jtbl := jtbl_of (tb_3 _ (List.mem_of_getElem? (i := 126) rfl)) rfl
theorem vw_X10_135 : Cond.methodLink RX10 135 Lib.Math.min.name ∈ jtbl ∧ Cond.static Lib.Math.min.name ∈ jtbl ∧ Cond.initialized "java/lang/Math" ∈ jtbl ∧ Cond.code Lib.Math.min.name Lib.Math.min.code 2 (some .int) ∈ jtbl := ⟨ml_X10_135, sm_min, in_JM, co_min⟩
set_option maxRecDepth 100000 in
theorem ml_X10_188 : Cond.methodLink RX10 188 Lib.Math.max.name ∈ jtbl := jtbl_of (tb_3 _ (List.mem_of_getElem? (i := 129) rfl)) rfl
theorem vw_X10_188 : Cond.methodLink RX10 188 Lib.Math.max.name ∈ jtbl ∧ Cond.static Lib.Math.max.name ∈ jtbl ∧ Cond.initialized "java/lang/Math" ∈ jtbl ∧ Cond.code Lib.Math.max.name Lib.Math.max.code 2 (some .int) ∈ jtbl := ⟨ml_X10_188, sm_max, in_JM, co_max⟩
set_option maxRecDepth 100000 in
theorem ml_X10_53 : Cond.methodLink RX10 53 mX10_findBroken.1 ∈ jtbl := jtbl_of (tb_3 _ (List.mem_of_getElem? (i := 132) rfl)) rfl
theorem vw_X10_53 : jVw RX10 53 mX10_findBroken 0 := ⟨⟨ml_X10_53, im_X10_findBroken, se_X10_findBroken⟩, mw_X10_findBroken⟩
set_option maxRecDepth 100000 in
theorem ml_L_13 : Cond.methodLink RL 13 mX11_feed.1 ∈ jtbl := jtbl_of (tb_3 _ (List.mem_of_getElem? (i := 164) rfl)) rfl
theorem vw_L_13 : jVw RL 13 mX11_feed 5 := ⟨⟨ml_L_13, im_X11_feed, se_X11_feed⟩, mw_X11_feed⟩
set_option maxRecDepth 100000 in
theorem ml_X11_88 : Cond.methodLink RX11 88 mX6_add.1 ∈ jtbl := jtbl_of (tb_3 _ (List.mem_of_getElem? (i := 168) rfl)) rfl
theorem vw_X11_88 : jVw RX11 88 mX6_add 1 := ⟨⟨ml_X11_88, im_X6_add, se_X6_add⟩, mw_X6_add⟩
set_option maxRecDepth 100000 in
theorem ml_L_18 : Cond.methodLink RL 18 mX11_back.1 ∈ jtbl := jtbl_of (tb_3 _ (List.mem_of_getElem? (i := 172) rfl)) rfl
theorem vw_L_18 : jVw RL 18 mX11_back 1 := ⟨⟨ml_L_18, im_X11_back, se_X11_back⟩, mw_X11_back⟩
set_option maxRecDepth 100000 in
theorem ml_L_23 : Cond.methodLink RL 23 mX11_read.1 ∈ jtbl := jtbl_of (tb_3 _ (List.mem_of_getElem? (i := 176) rfl)) rfl
theorem vw_L_23 : jVw RL 23 mX11_read 0 := ⟨⟨ml_L_23, im_X11_read, se_X11_read⟩, mw_X11_read⟩
set_option maxRecDepth 100000 in
theorem ml_X11_92 : Cond.methodLink RX11 92 mX4_readInto.1 ∈ jtbl := jtbl_of (tb_3 _ (List.mem_of_getElem? (i := 180) rfl)) rfl
theorem vw_X11_92 : jVw RX11 92 mX4_readInto 2 := ⟨⟨ml_X11_92, im_X4_readInto, se_X4_readInto⟩, mw_X4_readInto⟩
set_option maxRecDepth 100000 in
theorem ml_X4_33 : Cond.methodLink RX4 33 mX8_clear.1 ∈ jtbl := jtbl_of (tb_3 _ (List.mem_of_getElem? (i := 184) rfl)) rfl
theorem vw_X4_33 : jVw RX4 33 mX8_clear 0 := ⟨⟨ml_X4_33, im_X8_clear, se_X8_clear⟩, mw_X8_clear⟩
set_option maxRecDepth 100000 in
theorem ml_X4_38 : Cond.methodLink RX4 38 mX7_scan.1 ∈ jtbl := jtbl_of (tb_3 _ (List.mem_of_getElem? (i := 185) rfl)) rfl
theorem vw_X4_38 : jVw RX4 38 mX7_scan 1 := ⟨⟨ml_X4_38, im_X7_scan, se_X7_scan⟩, mw_X7_scan⟩
set_option maxRecDepth 100000 in
theorem ml_X7_41 : Cond.methodLink RX7 41 mX7_afterBlanks.1 ∈ jtbl := jtbl_of (tb_3 _ (List.mem_of_getElem? (i := 189) rfl)) rfl
theorem vw_X7_41 : jSw RX7 41 mX7_afterBlanks 2 := ⟨⟨ml_X7_41, sm_X7_afterBlanks⟩, mw_X7_afterBlanks⟩
set_option maxRecDepth 100000 in
theorem ml_X7_80 : Cond.methodLink RX7 80 mX7_isBlank.1 ∈ jtbl := jtbl_of (tb_3 _ (List.mem_of_getElem? (i := 192) rfl)) rfl
theorem vw_X7_80 : jSw RX7 80 mX7_isBlank 1 := ⟨⟨ml_X7_80, sm_X7_isBlank⟩, mw_X7_isBlank⟩
set_option maxRecDepth 100000 in
theorem ml_X7_45 : Cond.methodLink RX7 45 mX7_scanOne.1 ∈ jtbl := jtbl_of (tb_3 _ (List.mem_of_getElem? (i := 195) rfl)) rfl
theorem vw_X7_45 : jVw RX7 45 mX7_scanOne 3 := ⟨⟨ml_X7_45, im_X7_scanOne, se_X7_scanOne⟩, mw_X7_scanOne⟩
set_option maxRecDepth 100000 in
theorem ml_X7_58 : Cond.methodLink RX7 58 mX7_isLetter.1 ∈ jtbl := jtbl_of (tb_3 _ (List.mem_of_getElem? (i := 199) rfl)) rfl
theorem vw_X7_58 : jSw RX7 58 mX7_isLetter 1 := ⟨⟨ml_X7_58, sm_X7_isLetter⟩, mw_X7_isLetter⟩
set_option maxRecDepth 100000 in
theorem ml_X7_62 : Cond.methodLink RX7 62 mX7_scanLetters.1 ∈ jtbl := jtbl_of (tb_3 _ (List.mem_of_getElem? (i := 202) rfl)) rfl
theorem vw_X7_62 : jVw RX7 62 mX7_scanLetters 3 := ⟨⟨ml_X7_62, im_X7_scanLetters, se_X7_scanLetters⟩, mw_X7_scanLetters⟩
set_option maxRecDepth 100000 in
theorem ml_X7_74 : Cond.methodLink RX7 74 mX7_kindOf.1 ∈ jtbl := jtbl_of (tb_3 _ (List.mem_of_getElem? (i := 206) rfl)) rfl
theorem vw_X7_74 : jVw RX7 74 mX7_kindOf 1 := ⟨⟨ml_X7_74, im_X7_kindOf, se_X7_kindOf⟩, mw_X7_kindOf⟩
set_option maxRecDepth 100000 in
theorem ml_X7_65 : Cond.methodLink RX7 65 mX7_isDigit.1 ∈ jtbl := jtbl_of (tb_3 _ (List.mem_of_getElem? (i := 210) rfl)) rfl
theorem vw_X7_65 : jSw RX7 65 mX7_isDigit 1 := ⟨⟨ml_X7_65, sm_X7_isDigit⟩, mw_X7_isDigit⟩
set_option maxRecDepth 100000 in
theorem ml_X7_68 : Cond.methodLink RX7 68 mX7_scanDigits.1 ∈ jtbl := jtbl_of (tb_3 _ (List.mem_of_getElem? (i := 213) rfl)) rfl
theorem vw_X7_68 : jVw RX7 68 mX7_scanDigits 3 := ⟨⟨ml_X7_68, im_X7_scanDigits, se_X7_scanDigits⟩, mw_X7_scanDigits⟩
set_option maxRecDepth 100000 in
theorem ml_X7_71 : Cond.methodLink RX7 71 mX7_isSign.1 ∈ jtbl := jtbl_of (tb_3 _ (List.mem_of_getElem? (i := 218) rfl)) rfl
theorem vw_X7_71 : jSw RX7 71 mX7_isSign 1 := ⟨⟨ml_X7_71, sm_X7_isSign⟩, mw_X7_isSign⟩
set_option maxRecDepth 100000 in
theorem ml_X4_52 : Cond.methodLink RX4 52 mX4_kindHere.1 ∈ jtbl := jtbl_of (tb_3 _ (List.mem_of_getElem? (i := 221) rfl)) rfl
theorem vw_X4_52 : jVw RX4 52 mX4_kindHere 0 := ⟨⟨ml_X4_52, im_X4_kindHere, se_X4_kindHere⟩, mw_X4_kindHere⟩
set_option maxRecDepth 100000 in
theorem ml_X4_56 : Cond.methodLink RX4 56 mX4_readTelling.1 ∈ jtbl := jtbl_of (tb_3 _ (List.mem_of_getElem? (i := 225) rfl)) rfl
theorem vw_X4_56 : jVw RX4 56 mX4_readTelling 0 := ⟨⟨ml_X4_56, im_X4_readTelling, se_X4_readTelling⟩, mw_X4_readTelling⟩
set_option maxRecDepth 100000 in
theorem ml_X4_68 : Cond.methodLink RX4 68 mX4_readPlace.1 ∈ jtbl := jtbl_of (tb_3 _ (List.mem_of_getElem? (i := 229) rfl)) rfl
theorem vw_X4_68 : jVw RX4 68 mX4_readPlace 0 := ⟨⟨ml_X4_68, im_X4_readPlace, se_X4_readPlace⟩, mw_X4_readPlace⟩
set_option maxRecDepth 100000 in
theorem ml_X4_110 : Cond.methodLink RX4 110 mX4_failHere.1 ∈ jtbl := jtbl_of (tb_3 _ (List.mem_of_getElem? (i := 233) rfl)) rfl
theorem vw_X4_110 : jVw RX4 110 mX4_failHere 1 := ⟨⟨ml_X4_110, im_X4_failHere, se_X4_failHere⟩, mw_X4_failHere⟩
set_option maxRecDepth 100000 in
theorem ml_X4_91 : Cond.methodLink RX4 91 mX4_take.1 ∈ jtbl := jtbl_of (tb_3 _ (List.mem_of_getElem? (i := 237) rfl)) rfl
theorem vw_X4_91 : jVw RX4 91 mX4_take 0 := ⟨⟨ml_X4_91, im_X4_take, se_X4_take⟩, mw_X4_take⟩
set_option maxRecDepth 100000 in
theorem ml_X4_121 : Cond.methodLink RX4 121 mX4_readNewName.1 ∈ jtbl := jtbl_of (tb_4 _ (List.mem_of_getElem? (i := 1) rfl)) rfl
theorem vw_X4_121 : jVw RX4 121 mX4_readNewName 2 := ⟨⟨ml_X4_121, im_X4_readNewName, se_X4_readNewName⟩, mw_X4_readNewName⟩
set_option maxRecDepth 100000 in
theorem ml_X4_114 : Cond.methodLink RX4 114 mX4_expect.1 ∈ jtbl := jtbl_of (tb_4 _ (List.mem_of_getElem? (i := 5) rfl)) rfl
theorem vw_X4_114 : jVw RX4 114 mX4_expect 1 := ⟨⟨ml_X4_114, im_X4_expect, se_X4_expect⟩, mw_X4_expect⟩
set_option maxRecDepth 100000 in
theorem ml_X4_170 : Cond.methodLink RX4 170 mX4_numberOf.1 ∈ jtbl := jtbl_of (tb_4 _ (List.mem_of_getElem? (i := 9) rfl)) rfl
theorem vw_X4_170 : jSw RX4 170 mX4_numberOf 3 := ⟨⟨ml_X4_170, sm_X4_numberOf⟩, mw_X4_numberOf⟩
set_option maxRecDepth 100000 in
theorem ml_X4_174 : Cond.methodLink RX4 174 mX4_failSense.1 ∈ jtbl := jtbl_of (tb_4 _ (List.mem_of_getElem? (i := 12) rfl)) rfl
theorem vw_X4_174 : jVw RX4 174 mX4_failSense 2 := ⟨⟨ml_X4_174, im_X4_failSense, se_X4_failSense⟩, mw_X4_failSense⟩
set_option maxRecDepth 100000 in
theorem ml_X4_71 : Cond.methodLink RX4 71 mX4_readRoad.1 ∈ jtbl := jtbl_of (tb_4 _ (List.mem_of_getElem? (i := 16) rfl)) rfl
theorem vw_X4_71 : jVw RX4 71 mX4_readRoad 0 := ⟨⟨ml_X4_71, im_X4_readRoad, se_X4_readRoad⟩, mw_X4_readRoad⟩
set_option maxRecDepth 100000 in
theorem ml_X4_131 : Cond.methodLink RX4 131 mX4_readOldPlace.1 ∈ jtbl := jtbl_of (tb_4 _ (List.mem_of_getElem? (i := 20) rfl)) rfl
theorem vw_X4_131 : jVw RX4 131 mX4_readOldPlace 1 := ⟨⟨ml_X4_131, im_X4_readOldPlace, se_X4_readOldPlace⟩, mw_X4_readOldPlace⟩
set_option maxRecDepth 100000 in
theorem ml_X4_94 : Cond.methodLink RX4 94 mX4_readNumber.1 ∈ jtbl := jtbl_of (tb_4 _ (List.mem_of_getElem? (i := 24) rfl)) rfl
theorem vw_X4_94 : jVw RX4 94 mX4_readNumber 2 := ⟨⟨ml_X4_94, im_X4_readNumber, se_X4_readNumber⟩, mw_X4_readNumber⟩
set_option maxRecDepth 100000 in
theorem ml_X4_74 : Cond.methodLink RX4 74 mX4_readGhost.1 ∈ jtbl := jtbl_of (tb_4 _ (List.mem_of_getElem? (i := 28) rfl)) rfl
theorem vw_X4_74 : jVw RX4 74 mX4_readGhost 0 := ⟨⟨ml_X4_74, im_X4_readGhost, se_X4_readGhost⟩, mw_X4_readGhost⟩
set_option maxRecDepth 100000 in
theorem ml_X4_81 : Cond.methodLink RX4 81 mX4_readLaw.1 ∈ jtbl := jtbl_of (tb_4 _ (List.mem_of_getElem? (i := 32) rfl)) rfl
theorem vw_X4_81 : jVw RX4 81 mX4_readLaw 1 := ⟨⟨ml_X4_81, im_X4_readLaw, se_X4_readLaw⟩, mw_X4_readLaw⟩
set_option maxRecDepth 100000 in
theorem ml_X4_178 : Cond.methodLink RX4 178 mX2_clear.1 ∈ jtbl := jtbl_of (tb_4 _ (List.mem_of_getElem? (i := 36) rfl)) rfl
theorem vw_X4_178 : jVw RX4 178 mX2_clear 0 := ⟨⟨ml_X4_178, im_X2_clear, se_X2_clear⟩, mw_X2_clear⟩
set_option maxRecDepth 100000 in
theorem ml_X4_181 : Cond.methodLink RX4 181 mX4_readSum.1 ∈ jtbl := jtbl_of (tb_4 _ (List.mem_of_getElem? (i := 37) rfl)) rfl
theorem vw_X4_181 : jVw RX4 181 mX4_readSum 1 := ⟨⟨ml_X4_181, im_X4_readSum, se_X4_readSum⟩, mw_X4_readSum⟩
set_option maxRecDepth 100000 in
theorem ml_X4_196 : Cond.methodLink RX4 196 mX4_readUnit.1 ∈ jtbl := jtbl_of (tb_4 _ (List.mem_of_getElem? (i := 41) rfl)) rfl
theorem vw_X4_196 : jVw RX4 196 mX4_readUnit 1 := ⟨⟨ml_X4_196, im_X4_readUnit, se_X4_readUnit⟩, mw_X4_readUnit⟩
set_option maxRecDepth 100000 in
theorem ml_X4_207 : Cond.methodLink RX4 207 mX4_putOff.1 ∈ jtbl := jtbl_of (tb_4 _ (List.mem_of_getElem? (i := 45) rfl)) rfl
theorem vw_X4_207 : jVw RX4 207 mX4_putOff 1 := ⟨⟨ml_X4_207, im_X4_putOff, se_X4_putOff⟩, mw_X4_putOff⟩
set_option maxRecDepth 100000 in
theorem ml_X4_184 : Cond.methodLink RX4 184 mX2_add.1 ∈ jtbl := jtbl_of (tb_4 _ (List.mem_of_getElem? (i := 49) rfl)) rfl
theorem vw_X4_184 : jVw RX4 184 mX2_add 2 := ⟨⟨ml_X4_184, im_X2_add, se_X2_add⟩, mw_X2_add⟩
set_option maxRecDepth 100000 in
theorem ml_X4_210 : Cond.methodLink RX4 210 mX2_addVar.1 ∈ jtbl := jtbl_of (tb_4 _ (List.mem_of_getElem? (i := 50) rfl)) rfl
theorem vw_X4_210 : jVw RX4 210 mX2_addVar 1 := ⟨⟨ml_X4_210, im_X2_addVar, se_X2_addVar⟩, mw_X2_addVar⟩
set_option maxRecDepth 100000 in
theorem ml_X4_203 : Cond.methodLink RX4 203 mX4_settle.1 ∈ jtbl := jtbl_of (tb_4 _ (List.mem_of_getElem? (i := 51) rfl)) rfl
theorem vw_X4_203 : jVw RX4 203 mX4_settle 2 := ⟨⟨ml_X4_203, im_X4_settle, se_X4_settle⟩, mw_X4_settle⟩
set_option maxRecDepth 100000 in
theorem ml_X4_218 : Cond.methodLink RX4 218 mX4_rankOf.1 ∈ jtbl := jtbl_of (tb_4 _ (List.mem_of_getElem? (i := 55) rfl)) rfl
theorem vw_X4_218 : jSw RX4 218 mX4_rankOf 1 := ⟨⟨ml_X4_218, sm_X4_rankOf⟩, mw_X4_rankOf⟩
set_option maxRecDepth 100000 in
theorem ml_X4_221 : Cond.methodLink RX4 221 mX4_workOf.1 ∈ jtbl := jtbl_of (tb_4 _ (List.mem_of_getElem? (i := 58) rfl)) rfl
theorem vw_X4_221 : jSw RX4 221 mX4_workOf 1 := ⟨⟨ml_X4_221, sm_X4_workOf⟩, mw_X4_workOf⟩
set_option maxRecDepth 100000 in
theorem ml_X4_213 : Cond.methodLink RX4 213 Lib.Math.max.name ∈ jtbl := jtbl_of (tb_4 _ (List.mem_of_getElem? (i := 61) rfl)) rfl
theorem vw_X4_213 : Cond.methodLink RX4 213 Lib.Math.max.name ∈ jtbl ∧ Cond.static Lib.Math.max.name ∈ jtbl ∧ Cond.initialized "java/lang/Math" ∈ jtbl ∧ Cond.code Lib.Math.max.name Lib.Math.max.code 2 (some .int) ∈ jtbl := ⟨ml_X4_213, sm_max, in_JM, co_max⟩
set_option maxRecDepth 100000 in
theorem ml_X4_199 : Cond.methodLink RX4 199 mX4_readOperator.1 ∈ jtbl := jtbl_of (tb_4 _ (List.mem_of_getElem? (i := 62) rfl)) rfl
theorem vw_X4_199 : jVw RX4 199 mX4_readOperator 1 := ⟨⟨ml_X4_199, im_X4_readOperator, se_X4_readOperator⟩, mw_X4_readOperator⟩
set_option maxRecDepth 100000 in
theorem ml_X4_187 : Cond.methodLink RX4 187 mX2_aim.1 ∈ jtbl := jtbl_of (tb_4 _ (List.mem_of_getElem? (i := 66) rfl)) rfl
theorem vw_X4_187 : jVw RX4 187 mX2_aim 1 := ⟨⟨ml_X4_187, im_X2_aim, se_X2_aim⟩, mw_X2_aim⟩
set_option maxRecDepth 100000 in
theorem ml_X11_100 : Cond.methodLink RX11 100 mX3_clear.1 ∈ jtbl := jtbl_of (tb_4 _ (List.mem_of_getElem? (i := 70) rfl)) rfl
theorem vw_X11_100 : jVw RX11 100 mX3_clear 0 := ⟨⟨ml_X11_100, im_X3_clear, se_X3_clear⟩, mw_X3_clear⟩
set_option maxRecDepth 100000 in
theorem ml_X11_101 : Cond.methodLink RX11 101 mX0_clear.1 ∈ jtbl := jtbl_of (tb_4 _ (List.mem_of_getElem? (i := 74) rfl)) rfl
theorem vw_X11_101 : jVw RX11 101 mX0_clear 0 := ⟨⟨ml_X11_101, im_X0_clear, se_X0_clear⟩, mw_X0_clear⟩
set_option maxRecDepth 100000 in
theorem ml_X11_102 : Cond.methodLink RX11 102 mX1_outdate.1 ∈ jtbl := jtbl_of (tb_4 _ (List.mem_of_getElem? (i := 78) rfl)) rfl
theorem vw_X11_102 : jVw RX11 102 mX1_outdate 0 := ⟨⟨ml_X11_102, im_X1_outdate, se_X1_outdate⟩, mw_X1_outdate⟩
set_option maxRecDepth 100000 in
theorem ml_L_28 : Cond.methodLink RL 28 mX11_place.1 ∈ jtbl := jtbl_of (tb_4 _ (List.mem_of_getElem? (i := 82) rfl)) rfl
theorem vw_L_28 : jVw RL 28 mX11_place 0 := ⟨⟨ml_L_28, im_X11_place, se_X11_place⟩, mw_X11_place⟩
set_option maxRecDepth 100000 in
theorem ml_L_32 : Cond.methodLink RL 32 mX11_road.1 ∈ jtbl := jtbl_of (tb_4 _ (List.mem_of_getElem? (i := 86) rfl)) rfl
theorem vw_L_32 : jVw RL 32 mX11_road 2 := ⟨⟨ml_L_32, im_X11_road, se_X11_road⟩, mw_X11_road⟩
set_option maxRecDepth 100000 in
theorem ml_X11_105 : Cond.methodLink RX11 105 mX11_isRoad.1 ∈ jtbl := jtbl_of (tb_4 _ (List.mem_of_getElem? (i := 90) rfl)) rfl
theorem vw_X11_105 : jVw RX11 105 mX11_isRoad 1 := ⟨⟨ml_X11_105, im_X11_isRoad, se_X11_isRoad⟩, mw_X11_isRoad⟩
set_option maxRecDepth 100000 in
theorem ml_L_37 : Cond.methodLink RL 37 mX11_ghost.1 ∈ jtbl := jtbl_of (tb_4 _ (List.mem_of_getElem? (i := 94) rfl)) rfl
theorem vw_L_37 : jVw RL 37 mX11_ghost 2 := ⟨⟨ml_L_37, im_X11_ghost, se_X11_ghost⟩, mw_X11_ghost⟩
set_option maxRecDepth 100000 in
theorem ml_X11_128 : Cond.methodLink RX11 128 mX11_isGhost.1 ∈ jtbl := jtbl_of (tb_4 _ (List.mem_of_getElem? (i := 98) rfl)) rfl
theorem vw_X11_128 : jVw RX11 128 mX11_isGhost 1 := ⟨⟨ml_X11_128, im_X11_isGhost, se_X11_isGhost⟩, mw_X11_isGhost⟩
set_option maxRecDepth 100000 in
theorem ml_X11_140 : Cond.methodLink RX11 140 mX8_isNightOf.1 ∈ jtbl := jtbl_of (tb_4 _ (List.mem_of_getElem? (i := 102) rfl)) rfl
theorem vw_X11_140 : jVw RX11 140 mX8_isNightOf 2 := ⟨⟨ml_X11_140, im_X8_isNightOf, se_X8_isNightOf⟩, mw_X8_isNightOf⟩
set_option maxRecDepth 100000 in
theorem ml_L_41 : Cond.methodLink RL 41 mX11_cost.1 ∈ jtbl := jtbl_of (tb_4 _ (List.mem_of_getElem? (i := 106) rfl)) rfl
theorem vw_L_41 : jVw RL 41 mX11_cost 2 := ⟨⟨ml_L_41, im_X11_cost, se_X11_cost⟩, mw_X11_cost⟩
set_option maxRecDepth 100000 in
theorem ml_X11_144 : Cond.methodLink RX11 144 mX10_priceOf.1 ∈ jtbl := jtbl_of (tb_4 _ (List.mem_of_getElem? (i := 110) rfl)) rfl
theorem vw_X11_144 : jVw RX11 144 mX10_priceOf 2 := ⟨⟨ml_X11_144, im_X10_priceOf, se_X10_priceOf⟩, mw_X10_priceOf⟩
set_option maxRecDepth 100000 in
theorem ml_L_45 : Cond.methodLink RL 45 mX11_way.1 ∈ jtbl := jtbl_of (tb_4 _ (List.mem_of_getElem? (i := 114) rfl)) rfl
theorem vw_L_45 : jVw RL 45 mX11_way 2 := ⟨⟨ml_L_45, im_X11_way, se_X11_way⟩, mw_X11_way⟩
set_option maxRecDepth 100000 in
theorem ml_X11_148 : Cond.methodLink RX11 148 mX10_findWay.1 ∈ jtbl := jtbl_of (tb_4 _ (List.mem_of_getElem? (i := 118) rfl)) rfl
theorem vw_X11_148 : jVw RX11 148 mX10_findWay 1 := ⟨⟨ml_X11_148, im_X10_findWay, se_X10_findWay⟩, mw_X10_findWay⟩
set_option maxRecDepth 100000 in
theorem ml_X10_94 : Cond.methodLink RX10 94 mX10_priceOf.1 ∈ jtbl := jtbl_of (tb_4 _ (List.mem_of_getElem? (i := 123) rfl)) rfl
theorem vw_X10_94 : jVw RX10 94 mX10_priceOf 2 := ⟨⟨ml_X10_94, im_X10_priceOf, se_X10_priceOf⟩, mw_X10_priceOf⟩
set_option maxRecDepth 100000 in
theorem ml_X10_98 : Cond.methodLink RX10 98 mX9_setPrice.1 ∈ jtbl := jtbl_of (tb_4 _ (List.mem_of_getElem? (i := 124) rfl)) rfl
theorem vw_X10_98 : jVw RX10 98 mX9_setPrice 2 := ⟨⟨ml_X10_98, im_X9_setPrice, se_X9_setPrice⟩, mw_X9_setPrice⟩
set_option maxRecDepth 100000 in
theorem ml_X10_102 : Cond.methodLink RX10 102 mX9_seek.1 ∈ jtbl := jtbl_of (tb_4 _ (List.mem_of_getElem? (i := 128) rfl)) rfl
theorem vw_X10_102 : jVw RX10 102 mX9_seek 2 := ⟨⟨ml_X10_102, im_X9_seek, se_X9_seek⟩, mw_X9_seek⟩
set_option maxRecDepth 100000 in
theorem ml_X9_47 : Cond.methodLink RX9 47 mX9_measure.1 ∈ jtbl := jtbl_of (tb_4 _ (List.mem_of_getElem? (i := 132) rfl)) rfl
theorem vw_X9_47 : jVw RX9 47 mX9_measure 2 := ⟨⟨ml_X9_47, im_X9_measure, se_X9_measure⟩, mw_X9_measure⟩
set_option maxRecDepth 100000 in
theorem ml_X9_65 : Cond.methodLink RX9 65 mJA_fill_II.1 ∈ jtbl := jtbl_of (tb_4 _ (List.mem_of_getElem? (i := 137) rfl)) rfl
theorem vw_X9_65 : jSw RX9 65 mJA_fill_II 2 := ⟨⟨ml_X9_65, sm_JA_fill_II⟩, mw_JA_fill_II⟩
set_option maxRecDepth 100000 in
theorem ml_X9_51 : Cond.methodLink RX9 51 mX9_isThere.1 ∈ jtbl := jtbl_of (tb_4 _ (List.mem_of_getElem? (i := 138) rfl)) rfl
theorem vw_X9_51 : jVw RX9 51 mX9_isThere 0 := ⟨⟨ml_X9_51, im_X9_isThere, se_X9_isThere⟩, mw_X9_isThere⟩
set_option maxRecDepth 100000 in
theorem ml_X9_55 : Cond.methodLink RX9 55 mX9_stepFrom.1 ∈ jtbl := jtbl_of (tb_4 _ (List.mem_of_getElem? (i := 142) rfl)) rfl
theorem vw_X9_55 : jVw RX9 55 mX9_stepFrom 2 := ⟨⟨ml_X9_55, im_X9_stepFrom, se_X9_stepFrom⟩, mw_X9_stepFrom⟩
set_option maxRecDepth 100000 in
theorem ml_X10_106 : Cond.methodLink RX10 106 mX9_isThere.1 ∈ jtbl := jtbl_of (tb_4 _ (List.mem_of_getElem? (i := 146) rfl)) rfl
theorem vw_X10_106 : jVw RX10 106 mX9_isThere 0 := ⟨⟨ml_X10_106, im_X9_isThere, se_X9_isThere⟩, mw_X9_isThere⟩
set_option maxRecDepth 100000 in
theorem ml_X11_160 : Cond.methodLink RX11 160 mX10_hoursOf.1 ∈ jtbl := jtbl_of (tb_4 _ (List.mem_of_getElem? (i := 147) rfl)) rfl
theorem vw_X11_160 : jVw RX11 160 mX10_hoursOf 1 := ⟨⟨ml_X11_160, im_X10_hoursOf, se_X10_hoursOf⟩, mw_X10_hoursOf⟩
set_option maxRecDepth 100000 in
theorem ml_X11_165 : Cond.methodLink RX11 165 mX10_paidOn.1 ∈ jtbl := jtbl_of (tb_4 _ (List.mem_of_getElem? (i := 151) rfl)) rfl
theorem vw_X11_165 : jVw RX11 165 mX10_paidOn 2 := ⟨⟨ml_X11_165, im_X10_paidOn, se_X10_paidOn⟩, mw_X10_paidOn⟩
set_option maxRecDepth 100000 in
theorem ml_L_49 : Cond.methodLink RL 49 mX11_wayAt.1 ∈ jtbl := jtbl_of (tb_4 _ (List.mem_of_getElem? (i := 155) rfl)) rfl
theorem vw_L_49 : jVw RL 49 mX11_wayAt 2 := ⟨⟨ml_L_49, im_X11_wayAt, se_X11_wayAt⟩, mw_X11_wayAt⟩
set_option maxRecDepth 100000 in
theorem ml_L_53 : Cond.methodLink RL 53 mX11_gate.1 ∈ jtbl := jtbl_of (tb_4 _ (List.mem_of_getElem? (i := 159) rfl)) rfl
theorem vw_L_53 : jVw RL 53 mX11_gate 2 := ⟨⟨ml_L_53, im_X11_gate, se_X11_gate⟩, mw_X11_gate⟩
set_option maxRecDepth 100000 in
theorem ml_X11_172 : Cond.methodLink RX11 172 mX11_beginThing.1 ∈ jtbl := jtbl_of (tb_4 _ (List.mem_of_getElem? (i := 163) rfl)) rfl
theorem vw_X11_172 : jVw RX11 172 mX11_beginThing 0 := ⟨⟨ml_X11_172, im_X11_beginThing, se_X11_beginThing⟩, mw_X11_beginThing⟩
set_option maxRecDepth 100000 in
theorem ml_X11_285 : Cond.methodLink RX11 285 mX3_keep.1 ∈ jtbl := jtbl_of (tb_4 _ (List.mem_of_getElem? (i := 167) rfl)) rfl
theorem vw_X11_285 : jVw RX11 285 mX3_keep 1 := ⟨⟨ml_X11_285, im_X3_keep, se_X3_keep⟩, mw_X3_keep⟩
set_option maxRecDepth 100000 in
theorem ml_X3_31 : Cond.methodLink RX3 31 arraycopyName ∈ jtbl := jtbl_of (tb_4 _ (List.mem_of_getElem? (i := 171) rfl)) rfl
theorem vw_X3_31 : Cond.methodLink RX3 31 arraycopyName ∈ jtbl ∧ Cond.native arraycopyName ∈ jtbl ∧ Cond.static arraycopyName ∈ jtbl ∧ Cond.initialized "java/lang/System" ∈ jtbl := ⟨ml_X3_31, na_copy, sm_copy, in_JY⟩
set_option maxRecDepth 100000 in
theorem ml_X3_37 : Cond.methodLink RX3 37 Lib.Math.min.name ∈ jtbl := jtbl_of (tb_4 _ (List.mem_of_getElem? (i := 174) rfl)) rfl
theorem vw_X3_37 : Cond.methodLink RX3 37 Lib.Math.min.name ∈ jtbl ∧ Cond.static Lib.Math.min.name ∈ jtbl ∧ Cond.initialized "java/lang/Math" ∈ jtbl ∧ Cond.code Lib.Math.min.name Lib.Math.min.code 2 (some .int) ∈ jtbl := ⟨ml_X3_37, sm_min, in_JM, co_min⟩
set_option maxRecDepth 100000 in
theorem ml_L_58 : Cond.methodLink RL 58 mX11_rate.1 ∈ jtbl := jtbl_of (tb_4 _ (List.mem_of_getElem? (i := 175) rfl)) rfl
theorem vw_L_58 : jVw RL 58 mX11_rate 1 := ⟨⟨ml_L_58, im_X11_rate, se_X11_rate⟩, mw_X11_rate⟩
set_option maxRecDepth 100000 in
theorem ml_X11_175 : Cond.methodLink RX11 175 mX5_setRates.1 ∈ jtbl := jtbl_of (tb_4 _ (List.mem_of_getElem? (i := 179) rfl)) rfl
theorem vw_X11_175 : jVw RX11 175 mX5_setRates 2 := ⟨⟨ml_X11_175, im_X5_setRates, se_X5_setRates⟩, mw_X5_setRates⟩
set_option maxRecDepth 100000 in
theorem ml_L_63 : Cond.methodLink RL 63 mX11_mend.1 ∈ jtbl := jtbl_of (tb_4 _ (List.mem_of_getElem? (i := 180) rfl)) rfl
theorem vw_L_63 : jVw RL 63 mX11_mend 1 := ⟨⟨ml_L_63, im_X11_mend, se_X11_mend⟩, mw_X11_mend⟩
set_option maxRecDepth 100000 in
theorem ml_L_67 : Cond.methodLink RL 67 mX11_nights.1 ∈ jtbl := jtbl_of (tb_4 _ (List.mem_of_getElem? (i := 184) rfl)) rfl
theorem vw_L_67 : jVw RL 67 mX11_nights 1 := ⟨⟨ml_L_67, im_X11_nights, se_X11_nights⟩, mw_X11_nights⟩
set_option maxRecDepth 100000 in
theorem ml_X11_179 : Cond.methodLink RX11 179 mX10_passNights.1 ∈ jtbl := jtbl_of (tb_4 _ (List.mem_of_getElem? (i := 188) rfl)) rfl
theorem vw_X11_179 : jVw RX11 179 mX10_passNights 1 := ⟨⟨ml_X11_179, im_X10_passNights, se_X10_passNights⟩, mw_X10_passNights⟩
set_option maxRecDepth 100000 in
theorem ml_X10_65 : Cond.methodLink RX10 65 mX10_passNight.1 ∈ jtbl := jtbl_of (tb_4 _ (List.mem_of_getElem? (i := 192) rfl)) rfl
theorem vw_X10_65 : jVw RX10 65 mX10_passNight 0 := ⟨⟨ml_X10_65, im_X10_passNight, se_X10_passNight⟩, mw_X10_passNight⟩
set_option maxRecDepth 100000 in
theorem ml_X10_76 : Cond.methodLink RX10 76 mX8_isNightOf.1 ∈ jtbl := jtbl_of (tb_4 _ (List.mem_of_getElem? (i := 196) rfl)) rfl
theorem vw_X10_76 : jVw RX10 76 mX8_isNightOf 2 := ⟨⟨ml_X10_76, im_X8_isNightOf, se_X8_isNightOf⟩, mw_X8_isNightOf⟩
set_option maxRecDepth 100000 in
theorem ml_X10_80 : Cond.methodLink RX10 80 mX10_findWay.1 ∈ jtbl := jtbl_of (tb_4 _ (List.mem_of_getElem? (i := 197) rfl)) rfl
theorem vw_X10_80 : jVw RX10 80 mX10_findWay 1 := ⟨⟨ml_X10_80, im_X10_findWay, se_X10_findWay⟩, mw_X10_findWay⟩
set_option maxRecDepth 100000 in
theorem ml_X10_84 : Cond.methodLink RX10 84 mX10_walk.1 ∈ jtbl := jtbl_of (tb_4 _ (List.mem_of_getElem? (i := 198) rfl)) rfl
theorem vw_X10_84 : jVw RX10 84 mX10_walk 1 := ⟨⟨ml_X10_84, im_X10_walk, se_X10_walk⟩, mw_X10_walk⟩
set_option maxRecDepth 100000 in
theorem ml_L_71 : Cond.methodLink RL 71 mX11_undo.1 ∈ jtbl := jtbl_of (tb_4 _ (List.mem_of_getElem? (i := 203) rfl)) rfl
theorem vw_L_71 : jVw RL 71 mX11_undo 0 := ⟨⟨ml_L_71, im_X11_undo, se_X11_undo⟩, mw_X11_undo⟩
set_option maxRecDepth 100000 in
theorem ml_X11_182 : Cond.methodLink RX11 182 mX3_takeBack.1 ∈ jtbl := jtbl_of (tb_4 _ (List.mem_of_getElem? (i := 207) rfl)) rfl
theorem vw_X11_182 : jVw RX11 182 mX3_takeBack 1 := ⟨⟨ml_X11_182, im_X3_takeBack, se_X3_takeBack⟩, mw_X3_takeBack⟩
set_option maxRecDepth 100000 in
theorem ml_L_76 : Cond.methodLink RL 76 mX11_tonight.1 ∈ jtbl := jtbl_of (tb_4 _ (List.mem_of_getElem? (i := 211) rfl)) rfl
theorem vw_L_76 : jVw RL 76 mX11_tonight 1 := ⟨⟨ml_L_76, im_X11_tonight, se_X11_tonight⟩, mw_X11_tonight⟩
set_option maxRecDepth 100000 in
theorem ml_X11_186 : Cond.methodLink RX11 186 mX1_startAnew.1 ∈ jtbl := jtbl_of (tb_4 _ (List.mem_of_getElem? (i := 215) rfl)) rfl
theorem vw_X11_186 : jVw RX11 186 mX1_startAnew 0 := ⟨⟨ml_X11_186, im_X1_startAnew, se_X1_startAnew⟩, mw_X1_startAnew⟩
set_option maxRecDepth 100000 in
theorem ml_X1_39 : Cond.methodLink RX1 39 mX5_copy.1 ∈ jtbl := jtbl_of (tb_4 _ (List.mem_of_getElem? (i := 219) rfl)) rfl
theorem vw_X1_39 : jVw RX1 39 mX5_copy 1 := ⟨⟨ml_X1_39, im_X5_copy, se_X5_copy⟩, mw_X5_copy⟩
set_option maxRecDepth 100000 in
theorem ml_X5_37 : Cond.methodLink RX5 37 arraycopyName ∈ jtbl := jtbl_of (tb_4 _ (List.mem_of_getElem? (i := 223) rfl)) rfl
theorem vw_X5_37 : Cond.methodLink RX5 37 arraycopyName ∈ jtbl ∧ Cond.native arraycopyName ∈ jtbl ∧ Cond.static arraycopyName ∈ jtbl ∧ Cond.initialized "java/lang/System" ∈ jtbl := ⟨ml_X5_37, na_copy, sm_copy, in_JY⟩
set_option maxRecDepth 100000 in
theorem ml_X11_189 : Cond.methodLink RX11 189 mX1_run.1 ∈ jtbl := jtbl_of (tb_4 _ (List.mem_of_getElem? (i := 224) rfl)) rfl
theorem vw_X11_189 : jVw RX11 189 mX1_run 1 := ⟨⟨ml_X11_189, im_X1_run, se_X1_run⟩, mw_X1_run⟩
set_option maxRecDepth 100000 in
theorem ml_X1_43 : Cond.methodLink RX1 43 mX10_enter.1 ∈ jtbl := jtbl_of (tb_4 _ (List.mem_of_getElem? (i := 228) rfl)) rfl
theorem vw_X1_43 : jVw RX1 43 mX10_enter 1 := ⟨⟨ml_X1_43, im_X10_enter, se_X10_enter⟩, mw_X10_enter⟩
set_option maxRecDepth 100000 in
theorem ml_X1_48 : Cond.methodLink RX1 48 mX10_passNight.1 ∈ jtbl := jtbl_of (tb_4 _ (List.mem_of_getElem? (i := 229) rfl)) rfl
theorem vw_X1_48 : jVw RX1 48 mX10_passNight 0 := ⟨⟨ml_X1_48, im_X10_passNight, se_X10_passNight⟩, mw_X10_passNight⟩
set_option maxRecDepth 100000 in
theorem ml_X11_192 : Cond.methodLink RX11 192 mX1_grown.1 ∈ jtbl := jtbl_of (tb_4 _ (List.mem_of_getElem? (i := 230) rfl)) rfl
theorem vw_X11_192 : jVw RX11 192 mX1_grown 2 := ⟨⟨ml_X11_192, im_X1_grown, se_X1_grown⟩, mw_X1_grown⟩
set_option maxRecDepth 100000 in
theorem ml_L_80 : Cond.methodLink RL 80 mX11_put.1 ∈ jtbl := jtbl_of (tb_4 _ (List.mem_of_getElem? (i := 234) rfl)) rfl
theorem vw_L_80 : jVw RL 80 mX11_put 3 := ⟨⟨ml_L_80, im_X11_put, se_X11_put⟩, mw_X11_put⟩
set_option maxRecDepth 100000 in
theorem ml_X11_197 : Cond.methodLink RX11 197 mX1_seekGates.1 ∈ jtbl := jtbl_of (tb_4 _ (List.mem_of_getElem? (i := 238) rfl)) rfl
theorem vw_X11_197 : jVw RX11 197 mX1_seekGates 2 := ⟨⟨ml_X11_197, im_X1_seekGates, se_X1_seekGates⟩, mw_X1_seekGates⟩
set_option maxRecDepth 100000 in
theorem ml_X1_54 : Cond.methodLink RX1 54 mX1_isAnswered.1 ∈ jtbl := jtbl_of (tb_5 _ (List.mem_of_getElem? (i := 2) rfl)) rfl
theorem vw_X1_54 : jVw RX1 54 mX1_isAnswered 1 := ⟨⟨ml_X1_54, im_X1_isAnswered, se_X1_isAnswered⟩, mw_X1_isAnswered⟩
set_option maxRecDepth 100000 in
theorem ml_X1_67 : Cond.methodLink RX1 67 mJI_bitCount.1 ∈ jtbl := jtbl_of (tb_5 _ (List.mem_of_getElem? (i := 6) rfl)) rfl
theorem vw_X1_67 : jSw RX1 67 mJI_bitCount 1 := ⟨⟨ml_X1_67, sm_JI_bitCount⟩, mw_JI_bitCount⟩
set_option maxRecDepth 100000 in
theorem ml_X1_73 : Cond.methodLink RX1 73 mX1_startAnew.1 ∈ jtbl := jtbl_of (tb_5 _ (List.mem_of_getElem? (i := 12) rfl)) rfl
theorem vw_X1_73 : jVw RX1 73 mX1_startAnew 0 := ⟨⟨ml_X1_73, im_X1_startAnew, se_X1_startAnew⟩, mw_X1_startAnew⟩
set_option maxRecDepth 100000 in
theorem ml_X1_76 : Cond.methodLink RX1 76 mX1_run.1 ∈ jtbl := jtbl_of (tb_5 _ (List.mem_of_getElem? (i := 13) rfl)) rfl
theorem vw_X1_76 : jVw RX1 76 mX1_run 1 := ⟨⟨ml_X1_76, im_X1_run, se_X1_run⟩, mw_X1_run⟩
set_option maxRecDepth 100000 in
theorem ml_X1_80 : Cond.methodLink RX1 80 mX1_grown.1 ∈ jtbl := jtbl_of (tb_5 _ (List.mem_of_getElem? (i := 14) rfl)) rfl
theorem vw_X1_80 : jVw RX1 80 mX1_grown 2 := ⟨⟨ml_X1_80, im_X1_grown, se_X1_grown⟩, mw_X1_grown⟩
set_option maxRecDepth 100000 in
theorem ml_X1_84 : Cond.methodLink RX1 84 mX1_keepMost.1 ∈ jtbl := jtbl_of (tb_5 _ (List.mem_of_getElem? (i := 15) rfl)) rfl
theorem vw_X1_84 : jVw RX1 84 mX1_keepMost 2 := ⟨⟨ml_X1_84, im_X1_keepMost, se_X1_keepMost⟩, mw_X1_keepMost⟩
set_option maxRecDepth 100000 in
theorem ml_L_85 : Cond.methodLink RL 85 mX11_free.1 ∈ jtbl := jtbl_of (tb_5 _ (List.mem_of_getElem? (i := 19) rfl)) rfl
theorem vw_L_85 : jVw RL 85 mX11_free 0 := ⟨⟨ml_L_85, im_X11_free, se_X11_free⟩, mw_X11_free⟩
set_option maxRecDepth 100000 in
theorem ml_X11_206 : Cond.methodLink RX11 206 mX10_freeGhosts.1 ∈ jtbl := jtbl_of (tb_5 _ (List.mem_of_getElem? (i := 23) rfl)) rfl
theorem vw_X11_206 : jVw RX11 206 mX10_freeGhosts 0 := ⟨⟨ml_X11_206, im_X10_freeGhosts, se_X10_freeGhosts⟩, mw_X10_freeGhosts⟩
set_option maxRecDepth 100000 in
theorem ml_L_89 : Cond.methodLink RL 89 mX11_stop.1 ∈ jtbl := jtbl_of (tb_5 _ (List.mem_of_getElem? (i := 27) rfl)) rfl
theorem vw_L_89 : jVw RL 89 mX11_stop 1 := ⟨⟨ml_L_89, im_X11_stop, se_X11_stop⟩, mw_X11_stop⟩
set_option maxRecDepth 100000 in
theorem ml_X11_210 : Cond.methodLink RX11 210 mX1_seekStop.1 ∈ jtbl := jtbl_of (tb_5 _ (List.mem_of_getElem? (i := 31) rfl)) rfl
theorem vw_X11_210 : jVw RX11 210 mX1_seekStop 0 := ⟨⟨ml_X11_210, im_X1_seekStop, se_X1_seekStop⟩, mw_X1_seekStop⟩
set_option maxRecDepth 100000 in
theorem ml_X1_91 : Cond.methodLink RX1 91 mX1_findOpenRoads.1 ∈ jtbl := jtbl_of (tb_5 _ (List.mem_of_getElem? (i := 35) rfl)) rfl
theorem vw_X1_91 : jVw RX1 91 mX1_findOpenRoads 0 := ⟨⟨ml_X1_91, im_X1_findOpenRoads, se_X1_findOpenRoads⟩, mw_X1_findOpenRoads⟩
set_option maxRecDepth 100000 in
theorem ml_X1_104 : Cond.methodLink RX1 104 mX10_findWay.1 ∈ jtbl := jtbl_of (tb_5 _ (List.mem_of_getElem? (i := 39) rfl)) rfl
theorem vw_X1_104 : jVw RX1 104 mX10_findWay 1 := ⟨⟨ml_X1_104, im_X10_findWay, se_X10_findWay⟩, mw_X10_findWay⟩
set_option maxRecDepth 100000 in
theorem ml_X1_94 : Cond.methodLink RX1 94 mX1_fewestGates.1 ∈ jtbl := jtbl_of (tb_5 _ (List.mem_of_getElem? (i := 40) rfl)) rfl
theorem vw_X1_94 : jVw RX1 94 mX1_fewestGates 0 := ⟨⟨ml_X1_94, im_X1_fewestGates, se_X1_fewestGates⟩, mw_X1_fewestGates⟩
set_option maxRecDepth 100000 in
theorem ml_X1_135 : Cond.methodLink RX1 135 mX1_leavesNobodyFree.1 ∈ jtbl := jtbl_of (tb_5 _ (List.mem_of_getElem? (i := 44) rfl)) rfl
theorem vw_X1_135 : jVw RX1 135 mX1_leavesNobodyFree 1 := ⟨⟨ml_X1_135, im_X1_leavesNobodyFree, se_X1_leavesNobodyFree⟩, mw_X1_leavesNobodyFree⟩
set_option maxRecDepth 100000 in
theorem ml_X1_138 : Cond.methodLink RX1 138 mX10_changeGates.1 ∈ jtbl := jtbl_of (tb_5 _ (List.mem_of_getElem? (i := 48) rfl)) rfl
theorem vw_X1_138 : jVw RX1 138 mX10_changeGates 1 := ⟨⟨ml_X1_138, im_X10_changeGates, se_X10_changeGates⟩, mw_X10_changeGates⟩
set_option maxRecDepth 100000 in
theorem ml_L_93 : Cond.methodLink RL 93 mX11_saves.1 ∈ jtbl := jtbl_of (tb_5 _ (List.mem_of_getElem? (i := 52) rfl)) rfl
theorem vw_L_93 : jVw RL 93 mX11_saves 1 := ⟨⟨ml_L_93, im_X11_saves, se_X11_saves⟩, mw_X11_saves⟩
set_option maxRecDepth 100000 in
theorem ml_X11_213 : Cond.methodLink RX11 213 mX1_costWithoutGates.1 ∈ jtbl := jtbl_of (tb_5 _ (List.mem_of_getElem? (i := 56) rfl)) rfl
theorem vw_X11_213 : jVw RX11 213 mX1_costWithoutGates 1 := ⟨⟨ml_X11_213, im_X1_costWithoutGates, se_X1_costWithoutGates⟩, mw_X1_costWithoutGates⟩
set_option maxRecDepth 100000 in
theorem ml_L_97 : Cond.methodLink RL 97 mX11_pays.1 ∈ jtbl := jtbl_of (tb_5 _ (List.mem_of_getElem? (i := 60) rfl)) rfl
theorem vw_L_97 : jVw RL 97 mX11_pays 2 := ⟨⟨ml_L_97, im_X11_pays, se_X11_pays⟩, mw_X11_pays⟩
set_option maxRecDepth 100000 in
theorem ml_L_101 : Cond.methodLink RL 101 mX11_seen.1 ∈ jtbl := jtbl_of (tb_5 _ (List.mem_of_getElem? (i := 64) rfl)) rfl
theorem vw_L_101 : jVw RL 101 mX11_seen 2 := ⟨⟨ml_L_101, im_X11_seen, se_X11_seen⟩, mw_X11_seen⟩
set_option maxRecDepth 100000 in
theorem ml_L_105 : Cond.methodLink RL 105 mX11_busiest.1 ∈ jtbl := jtbl_of (tb_5 _ (List.mem_of_getElem? (i := 68) rfl)) rfl
theorem vw_L_105 : jVw RL 105 mX11_busiest 2 := ⟨⟨ml_L_105, im_X11_busiest, se_X11_busiest⟩, mw_X11_busiest⟩
set_option maxRecDepth 100000 in
theorem ml_X11_217 : Cond.methodLink RX11 217 mX1_seekBusiest.1 ∈ jtbl := jtbl_of (tb_5 _ (List.mem_of_getElem? (i := 72) rfl)) rfl
theorem vw_X11_217 : jVw RX11 217 mX1_seekBusiest 1 := ⟨⟨ml_X11_217, im_X1_seekBusiest, se_X1_seekBusiest⟩, mw_X1_seekBusiest⟩
set_option maxRecDepth 100000 in
theorem ml_L_109 : Cond.methodLink RL 109 mX11_best.1 ∈ jtbl := jtbl_of (tb_5 _ (List.mem_of_getElem? (i := 76) rfl)) rfl
theorem vw_L_109 : jVw RL 109 mX11_best 2 := ⟨⟨ml_L_109, im_X11_best, se_X11_best⟩, mw_X11_best⟩
set_option maxRecDepth 100000 in
theorem ml_X11_220 : Cond.methodLink RX11 220 mX1_seekRate.1 ∈ jtbl := jtbl_of (tb_5 _ (List.mem_of_getElem? (i := 80) rfl)) rfl
theorem vw_X11_220 : jVw RX11 220 mX1_seekRate 1 := ⟨⟨ml_X11_220, im_X1_seekRate, se_X1_seekRate⟩, mw_X1_seekRate⟩
set_option maxRecDepth 100000 in
theorem ml_X1_88 : Cond.methodLink RX1 88 mX5_setRates.1 ∈ jtbl := jtbl_of (tb_5 _ (List.mem_of_getElem? (i := 84) rfl)) rfl
theorem vw_X1_88 : jVw RX1 88 mX5_setRates 2 := ⟨⟨ml_X1_88, im_X5_setRates, se_X5_setRates⟩, mw_X5_setRates⟩
set_option maxRecDepth 100000 in
theorem ml_L_113 : Cond.methodLink RL 113 mX11_keepers.1 ∈ jtbl := jtbl_of (tb_5 _ (List.mem_of_getElem? (i := 85) rfl)) rfl
theorem vw_L_113 : jVw RL 113 mX11_keepers 2 := ⟨⟨ml_L_113, im_X11_keepers, se_X11_keepers⟩, mw_X11_keepers⟩
set_option maxRecDepth 100000 in
theorem ml_X11_223 : Cond.methodLink RX11 223 mX1_takeByKeepers.1 ∈ jtbl := jtbl_of (tb_5 _ (List.mem_of_getElem? (i := 89) rfl)) rfl
theorem vw_X11_223 : jVw RX11 223 mX1_takeByKeepers 1 := ⟨⟨ml_X11_223, im_X1_takeByKeepers, se_X1_takeByKeepers⟩, mw_X1_takeByKeepers⟩
set_option maxRecDepth 100000 in
theorem ml_X11_226 : Cond.methodLink RX11 226 mX1_rest.1 ∈ jtbl := jtbl_of (tb_5 _ (List.mem_of_getElem? (i := 93) rfl)) rfl
theorem vw_X11_226 : jVw RX11 226 mX1_rest 1 := ⟨⟨ml_X11_226, im_X1_rest, se_X1_rest⟩, mw_X1_rest⟩
set_option maxRecDepth 100000 in
theorem ml_X1_116 : Cond.methodLink RX1 116 mX1_bothRest.1 ∈ jtbl := jtbl_of (tb_5 _ (List.mem_of_getElem? (i := 97) rfl)) rfl
theorem vw_X1_116 : jVw RX1 116 mX1_bothRest 1 := ⟨⟨ml_X1_116, im_X1_bothRest, se_X1_bothRest⟩, mw_X1_bothRest⟩
set_option maxRecDepth 100000 in
theorem ml_L_117 : Cond.methodLink RL 117 mX11_breaks.1 ∈ jtbl := jtbl_of (tb_5 _ (List.mem_of_getElem? (i := 101) rfl)) rfl
theorem vw_L_117 : jVw RL 117 mX11_breaks 1 := ⟨⟨ml_L_117, im_X11_breaks, se_X11_breaks⟩, mw_X11_breaks⟩
set_option maxRecDepth 100000 in
theorem ml_X11_229 : Cond.methodLink RX11 229 mX1_nightsUntilBroken.1 ∈ jtbl := jtbl_of (tb_5 _ (List.mem_of_getElem? (i := 105) rfl)) rfl
theorem vw_X11_229 : jVw RX11 229 mX1_nightsUntilBroken 1 := ⟨⟨ml_X11_229, im_X1_nightsUntilBroken, se_X1_nightsUntilBroken⟩, mw_X1_nightsUntilBroken⟩
set_option maxRecDepth 100000 in
theorem ml_L_121 : Cond.methodLink RL 121 mX11_first.1 ∈ jtbl := jtbl_of (tb_5 _ (List.mem_of_getElem? (i := 109) rfl)) rfl
theorem vw_L_121 : jVw RL 121 mX11_first 1 := ⟨⟨ml_L_121, im_X11_first, se_X11_first⟩, mw_X11_first⟩
set_option maxRecDepth 100000 in
theorem ml_X11_232 : Cond.methodLink RX11 232 mX1_seekFirstBroken.1 ∈ jtbl := jtbl_of (tb_5 _ (List.mem_of_getElem? (i := 113) rfl)) rfl
theorem vw_X11_232 : jVw RX11 232 mX1_seekFirstBroken 0 := ⟨⟨ml_X11_232, im_X1_seekFirstBroken, se_X1_seekFirstBroken⟩, mw_X1_seekFirstBroken⟩
set_option maxRecDepth 100000 in
theorem ml_X1_122 : Cond.methodLink RX1 122 mX1_firstBit.1 ∈ jtbl := jtbl_of (tb_5 _ (List.mem_of_getElem? (i := 117) rfl)) rfl
theorem vw_X1_122 : jSw RX1 122 mX1_firstBit 1 := ⟨⟨ml_X1_122, sm_X1_firstBit⟩, mw_X1_firstBit⟩
set_option maxRecDepth 100000 in
theorem ml_L_125 : Cond.methodLink RL 125 mX11_meets.1 ∈ jtbl := jtbl_of (tb_5 _ (List.mem_of_getElem? (i := 120) rfl)) rfl
theorem vw_L_125 : jVw RL 125 mX11_meets 2 := ⟨⟨ml_L_125, im_X11_meets, se_X11_meets⟩, mw_X11_meets⟩
set_option maxRecDepth 100000 in
theorem ml_L_129 : Cond.methodLink RL 129 mX11_cutOff.1 ∈ jtbl := jtbl_of (tb_5 _ (List.mem_of_getElem? (i := 124) rfl)) rfl
theorem vw_L_129 : jVw RL 129 mX11_cutOff 1 := ⟨⟨ml_L_129, im_X11_cutOff, se_X11_cutOff⟩, mw_X11_cutOff⟩
set_option maxRecDepth 100000 in
theorem ml_X11_235 : Cond.methodLink RX11 235 mX1_nightsUntilCutOff.1 ∈ jtbl := jtbl_of (tb_5 _ (List.mem_of_getElem? (i := 128) rfl)) rfl
theorem vw_X11_235 : jVw RX11 235 mX1_nightsUntilCutOff 1 := ⟨⟨ml_X11_235, im_X1_nightsUntilCutOff, se_X1_nightsUntilCutOff⟩, mw_X1_nightsUntilCutOff⟩
set_option maxRecDepth 100000 in
theorem ml_L_133 : Cond.methodLink RL 133 mX11_year.1 ∈ jtbl := jtbl_of (tb_5 _ (List.mem_of_getElem? (i := 132) rfl)) rfl
theorem vw_L_133 : jVw RL 133 mX11_year 2 := ⟨⟨ml_L_133, im_X11_year, se_X11_year⟩, mw_X11_year⟩
set_option maxRecDepth 100000 in
theorem ml_X11_238 : Cond.methodLink RX11 238 mX1_growthBySeeds.1 ∈ jtbl := jtbl_of (tb_5 _ (List.mem_of_getElem? (i := 136) rfl)) rfl
theorem vw_X11_238 : jVw RX11 238 mX1_growthBySeeds 2 := ⟨⟨ml_X11_238, im_X1_growthBySeeds, se_X1_growthBySeeds⟩, mw_X1_growthBySeeds⟩
set_option maxRecDepth 100000 in
theorem ml_X1_125 : Cond.methodLink RX1 125 mX8_hangsOnSeed.1 ∈ jtbl := jtbl_of (tb_5 _ (List.mem_of_getElem? (i := 140) rfl)) rfl
theorem vw_X1_125 : jVw RX1 125 mX8_hangsOnSeed 0 := ⟨⟨ml_X1_125, im_X8_hangsOnSeed, se_X8_hangsOnSeed⟩, mw_X8_hangsOnSeed⟩
set_option maxRecDepth 100000 in
theorem ml_X8_89 : Cond.methodLink RX8 89 mX2_looksAtFog.1 ∈ jtbl := jtbl_of (tb_5 _ (List.mem_of_getElem? (i := 144) rfl)) rfl
theorem vw_X8_89 : jVw RX8 89 mX2_looksAtFog 0 := ⟨⟨ml_X8_89, im_X2_looksAtFog, se_X2_looksAtFog⟩, mw_X2_looksAtFog⟩
set_option maxRecDepth 100000 in
theorem ml_L_137 : Cond.methodLink RL 137 mX11_sheet.1 ∈ jtbl := jtbl_of (tb_5 _ (List.mem_of_getElem? (i := 148) rfl)) rfl
theorem vw_L_137 : jVw RL 137 mX11_sheet 2 := ⟨⟨ml_L_137, im_X11_sheet, se_X11_sheet⟩, mw_X11_sheet⟩
set_option maxRecDepth 100000 in
theorem ml_X11_241 : Cond.methodLink RX11 241 mX8_sheetChance.1 ∈ jtbl := jtbl_of (tb_5 _ (List.mem_of_getElem? (i := 152) rfl)) rfl
theorem vw_X11_241 : jVw RX11 241 mX8_sheetChance 2 := ⟨⟨ml_X11_241, im_X8_sheetChance, se_X8_sheetChance⟩, mw_X8_sheetChance⟩
set_option maxRecDepth 100000 in
theorem ml_X8_93 : Cond.methodLink RX8 93 mX8_greatestShared.1 ∈ jtbl := jtbl_of (tb_5 _ (List.mem_of_getElem? (i := 156) rfl)) rfl
theorem vw_X8_93 : jSw RX8 93 mX8_greatestShared 2 := ⟨⟨ml_X8_93, sm_X8_greatestShared⟩, mw_X8_greatestShared⟩
set_option maxRecDepth 100000 in
theorem ml_L_142 : Cond.methodLink RL 142 mX11_tell.1 ∈ jtbl := jtbl_of (tb_5 _ (List.mem_of_getElem? (i := 159) rfl)) rfl
theorem vw_L_142 : jVw RL 142 mX11_tell 3 := ⟨⟨ml_L_142, im_X11_tell, se_X11_tell⟩, mw_X11_tell⟩
set_option maxRecDepth 100000 in
theorem ml_X11_245 : Cond.methodLink RX11 245 mX0_add.1 ∈ jtbl := jtbl_of (tb_5 _ (List.mem_of_getElem? (i := 163) rfl)) rfl
theorem vw_X11_245 : jVw RX11 245 mX0_add 3 := ⟨⟨ml_X11_245, im_X0_add, se_X0_add⟩, mw_X0_add⟩
set_option maxRecDepth 100000 in
theorem ml_L_147 : Cond.methodLink RL 147 mX11_forget.1 ∈ jtbl := jtbl_of (tb_5 _ (List.mem_of_getElem? (i := 167) rfl)) rfl
theorem vw_L_147 : jVw RL 147 mX11_forget 0 := ⟨⟨ml_L_147, im_X11_forget, se_X11_forget⟩, mw_X11_forget⟩
set_option maxRecDepth 100000 in
theorem ml_L_151 : Cond.methodLink RL 151 mX11_who.1 ∈ jtbl := jtbl_of (tb_5 _ (List.mem_of_getElem? (i := 171) rfl)) rfl
theorem vw_L_151 : jVw RL 151 mX11_who 2 := ⟨⟨ml_L_151, im_X11_who, se_X11_who⟩, mw_X11_who⟩
set_option maxRecDepth 100000 in
theorem ml_X11_251 : Cond.methodLink RX11 251 mX0_learnFor.1 ∈ jtbl := jtbl_of (tb_5 _ (List.mem_of_getElem? (i := 175) rfl)) rfl
theorem vw_X11_251 : jVw RX11 251 mX0_learnFor 2 := ⟨⟨ml_X11_251, im_X0_learnFor, se_X0_learnFor⟩, mw_X0_learnFor⟩
set_option maxRecDepth 100000 in
theorem ml_X0_72 : Cond.methodLink RX0 72 Lib.Math.max.name ∈ jtbl := jtbl_of (tb_5 _ (List.mem_of_getElem? (i := 179) rfl)) rfl
theorem vw_X0_72 : Cond.methodLink RX0 72 Lib.Math.max.name ∈ jtbl ∧ Cond.static Lib.Math.max.name ∈ jtbl ∧ Cond.initialized "java/lang/Math" ∈ jtbl ∧ Cond.code Lib.Math.max.name Lib.Math.max.code 2 (some .int) ∈ jtbl := ⟨ml_X0_72, sm_max, in_JM, co_max⟩
set_option maxRecDepth 100000 in
theorem ml_X0_84 : Cond.methodLink RX0 84 mX0_learnSet.1 ∈ jtbl := jtbl_of (tb_5 _ (List.mem_of_getElem? (i := 180) rfl)) rfl
theorem vw_X0_84 : jVw RX0 84 mX0_learnSet 2 := ⟨⟨ml_X0_84, im_X0_learnSet, se_X0_learnSet⟩, mw_X0_learnSet⟩
set_option maxRecDepth 100000 in
theorem ml_X0_88 : Cond.methodLink RX0 88 mX5_begin.1 ∈ jtbl := jtbl_of (tb_5 _ (List.mem_of_getElem? (i := 184) rfl)) rfl
theorem vw_X0_88 : jVw RX0 88 mX5_begin 1 := ⟨⟨ml_X0_88, im_X5_begin, se_X5_begin⟩, mw_X5_begin⟩
set_option maxRecDepth 100000 in
theorem ml_X0_95 : Cond.methodLink RX0 95 arraycopyName ∈ jtbl := jtbl_of (tb_5 _ (List.mem_of_getElem? (i := 185) rfl)) rfl
theorem vw_X0_95 : Cond.methodLink RX0 95 arraycopyName ∈ jtbl ∧ Cond.native arraycopyName ∈ jtbl ∧ Cond.static arraycopyName ∈ jtbl ∧ Cond.initialized "java/lang/System" ∈ jtbl := ⟨ml_X0_95, na_copy, sm_copy, in_JY⟩
set_option maxRecDepth 100000 in
theorem ml_X0_101 : Cond.methodLink RX0 101 mX10_enter.1 ∈ jtbl := jtbl_of (tb_5 _ (List.mem_of_getElem? (i := 186) rfl)) rfl
theorem vw_X0_101 : jVw RX0 101 mX10_enter 1 := ⟨⟨ml_X0_101, im_X10_enter, se_X10_enter⟩, mw_X10_enter⟩
set_option maxRecDepth 100000 in
theorem ml_X0_105 : Cond.methodLink RX0 105 mX10_passNight.1 ∈ jtbl := jtbl_of (tb_5 _ (List.mem_of_getElem? (i := 187) rfl)) rfl
theorem vw_X0_105 : jVw RX0 105 mX10_passNight 0 := ⟨⟨ml_X0_105, im_X10_passNight, se_X10_passNight⟩, mw_X10_passNight⟩
set_option maxRecDepth 100000 in
theorem ml_X11_254 : Cond.methodLink RX11 254 mX0_pickSet.1 ∈ jtbl := jtbl_of (tb_5 _ (List.mem_of_getElem? (i := 188) rfl)) rfl
theorem vw_X11_254 : jVw RX11 254 mX0_pickSet 2 := ⟨⟨ml_X11_254, im_X0_pickSet, se_X0_pickSet⟩, mw_X0_pickSet⟩
set_option maxRecDepth 100000 in
theorem ml_X0_53 : Cond.methodLink RX0 53 mX0_mayBe.1 ∈ jtbl := jtbl_of (tb_5 _ (List.mem_of_getElem? (i := 192) rfl)) rfl
theorem vw_X0_53 : jVw RX0 53 mX0_mayBe 2 := ⟨⟨ml_X0_53, im_X0_mayBe, se_X0_mayBe⟩, mw_X0_mayBe⟩
set_option maxRecDepth 100000 in
theorem ml_L_155 : Cond.methodLink RL 155 mX11_watch.1 ∈ jtbl := jtbl_of (tb_5 _ (List.mem_of_getElem? (i := 196) rfl)) rfl
theorem vw_L_155 : jVw RL 155 mX11_watch 2 := ⟨⟨ml_L_155, im_X11_watch, se_X11_watch⟩, mw_X11_watch⟩
set_option maxRecDepth 100000 in
theorem ml_X11_257 : Cond.methodLink RX11 257 mX0_roadToWatch.1 ∈ jtbl := jtbl_of (tb_5 _ (List.mem_of_getElem? (i := 200) rfl)) rfl
theorem vw_X11_257 : jVw RX11 257 mX0_roadToWatch 2 := ⟨⟨ml_X11_257, im_X0_roadToWatch, se_X0_roadToWatch⟩, mw_X0_roadToWatch⟩
set_option maxRecDepth 100000 in
theorem ml_X0_57 : Cond.methodLink RX0 57 mJA_fill_II.1 ∈ jtbl := jtbl_of (tb_5 _ (List.mem_of_getElem? (i := 204) rfl)) rfl
theorem vw_X0_57 : jSw RX0 57 mJA_fill_II 2 := ⟨⟨ml_X0_57, sm_JA_fill_II⟩, mw_JA_fill_II⟩
set_option maxRecDepth 100000 in
theorem ml_X0_68 : Cond.methodLink RX0 68 mX0_roadThatLeavesFewest.1 ∈ jtbl := jtbl_of (tb_5 _ (List.mem_of_getElem? (i := 205) rfl)) rfl
theorem vw_X0_68 : jVw RX0 68 mX0_roadThatLeavesFewest 1 := ⟨⟨ml_X0_68, im_X0_roadThatLeavesFewest, se_X0_roadThatLeavesFewest⟩, mw_X0_roadThatLeavesFewest⟩
set_option maxRecDepth 100000 in
theorem ml_L_159 : Cond.methodLink RL 159 mX11_hold.1 ∈ jtbl := jtbl_of (tb_5 _ (List.mem_of_getElem? (i := 209) rfl)) rfl
theorem vw_L_159 : jVw RL 159 mX11_hold 1 := ⟨⟨ml_L_159, im_X11_hold, se_X11_hold⟩, mw_X11_hold⟩
set_option maxRecDepth 100000 in
theorem ml_X11_260 : Cond.methodLink RX11 260 mX3_fillSlot.1 ∈ jtbl := jtbl_of (tb_5 _ (List.mem_of_getElem? (i := 213) rfl)) rfl
theorem vw_X11_260 : jVw RX11 260 mX3_fillSlot 2 := ⟨⟨ml_X11_260, im_X3_fillSlot, se_X3_fillSlot⟩, mw_X3_fillSlot⟩
set_option maxRecDepth 100000 in
theorem ml_L_163 : Cond.methodLink RL 163 mX11_restore.1 ∈ jtbl := jtbl_of (tb_5 _ (List.mem_of_getElem? (i := 217) rfl)) rfl
theorem vw_L_163 : jVw RL 163 mX11_restore 1 := ⟨⟨ml_L_163, im_X11_restore, se_X11_restore⟩, mw_X11_restore⟩
set_option maxRecDepth 100000 in
theorem ml_X11_264 : Cond.methodLink RX11 264 mX3_useSlot.1 ∈ jtbl := jtbl_of (tb_5 _ (List.mem_of_getElem? (i := 221) rfl)) rfl
theorem vw_X11_264 : jVw RX11 264 mX3_useSlot 2 := ⟨⟨ml_X11_264, im_X3_useSlot, se_X3_useSlot⟩, mw_X3_useSlot⟩
set_option maxRecDepth 100000 in
theorem ml_L_167 : Cond.methodLink RL 167 mX11_count.1 ∈ jtbl := jtbl_of (tb_5 _ (List.mem_of_getElem? (i := 225) rfl)) rfl
theorem vw_L_167 : jVw RL 167 mX11_count 1 := ⟨⟨ml_L_167, im_X11_count, se_X11_count⟩, mw_X11_count⟩
set_option maxRecDepth 100000 in
theorem ml_X11_280 : Cond.methodLink RX11 280 mJI_bitCount.1 ∈ jtbl := jtbl_of (tb_5 _ (List.mem_of_getElem? (i := 229) rfl)) rfl
theorem vw_X11_280 : jSw RX11 280 mJI_bitCount 1 := ⟨⟨ml_X11_280, sm_JI_bitCount⟩, mw_JI_bitCount⟩
set_option maxRecDepth 100000 in
theorem ml_L_12 : Cond.methodLink RL 12 mX12_init.1 ∈ jtbl := jtbl_of (tb_5 _ (List.mem_of_getElem? (i := 232) rfl)) rfl
theorem vw_L_12 : jIw RL 12 mX12_init 0 := ⟨⟨ml_L_12, im_X12_init, rfl⟩, mw_X12_init⟩
set_option maxRecDepth 100000 in
theorem ml_X12_7 : Cond.methodLink RX12 7 objectInit ∈ jtbl := jtbl_of (tb_5 _ (List.mem_of_getElem? (i := 235) rfl)) rfl
set_option maxRecDepth 100000 in
theorem ml_X12_182 : Cond.methodLink RX12 182 mX12_plain.1 ∈ jtbl := jtbl_of (tb_5 _ (List.mem_of_getElem? (i := 236) rfl)) rfl
theorem vw_X12_182 : jVw RX12 182 mX12_plain 1 := ⟨⟨ml_X12_182, im_X12_plain, se_X12_plain⟩, mw_X12_plain⟩
set_option maxRecDepth 100000 in
theorem ml_X12_186 : Cond.methodLink RX12 186 mX12_word.1 ∈ jtbl := jtbl_of (tb_6 _ (List.mem_of_getElem? (i := 0) rfl)) rfl
theorem vw_X12_186 : jSw RX12 186 mX12_word 7 := ⟨⟨ml_X12_186, sm_X12_word⟩, mw_X12_word⟩
set_option maxRecDepth 100000 in
theorem ml_X12_207 : Cond.methodLink RX12 207 mX12_appends.1 ∈ jtbl := jtbl_of (tb_6 _ (List.mem_of_getElem? (i := 3) rfl)) rfl
theorem vw_X12_207 : jSw RX12 207 mX12_appends 2 := ⟨⟨ml_X12_207, sm_X12_appends⟩, mw_X12_appends⟩
set_option maxRecDepth 100000 in
theorem ml_X12_190 : Cond.methodLink RX12 190 mX12_begins.1 ∈ jtbl := jtbl_of (tb_6 _ (List.mem_of_getElem? (i := 7) rfl)) rfl
theorem vw_X12_190 : jVw RX12 190 mX12_begins 0 := ⟨⟨ml_X12_190, im_X12_begins, se_X12_begins⟩, mw_X12_begins⟩
set_option maxRecDepth 100000 in
theorem ml_X12_362 : Cond.methodLink RX12 362 mX12_plainly.1 ∈ jtbl := jtbl_of (tb_6 _ (List.mem_of_getElem? (i := 11) rfl)) rfl
theorem vw_X12_362 : jVw RX12 362 mX12_plainly 0 := ⟨⟨ml_X12_362, im_X12_plainly, se_X12_plainly⟩, mw_X12_plainly⟩
set_option maxRecDepth 100000 in
theorem ml_X12_193 : Cond.methodLink RX12 193 mX12_keepsRow.1 ∈ jtbl := jtbl_of (tb_6 _ (List.mem_of_getElem? (i := 15) rfl)) rfl
theorem vw_X12_193 : jVw RX12 193 mX12_keepsRow 0 := ⟨⟨ml_X12_193, im_X12_keepsRow, se_X12_keepsRow⟩, mw_X12_keepsRow⟩
set_option maxRecDepth 100000 in
theorem ml_L_17 : Cond.methodLink RL 17 mX12_feed.1 ∈ jtbl := jtbl_of (tb_7 _ (List.mem_of_getElem? (i := 20) rfl)) rfl
theorem vw_L_17 : jVw RL 17 mX12_feed 5 := ⟨⟨ml_L_17, im_X12_feed, se_X12_feed⟩, mw_X12_feed⟩
set_option maxRecDepth 100000 in
theorem ml_X12_199 : Cond.methodLink RX12 199 mX12_tapes.1 ∈ jtbl := jtbl_of (tb_7 _ (List.mem_of_getElem? (i := 24) rfl)) rfl
theorem vw_X12_199 : jVw RX12 199 mX12_tapes 1 := ⟨⟨ml_X12_199, im_X12_tapes, se_X12_tapes⟩, mw_X12_tapes⟩
set_option maxRecDepth 100000 in
theorem ml_L_22 : Cond.methodLink RL 22 mX12_back.1 ∈ jtbl := jtbl_of (tb_7 _ (List.mem_of_getElem? (i := 28) rfl)) rfl
theorem vw_L_22 : jVw RL 22 mX12_back 1 := ⟨⟨ml_L_22, im_X12_back, se_X12_back⟩, mw_X12_back⟩
set_option maxRecDepth 100000 in
theorem ml_L_27 : Cond.methodLink RL 27 mX12_read.1 ∈ jtbl := jtbl_of (tb_7 _ (List.mem_of_getElem? (i := 32) rfl)) rfl
theorem vw_L_27 : jVw RL 27 mX12_read 0 := ⟨⟨ml_L_27, im_X12_read, se_X12_read⟩, mw_X12_read⟩
set_option maxRecDepth 100000 in
theorem ml_X12_257 : Cond.methodLink RX12 257 mX12_cut.1 ∈ jtbl := jtbl_of (tb_7 _ (List.mem_of_getElem? (i := 36) rfl)) rfl
theorem vw_X12_257 : jVw RX12 257 mX12_cut 0 := ⟨⟨ml_X12_257, im_X12_cut, se_X12_cut⟩, mw_X12_cut⟩
set_option maxRecDepth 100000 in
theorem ml_X12_214 : Cond.methodLink RX12 214 mX12_byteAt.1 ∈ jtbl := jtbl_of (tb_7 _ (List.mem_of_getElem? (i := 40) rfl)) rfl
theorem vw_X12_214 : jVw RX12 214 mX12_byteAt 1 := ⟨⟨ml_X12_214, im_X12_byteAt, se_X12_byteAt⟩, mw_X12_byteAt⟩
set_option maxRecDepth 100000 in
theorem ml_X12_218 : Cond.methodLink RX12 218 mX12_token.1 ∈ jtbl := jtbl_of (tb_7 _ (List.mem_of_getElem? (i := 44) rfl)) rfl
theorem vw_X12_218 : jVw RX12 218 mX12_token 4 := ⟨⟨ml_X12_218, im_X12_token, se_X12_token⟩, mw_X12_token⟩
set_option maxRecDepth 100000 in
theorem ml_X12_222 : Cond.methodLink RX12 222 mX12_isLetter.1 ∈ jtbl := jtbl_of (tb_7 _ (List.mem_of_getElem? (i := 48) rfl)) rfl
theorem vw_X12_222 : jSw RX12 222 mX12_isLetter 1 := ⟨⟨ml_X12_222, sm_X12_isLetter⟩, mw_X12_isLetter⟩
set_option maxRecDepth 100000 in
theorem ml_X12_226 : Cond.methodLink RX12 226 mX12_isDigit.1 ∈ jtbl := jtbl_of (tb_7 _ (List.mem_of_getElem? (i := 51) rfl)) rfl
theorem vw_X12_226 : jSw RX12 226 mX12_isDigit 1 := ⟨⟨ml_X12_226, sm_X12_isDigit⟩, mw_X12_isDigit⟩
set_option maxRecDepth 100000 in
theorem ml_X12_229 : Cond.methodLink RX12 229 mX12_sign.1 ∈ jtbl := jtbl_of (tb_7 _ (List.mem_of_getElem? (i := 54) rfl)) rfl
theorem vw_X12_229 : jVw RX12 229 mX12_sign 3 := ⟨⟨ml_X12_229, im_X12_sign, se_X12_sign⟩, mw_X12_sign⟩
set_option maxRecDepth 100000 in
theorem ml_X12_251 : Cond.methodLink RX12 251 mX12_is.1 ∈ jtbl := jtbl_of (tb_7 _ (List.mem_of_getElem? (i := 58) rfl)) rfl
theorem vw_X12_251 : jVw RX12 251 mX12_is 1 := ⟨⟨ml_X12_251, im_X12_is, se_X12_is⟩, mw_X12_is⟩
set_option maxRecDepth 100000 in
theorem ml_X12_278 : Cond.methodLink RX12 278 mX12_tellOne.1 ∈ jtbl := jtbl_of (tb_7 _ (List.mem_of_getElem? (i := 62) rfl)) rfl
theorem vw_X12_278 : jVw RX12 278 mX12_tellOne 0 := ⟨⟨ml_X12_278, im_X12_tellOne, se_X12_tellOne⟩, mw_X12_tellOne⟩
set_option maxRecDepth 100000 in
theorem ml_X12_287 : Cond.methodLink RX12 287 mX12_roomFor.1 ∈ jtbl := jtbl_of (tb_7 _ (List.mem_of_getElem? (i := 66) rfl)) rfl
theorem vw_X12_287 : jVw RX12 287 mX12_roomFor 2 := ⟨⟨ml_X12_287, im_X12_roomFor, se_X12_roomFor⟩, mw_X12_roomFor⟩
set_option maxRecDepth 100000 in
theorem ml_X12_248 : Cond.methodLink RX12 248 mX12_fail.1 ∈ jtbl := jtbl_of (tb_7 _ (List.mem_of_getElem? (i := 70) rfl)) rfl
theorem vw_X12_248 : jVw RX12 248 mX12_fail 1 := ⟨⟨ml_X12_248, im_X12_fail, se_X12_fail⟩, mw_X12_fail⟩
set_option maxRecDepth 100000 in
theorem ml_X12_254 : Cond.methodLink RX12 254 mX12_goesOn.1 ∈ jtbl := jtbl_of (tb_7 _ (List.mem_of_getElem? (i := 74) rfl)) rfl
theorem vw_X12_254 : jVw RX12 254 mX12_goesOn 0 := ⟨⟨ml_X12_254, im_X12_goesOn, se_X12_goesOn⟩, mw_X12_goesOn⟩
set_option maxRecDepth 100000 in
theorem ml_X12_291 : Cond.methodLink RX12 291 mX12_named.1 ∈ jtbl := jtbl_of (tb_7 _ (List.mem_of_getElem? (i := 78) rfl)) rfl
theorem vw_X12_291 : jVw RX12 291 mX12_named 0 := ⟨⟨ml_X12_291, im_X12_named, se_X12_named⟩, mw_X12_named⟩
set_option maxRecDepth 100000 in
theorem ml_X12_308 : Cond.methodLink RX12 308 mX12_must.1 ∈ jtbl := jtbl_of (tb_7 _ (List.mem_of_getElem? (i := 82) rfl)) rfl
theorem vw_X12_308 : jVw RX12 308 mX12_must 1 := ⟨⟨ml_X12_308, im_X12_must, se_X12_must⟩, mw_X12_must⟩
set_option maxRecDepth 100000 in
theorem ml_X12_314 : Cond.methodLink RX12 314 mX12_wrong.1 ∈ jtbl := jtbl_of (tb_7 _ (List.mem_of_getElem? (i := 86) rfl)) rfl
theorem vw_X12_314 : jVw RX12 314 mX12_wrong 2 := ⟨⟨ml_X12_314, im_X12_wrong, se_X12_wrong⟩, mw_X12_wrong⟩
set_option maxRecDepth 100000 in
theorem ml_X12_295 : Cond.methodLink RX12 295 mX12_ends.1 ∈ jtbl := jtbl_of (tb_7 _ (List.mem_of_getElem? (i := 90) rfl)) rfl
theorem vw_X12_295 : jVw RX12 295 mX12_ends 2 := ⟨⟨ml_X12_295, im_X12_ends, se_X12_ends⟩, mw_X12_ends⟩
set_option maxRecDepth 100000 in
theorem ml_X12_298 : Cond.methodLink RX12 298 mX12_tellRoad.1 ∈ jtbl := jtbl_of (tb_7 _ (List.mem_of_getElem? (i := 94) rfl)) rfl
theorem vw_X12_298 : jVw RX12 298 mX12_tellRoad 0 := ⟨⟨ml_X12_298, im_X12_tellRoad, se_X12_tellRoad⟩, mw_X12_tellRoad⟩
set_option maxRecDepth 100000 in
theorem ml_X12_317 : Cond.methodLink RX12 317 mX12_knownPlace.1 ∈ jtbl := jtbl_of (tb_7 _ (List.mem_of_getElem? (i := 98) rfl)) rfl
theorem vw_X12_317 : jVw RX12 317 mX12_knownPlace 0 := ⟨⟨ml_X12_317, im_X12_knownPlace, se_X12_knownPlace⟩, mw_X12_knownPlace⟩
set_option maxRecDepth 100000 in
theorem ml_X12_320 : Cond.methodLink RX12 320 mX12_otherThan.1 ∈ jtbl := jtbl_of (tb_7 _ (List.mem_of_getElem? (i := 102) rfl)) rfl
theorem vw_X12_320 : jVw RX12 320 mX12_otherThan 1 := ⟨⟨ml_X12_320, im_X12_otherThan, se_X12_otherThan⟩, mw_X12_otherThan⟩
set_option maxRecDepth 100000 in
theorem ml_X12_304 : Cond.methodLink RX12 304 mX12_bounded.1 ∈ jtbl := jtbl_of (tb_7 _ (List.mem_of_getElem? (i := 106) rfl)) rfl
theorem vw_X12_304 : jVw RX12 304 mX12_bounded 2 := ⟨⟨ml_X12_304, im_X12_bounded, se_X12_bounded⟩, mw_X12_bounded⟩
set_option maxRecDepth 100000 in
theorem ml_X12_323 : Cond.methodLink RX12 323 mX12_isTold.1 ∈ jtbl := jtbl_of (tb_7 _ (List.mem_of_getElem? (i := 110) rfl)) rfl
theorem vw_X12_323 : jVw RX12 323 mX12_isTold 1 := ⟨⟨ml_X12_323, im_X12_isTold, se_X12_isTold⟩, mw_X12_isTold⟩
set_option maxRecDepth 100000 in
theorem ml_X12_301 : Cond.methodLink RX12 301 mX12_tellGhost.1 ∈ jtbl := jtbl_of (tb_7 _ (List.mem_of_getElem? (i := 114) rfl)) rfl
theorem vw_X12_301 : jVw RX12 301 mX12_tellGhost 0 := ⟨⟨ml_X12_301, im_X12_tellGhost, se_X12_tellGhost⟩, mw_X12_tellGhost⟩
set_option maxRecDepth 100000 in
theorem ml_X12_311 : Cond.methodLink RX12 311 mX12_tellLaw.1 ∈ jtbl := jtbl_of (tb_7 _ (List.mem_of_getElem? (i := 118) rfl)) rfl
theorem vw_X12_311 : jVw RX12 311 mX12_tellLaw 1 := ⟨⟨ml_X12_311, im_X12_tellLaw, se_X12_tellLaw⟩, mw_X12_tellLaw⟩
set_option maxRecDepth 100000 in
theorem ml_X12_326 : Cond.methodLink RX12 326 mX12_expression.1 ∈ jtbl := jtbl_of (tb_7 _ (List.mem_of_getElem? (i := 122) rfl)) rfl
theorem vw_X12_326 : jVw RX12 326 mX12_expression 0 := ⟨⟨ml_X12_326, im_X12_expression, se_X12_expression⟩, mw_X12_expression⟩
set_option maxRecDepth 100000 in
theorem ml_X12_338 : Cond.methodLink RX12 338 mX12_unit.1 ∈ jtbl := jtbl_of (tb_7 _ (List.mem_of_getElem? (i := 126) rfl)) rfl
theorem vw_X12_338 : jVw RX12 338 mX12_unit 0 := ⟨⟨ml_X12_338, im_X12_unit, se_X12_unit⟩, mw_X12_unit⟩
set_option maxRecDepth 100000 in
theorem ml_X12_335 : Cond.methodLink RX12 335 mX12_emit.1 ∈ jtbl := jtbl_of (tb_7 _ (List.mem_of_getElem? (i := 130) rfl)) rfl
theorem vw_X12_335 : jVw RX12 335 mX12_emit 2 := ⟨⟨ml_X12_335, im_X12_emit, se_X12_emit⟩, mw_X12_emit⟩
set_option maxRecDepth 100000 in
theorem ml_X12_341 : Cond.methodLink RX12 341 mX12_comesOut.1 ∈ jtbl := jtbl_of (tb_7 _ (List.mem_of_getElem? (i := 134) rfl)) rfl
theorem vw_X12_341 : jVw RX12 341 mX12_comesOut 1 := ⟨⟨ml_X12_341, im_X12_comesOut, se_X12_comesOut⟩, mw_X12_comesOut⟩
set_option maxRecDepth 100000 in
theorem ml_X12_329 : Cond.methodLink RX12 329 mX12_term.1 ∈ jtbl := jtbl_of (tb_7 _ (List.mem_of_getElem? (i := 138) rfl)) rfl
theorem vw_X12_329 : jVw RX12 329 mX12_term 0 := ⟨⟨ml_X12_329, im_X12_term, se_X12_term⟩, mw_X12_term⟩
set_option maxRecDepth 100000 in
theorem ml_L_31 : Cond.methodLink RL 31 mX12_place.1 ∈ jtbl := jtbl_of (tb_7 _ (List.mem_of_getElem? (i := 142) rfl)) rfl
theorem vw_L_31 : jVw RL 31 mX12_place 0 := ⟨⟨ml_L_31, im_X12_place, se_X12_place⟩, mw_X12_place⟩
set_option maxRecDepth 100000 in
theorem ml_L_36 : Cond.methodLink RL 36 mX12_road.1 ∈ jtbl := jtbl_of (tb_7 _ (List.mem_of_getElem? (i := 146) rfl)) rfl
theorem vw_L_36 : jVw RL 36 mX12_road 2 := ⟨⟨ml_L_36, im_X12_road, se_X12_road⟩, mw_X12_road⟩
set_option maxRecDepth 100000 in
theorem ml_X12_427 : Cond.methodLink RX12 427 mX12_isRoad.1 ∈ jtbl := jtbl_of (tb_7 _ (List.mem_of_getElem? (i := 150) rfl)) rfl
theorem vw_X12_427 : jVw RX12 427 mX12_isRoad 1 := ⟨⟨ml_X12_427, im_X12_isRoad, se_X12_isRoad⟩, mw_X12_isRoad⟩
set_option maxRecDepth 100000 in
theorem ml_X12_349 : Cond.methodLink RX12 349 mX12_in.1 ∈ jtbl := jtbl_of (tb_7 _ (List.mem_of_getElem? (i := 154) rfl)) rfl
theorem vw_X12_349 : jSw RX12 349 mX12_in 3 := ⟨⟨ml_X12_349, sm_X12_in⟩, mw_X12_in⟩
set_option maxRecDepth 100000 in
theorem ml_X12_430 : Cond.methodLink RX12 430 mX12_copies.1 ∈ jtbl := jtbl_of (tb_7 _ (List.mem_of_getElem? (i := 157) rfl)) rfl
theorem vw_X12_430 : jVw RX12 430 mX12_copies 0 := ⟨⟨ml_X12_430, im_X12_copies, se_X12_copies⟩, mw_X12_copies⟩
set_option maxRecDepth 100000 in
theorem ml_X12_391 : Cond.methodLink RX12 391 mX12_overField.1 ∈ jtbl := jtbl_of (tb_7 _ (List.mem_of_getElem? (i := 161) rfl)) rfl
theorem vw_X12_391 : jVw RX12 391 mX12_overField 1 := ⟨⟨ml_X12_391, im_X12_overField, se_X12_overField⟩, mw_X12_overField⟩
set_option maxRecDepth 100000 in
theorem ml_X12_385 : Cond.methodLink RX12 385 mX12_hasGate.1 ∈ jtbl := jtbl_of (tb_7 _ (List.mem_of_getElem? (i := 165) rfl)) rfl
theorem vw_X12_385 : jVw RX12 385 mX12_hasGate 1 := ⟨⟨ml_X12_385, im_X12_hasGate, se_X12_hasGate⟩, mw_X12_hasGate⟩
set_option maxRecDepth 100000 in
theorem ml_X12_394 : Cond.methodLink RX12 394 mX12_isDown.1 ∈ jtbl := jtbl_of (tb_7 _ (List.mem_of_getElem? (i := 169) rfl)) rfl
theorem vw_X12_394 : jVw RX12 394 mX12_isDown 1 := ⟨⟨ml_X12_394, im_X12_isDown, se_X12_isDown⟩, mw_X12_isDown⟩
set_option maxRecDepth 100000 in
theorem ml_X12_382 : Cond.methodLink RX12 382 mX12_asks.1 ∈ jtbl := jtbl_of (tb_7 _ (List.mem_of_getElem? (i := 173) rfl)) rfl
theorem vw_X12_382 : jVw RX12 382 mX12_asks 3 := ⟨⟨ml_X12_382, im_X12_asks, se_X12_asks⟩, mw_X12_asks⟩
set_option maxRecDepth 100000 in
theorem ml_X12_369 : Cond.methodLink RX12 369 mX12_termOf.1 ∈ jtbl := jtbl_of (tb_7 _ (List.mem_of_getElem? (i := 177) rfl)) rfl
theorem vw_X12_369 : jVw RX12 369 mX12_termOf 2 := ⟨⟨ml_X12_369, im_X12_termOf, se_X12_termOf⟩, mw_X12_termOf⟩
set_option maxRecDepth 100000 in
theorem ml_L_40 : Cond.methodLink RL 40 mX12_ghost.1 ∈ jtbl := jtbl_of (tb_7 _ (List.mem_of_getElem? (i := 181) rfl)) rfl
theorem vw_L_40 : jVw RL 40 mX12_ghost 2 := ⟨⟨ml_L_40, im_X12_ghost, se_X12_ghost⟩, mw_X12_ghost⟩
set_option maxRecDepth 100000 in
theorem ml_X12_433 : Cond.methodLink RX12 433 mX12_isGhost.1 ∈ jtbl := jtbl_of (tb_7 _ (List.mem_of_getElem? (i := 185) rfl)) rfl
theorem vw_X12_433 : jVw RX12 433 mX12_isGhost 1 := ⟨⟨ml_X12_433, im_X12_isGhost, se_X12_isGhost⟩, mw_X12_isGhost⟩
set_option maxRecDepth 100000 in
theorem ml_X12_415 : Cond.methodLink RX12 415 mX12_isHis.1 ∈ jtbl := jtbl_of (tb_7 _ (List.mem_of_getElem? (i := 189) rfl)) rfl
theorem vw_X12_415 : jVw RX12 415 mX12_isHis 1 := ⟨⟨ml_X12_415, im_X12_isHis, se_X12_isHis⟩, mw_X12_isHis⟩
set_option maxRecDepth 100000 in
theorem ml_L_44 : Cond.methodLink RL 44 mX12_cost.1 ∈ jtbl := jtbl_of (tb_7 _ (List.mem_of_getElem? (i := 193) rfl)) rfl
theorem vw_L_44 : jVw RL 44 mX12_cost 2 := ⟨⟨ml_L_44, im_X12_cost, se_X12_cost⟩, mw_X12_cost⟩
set_option maxRecDepth 100000 in
theorem ml_X12_397 : Cond.methodLink RX12 397 mX12_costOf.1 ∈ jtbl := jtbl_of (tb_7 _ (List.mem_of_getElem? (i := 197) rfl)) rfl
theorem vw_X12_397 : jVw RX12 397 mX12_costOf 2 := ⟨⟨ml_X12_397, im_X12_costOf, se_X12_costOf⟩, mw_X12_costOf⟩
set_option maxRecDepth 100000 in
theorem ml_X12_388 : Cond.methodLink RX12 388 mX12_owesOn.1 ∈ jtbl := jtbl_of (tb_7 _ (List.mem_of_getElem? (i := 201) rfl)) rfl
theorem vw_X12_388 : jVw RX12 388 mX12_owesOn 2 := ⟨⟨ml_X12_388, im_X12_owesOn, se_X12_owesOn⟩, mw_X12_owesOn⟩
set_option maxRecDepth 100000 in
theorem ml_X12_379 : Cond.methodLink RX12 379 mX12_looks.1 ∈ jtbl := jtbl_of (tb_7 _ (List.mem_of_getElem? (i := 205) rfl)) rfl
theorem vw_X12_379 : jVw RX12 379 mX12_looks 2 := ⟨⟨ml_X12_379, im_X12_looks, se_X12_looks⟩, mw_X12_looks⟩
set_option maxRecDepth 100000 in
theorem ml_X12_372 : Cond.methodLink RX12 372 mX12_isFoggy.1 ∈ jtbl := jtbl_of (tb_7 _ (List.mem_of_getElem? (i := 209) rfl)) rfl
theorem vw_X12_372 : jVw RX12 372 mX12_isFoggy 0 := ⟨⟨ml_X12_372, im_X12_isFoggy, se_X12_isFoggy⟩, mw_X12_isFoggy⟩
set_option maxRecDepth 100000 in
theorem ml_X12_366 : Cond.methodLink RX12 366 mX12_mixed.1 ∈ jtbl := jtbl_of (tb_7 _ (List.mem_of_getElem? (i := 213) rfl)) rfl
theorem vw_X12_366 : jSw RX12 366 mX12_mixed 2 := ⟨⟨ml_X12_366, sm_X12_mixed⟩, mw_X12_mixed⟩
set_option maxRecDepth 100000 in
theorem ml_X12_376 : Cond.methodLink RX12 376 mX12_rateOn.1 ∈ jtbl := jtbl_of (tb_7 _ (List.mem_of_getElem? (i := 217) rfl)) rfl
theorem vw_X12_376 : jVw RX12 376 mX12_rateOn 1 := ⟨⟨ml_X12_376, im_X12_rateOn, se_X12_rateOn⟩, mw_X12_rateOn⟩
set_option maxRecDepth 100000 in
theorem ml_L_48 : Cond.methodLink RL 48 mX12_way.1 ∈ jtbl := jtbl_of (tb_7 _ (List.mem_of_getElem? (i := 221) rfl)) rfl
theorem vw_L_48 : jVw RL 48 mX12_way 2 := ⟨⟨ml_L_48, im_X12_way, se_X12_way⟩, mw_X12_way⟩
set_option maxRecDepth 100000 in
theorem ml_X12_418 : Cond.methodLink RX12 418 mX12_findsWay.1 ∈ jtbl := jtbl_of (tb_7 _ (List.mem_of_getElem? (i := 225) rfl)) rfl
theorem vw_X12_418 : jVw RX12 418 mX12_findsWay 1 := ⟨⟨ml_X12_418, im_X12_findsWay, se_X12_findsWay⟩, mw_X12_findsWay⟩
set_option maxRecDepth 100000 in
theorem ml_X12_403 : Cond.methodLink RX12 403 mX12_fillsCosts.1 ∈ jtbl := jtbl_of (tb_7 _ (List.mem_of_getElem? (i := 229) rfl)) rfl
theorem vw_X12_403 : jVw RX12 403 mX12_fillsCosts 1 := ⟨⟨ml_X12_403, im_X12_fillsCosts, se_X12_fillsCosts⟩, mw_X12_fillsCosts⟩
set_option maxRecDepth 100000 in
theorem ml_X12_406 : Cond.methodLink RX12 406 mX12_fillsLeft.1 ∈ jtbl := jtbl_of (tb_7 _ (List.mem_of_getElem? (i := 233) rfl)) rfl
theorem vw_X12_406 : jVw RX12 406 mX12_fillsLeft 1 := ⟨⟨ml_X12_406, im_X12_fillsLeft, se_X12_fillsLeft⟩, mw_X12_fillsLeft⟩
set_option maxRecDepth 100000 in
theorem ml_X12_400 : Cond.methodLink RX12 400 mX12_through.1 ∈ jtbl := jtbl_of (tb_7 _ (List.mem_of_getElem? (i := 237) rfl)) rfl
theorem vw_X12_400 : jVw RX12 400 mX12_through 2 := ⟨⟨ml_X12_400, im_X12_through, se_X12_through⟩, mw_X12_through⟩
set_option maxRecDepth 100000 in
theorem ml_X12_412 : Cond.methodLink RX12 412 mX12_firstRoad.1 ∈ jtbl := jtbl_of (tb_8 _ (List.mem_of_getElem? (i := 1) rfl)) rfl
theorem vw_X12_412 : jVw RX12 412 mX12_firstRoad 1 := ⟨⟨ml_X12_412, im_X12_firstRoad, se_X12_firstRoad⟩, mw_X12_firstRoad⟩
set_option maxRecDepth 100000 in
theorem ml_X12_436 : Cond.methodLink RX12 436 mX12_paysByWay.1 ∈ jtbl := jtbl_of (tb_8 _ (List.mem_of_getElem? (i := 5) rfl)) rfl
theorem vw_X12_436 : jVw RX12 436 mX12_paysByWay 1 := ⟨⟨ml_X12_436, im_X12_paysByWay, se_X12_paysByWay⟩, mw_X12_paysByWay⟩
set_option maxRecDepth 100000 in
theorem ml_L_52 : Cond.methodLink RL 52 mX12_wayAt.1 ∈ jtbl := jtbl_of (tb_8 _ (List.mem_of_getElem? (i := 9) rfl)) rfl
theorem vw_L_52 : jVw RL 52 mX12_wayAt 2 := ⟨⟨ml_L_52, im_X12_wayAt, se_X12_wayAt⟩, mw_X12_wayAt⟩
set_option maxRecDepth 100000 in
theorem ml_L_57 : Cond.methodLink RL 57 mX12_gate.1 ∈ jtbl := jtbl_of (tb_8 _ (List.mem_of_getElem? (i := 13) rfl)) rfl
theorem vw_L_57 : jVw RL 57 mX12_gate 2 := ⟨⟨ml_L_57, im_X12_gate, se_X12_gate⟩, mw_X12_gate⟩
set_option maxRecDepth 100000 in
theorem ml_X12_439 : Cond.methodLink RX12 439 mX12_keeps.1 ∈ jtbl := jtbl_of (tb_8 _ (List.mem_of_getElem? (i := 17) rfl)) rfl
theorem vw_X12_439 : jVw RX12 439 mX12_keeps 0 := ⟨⟨ml_X12_439, im_X12_keeps, se_X12_keeps⟩, mw_X12_keeps⟩
set_option maxRecDepth 100000 in
theorem ml_L_62 : Cond.methodLink RL 62 mX12_rate.1 ∈ jtbl := jtbl_of (tb_8 _ (List.mem_of_getElem? (i := 21) rfl)) rfl
theorem vw_L_62 : jVw RL 62 mX12_rate 1 := ⟨⟨ml_L_62, im_X12_rate, se_X12_rate⟩, mw_X12_rate⟩
set_option maxRecDepth 100000 in
theorem ml_L_66 : Cond.methodLink RL 66 mX12_mend.1 ∈ jtbl := jtbl_of (tb_8 _ (List.mem_of_getElem? (i := 25) rfl)) rfl
theorem vw_L_66 : jVw RL 66 mX12_mend 1 := ⟨⟨ml_L_66, im_X12_mend, se_X12_mend⟩, mw_X12_mend⟩
set_option maxRecDepth 100000 in
theorem ml_L_70 : Cond.methodLink RL 70 mX12_nights.1 ∈ jtbl := jtbl_of (tb_8 _ (List.mem_of_getElem? (i := 29) rfl)) rfl
theorem vw_L_70 : jVw RL 70 mX12_nights 1 := ⟨⟨ml_L_70, im_X12_nights, se_X12_nights⟩, mw_X12_nights⟩
set_option maxRecDepth 100000 in
theorem ml_X12_442 : Cond.methodLink RX12 442 mX12_goes.1 ∈ jtbl := jtbl_of (tb_8 _ (List.mem_of_getElem? (i := 33) rfl)) rfl
theorem vw_X12_442 : jVw RX12 442 mX12_goes 1 := ⟨⟨ml_X12_442, im_X12_goes, se_X12_goes⟩, mw_X12_goes⟩
set_option maxRecDepth 100000 in
theorem ml_X12_424 : Cond.methodLink RX12 424 mX12_nightGoes.1 ∈ jtbl := jtbl_of (tb_8 _ (List.mem_of_getElem? (i := 37) rfl)) rfl
theorem vw_X12_424 : jVw RX12 424 mX12_nightGoes 0 := ⟨⟨ml_X12_424, im_X12_nightGoes, se_X12_nightGoes⟩, mw_X12_nightGoes⟩
set_option maxRecDepth 100000 in
theorem ml_X12_421 : Cond.methodLink RX12 421 mX12_goesHis.1 ∈ jtbl := jtbl_of (tb_8 _ (List.mem_of_getElem? (i := 41) rfl)) rfl
theorem vw_X12_421 : jVw RX12 421 mX12_goesHis 1 := ⟨⟨ml_X12_421, im_X12_goesHis, se_X12_goesHis⟩, mw_X12_goesHis⟩
set_option maxRecDepth 100000 in
theorem ml_L_75 : Cond.methodLink RL 75 mX12_undo.1 ∈ jtbl := jtbl_of (tb_8 _ (List.mem_of_getElem? (i := 45) rfl)) rfl
theorem vw_L_75 : jVw RL 75 mX12_undo 0 := ⟨⟨ml_L_75, im_X12_undo, se_X12_undo⟩, mw_X12_undo⟩
set_option maxRecDepth 100000 in
theorem ml_L_79 : Cond.methodLink RL 79 mX12_tonight.1 ∈ jtbl := jtbl_of (tb_8 _ (List.mem_of_getElem? (i := 49) rfl)) rfl
theorem vw_L_79 : jVw RL 79 mX12_tonight 1 := ⟨⟨ml_L_79, im_X12_tonight, se_X12_tonight⟩, mw_X12_tonight⟩
set_option maxRecDepth 100000 in
theorem ml_X12_445 : Cond.methodLink RX12 445 mX12_moreIn.1 ∈ jtbl := jtbl_of (tb_8 _ (List.mem_of_getElem? (i := 53) rfl)) rfl
theorem vw_X12_445 : jVw RX12 445 mX12_moreIn 2 := ⟨⟨ml_X12_445, im_X12_moreIn, se_X12_moreIn⟩, mw_X12_moreIn⟩
set_option maxRecDepth 100000 in
theorem ml_L_84 : Cond.methodLink RL 84 mX12_put.1 ∈ jtbl := jtbl_of (tb_8 _ (List.mem_of_getElem? (i := 57) rfl)) rfl
theorem vw_L_84 : jVw RL 84 mX12_put 3 := ⟨⟨ml_L_84, im_X12_put, se_X12_put⟩, mw_X12_put⟩
set_option maxRecDepth 100000 in
theorem ml_X12_457 : Cond.methodLink RX12 457 mX12_fillsPut.1 ∈ jtbl := jtbl_of (tb_8 _ (List.mem_of_getElem? (i := 61) rfl)) rfl
theorem vw_X12_457 : jVw RX12 457 mX12_fillsPut 2 := ⟨⟨ml_X12_457, im_X12_fillsPut, se_X12_fillsPut⟩, mw_X12_fillsPut⟩
set_option maxRecDepth 100000 in
theorem ml_X12_454 : Cond.methodLink RX12 454 mX12_bits.1 ∈ jtbl := jtbl_of (tb_8 _ (List.mem_of_getElem? (i := 65) rfl)) rfl
theorem vw_X12_454 : jSw RX12 454 mX12_bits 1 := ⟨⟨ml_X12_454, sm_X12_bits⟩, mw_X12_bits⟩
set_option maxRecDepth 100000 in
theorem ml_L_88 : Cond.methodLink RL 88 mX12_free.1 ∈ jtbl := jtbl_of (tb_8 _ (List.mem_of_getElem? (i := 68) rfl)) rfl
theorem vw_L_88 : jVw RL 88 mX12_free 0 := ⟨⟨ml_L_88, im_X12_free, se_X12_free⟩, mw_X12_free⟩
set_option maxRecDepth 100000 in
theorem ml_X12_463 : Cond.methodLink RX12 463 mX12_freeNow.1 ∈ jtbl := jtbl_of (tb_8 _ (List.mem_of_getElem? (i := 72) rfl)) rfl
theorem vw_X12_463 : jVw RX12 463 mX12_freeNow 0 := ⟨⟨ml_X12_463, im_X12_freeNow, se_X12_freeNow⟩, mw_X12_freeNow⟩
set_option maxRecDepth 100000 in
theorem ml_X12_460 : Cond.methodLink RX12 460 mX12_isFree.1 ∈ jtbl := jtbl_of (tb_8 _ (List.mem_of_getElem? (i := 76) rfl)) rfl
theorem vw_X12_460 : jVw RX12 460 mX12_isFree 1 := ⟨⟨ml_X12_460, im_X12_isFree, se_X12_isFree⟩, mw_X12_isFree⟩
set_option maxRecDepth 100000 in
theorem ml_L_92 : Cond.methodLink RL 92 mX12_stop.1 ∈ jtbl := jtbl_of (tb_8 _ (List.mem_of_getElem? (i := 80) rfl)) rfl
theorem vw_L_92 : jVw RL 92 mX12_stop 1 := ⟨⟨ml_L_92, im_X12_stop, se_X12_stop⟩, mw_X12_stop⟩
set_option maxRecDepth 100000 in
theorem ml_L_96 : Cond.methodLink RL 96 mX12_saves.1 ∈ jtbl := jtbl_of (tb_8 _ (List.mem_of_getElem? (i := 84) rfl)) rfl
theorem vw_L_96 : jVw RL 96 mX12_saves 1 := ⟨⟨ml_L_96, im_X12_saves, se_X12_saves⟩, mw_X12_saves⟩
set_option maxRecDepth 100000 in
theorem ml_L_100 : Cond.methodLink RL 100 mX12_pays.1 ∈ jtbl := jtbl_of (tb_8 _ (List.mem_of_getElem? (i := 88) rfl)) rfl
theorem vw_L_100 : jVw RL 100 mX12_pays 2 := ⟨⟨ml_L_100, im_X12_pays, se_X12_pays⟩, mw_X12_pays⟩
set_option maxRecDepth 100000 in
theorem ml_X12_466 : Cond.methodLink RX12 466 mX12_isLong.1 ∈ jtbl := jtbl_of (tb_8 _ (List.mem_of_getElem? (i := 92) rfl)) rfl
theorem vw_X12_466 : jSw RX12 466 mX12_isLong 1 := ⟨⟨ml_X12_466, sm_X12_isLong⟩, mw_X12_isLong⟩
set_option maxRecDepth 100000 in
theorem ml_L_104 : Cond.methodLink RL 104 mX12_seen.1 ∈ jtbl := jtbl_of (tb_8 _ (List.mem_of_getElem? (i := 95) rfl)) rfl
theorem vw_L_104 : jVw RL 104 mX12_seen 2 := ⟨⟨ml_L_104, im_X12_seen, se_X12_seen⟩, mw_X12_seen⟩
set_option maxRecDepth 100000 in
theorem ml_L_108 : Cond.methodLink RL 108 mX12_busiest.1 ∈ jtbl := jtbl_of (tb_8 _ (List.mem_of_getElem? (i := 99) rfl)) rfl
theorem vw_L_108 : jVw RL 108 mX12_busiest 2 := ⟨⟨ml_L_108, im_X12_busiest, se_X12_busiest⟩, mw_X12_busiest⟩
set_option maxRecDepth 100000 in
theorem ml_L_112 : Cond.methodLink RL 112 mX12_best.1 ∈ jtbl := jtbl_of (tb_8 _ (List.mem_of_getElem? (i := 103) rfl)) rfl
theorem vw_L_112 : jVw RL 112 mX12_best 2 := ⟨⟨ml_L_112, im_X12_best, se_X12_best⟩, mw_X12_best⟩
set_option maxRecDepth 100000 in
theorem ml_L_116 : Cond.methodLink RL 116 mX12_keepers.1 ∈ jtbl := jtbl_of (tb_8 _ (List.mem_of_getElem? (i := 107) rfl)) rfl
theorem vw_L_116 : jVw RL 116 mX12_keepers 2 := ⟨⟨ml_L_116, im_X12_keepers, se_X12_keepers⟩, mw_X12_keepers⟩
set_option maxRecDepth 100000 in
theorem ml_X12_469 : Cond.methodLink RX12 469 mX12_fillsTaken.1 ∈ jtbl := jtbl_of (tb_8 _ (List.mem_of_getElem? (i := 111) rfl)) rfl
theorem vw_X12_469 : jVw RX12 469 mX12_fillsTaken 1 := ⟨⟨ml_X12_469, im_X12_fillsTaken, se_X12_fillsTaken⟩, mw_X12_fillsTaken⟩
set_option maxRecDepth 100000 in
theorem ml_X12_472 : Cond.methodLink RX12 472 mX12_isResting.1 ∈ jtbl := jtbl_of (tb_8 _ (List.mem_of_getElem? (i := 115) rfl)) rfl
theorem vw_X12_472 : jVw RX12 472 mX12_isResting 1 := ⟨⟨ml_X12_472, im_X12_isResting, se_X12_isResting⟩, mw_X12_isResting⟩
set_option maxRecDepth 100000 in
theorem ml_L_120 : Cond.methodLink RL 120 mX12_breaks.1 ∈ jtbl := jtbl_of (tb_8 _ (List.mem_of_getElem? (i := 119) rfl)) rfl
theorem vw_L_120 : jVw RL 120 mX12_breaks 1 := ⟨⟨ml_L_120, im_X12_breaks, se_X12_breaks⟩, mw_X12_breaks⟩
set_option maxRecDepth 100000 in
theorem ml_L_124 : Cond.methodLink RL 124 mX12_first.1 ∈ jtbl := jtbl_of (tb_8 _ (List.mem_of_getElem? (i := 123) rfl)) rfl
theorem vw_L_124 : jVw RL 124 mX12_first 1 := ⟨⟨ml_L_124, im_X12_first, se_X12_first⟩, mw_X12_first⟩
set_option maxRecDepth 100000 in
theorem ml_X12_475 : Cond.methodLink RX12 475 mX12_downNow.1 ∈ jtbl := jtbl_of (tb_8 _ (List.mem_of_getElem? (i := 127) rfl)) rfl
theorem vw_X12_475 : jVw RX12 475 mX12_downNow 0 := ⟨⟨ml_X12_475, im_X12_downNow, se_X12_downNow⟩, mw_X12_downNow⟩
set_option maxRecDepth 100000 in
theorem ml_L_128 : Cond.methodLink RL 128 mX12_meets.1 ∈ jtbl := jtbl_of (tb_8 _ (List.mem_of_getElem? (i := 131) rfl)) rfl
theorem vw_L_128 : jVw RL 128 mX12_meets 2 := ⟨⟨ml_L_128, im_X12_meets, se_X12_meets⟩, mw_X12_meets⟩
set_option maxRecDepth 100000 in
theorem ml_L_132 : Cond.methodLink RL 132 mX12_cutOff.1 ∈ jtbl := jtbl_of (tb_8 _ (List.mem_of_getElem? (i := 135) rfl)) rfl
theorem vw_L_132 : jVw RL 132 mX12_cutOff 1 := ⟨⟨ml_L_132, im_X12_cutOff, se_X12_cutOff⟩, mw_X12_cutOff⟩
set_option maxRecDepth 100000 in
theorem ml_L_136 : Cond.methodLink RL 136 mX12_year.1 ∈ jtbl := jtbl_of (tb_8 _ (List.mem_of_getElem? (i := 139) rfl)) rfl
theorem vw_L_136 : jVw RL 136 mX12_year 2 := ⟨⟨ml_L_136, im_X12_year, se_X12_year⟩, mw_X12_year⟩
set_option maxRecDepth 100000 in
theorem ml_L_141 : Cond.methodLink RL 141 mX12_sheet.1 ∈ jtbl := jtbl_of (tb_8 _ (List.mem_of_getElem? (i := 143) rfl)) rfl
theorem vw_L_141 : jVw RL 141 mX12_sheet 2 := ⟨⟨ml_L_141, im_X12_sheet, se_X12_sheet⟩, mw_X12_sheet⟩
set_option maxRecDepth 100000 in
theorem ml_X12_478 : Cond.methodLink RX12 478 mX12_common.1 ∈ jtbl := jtbl_of (tb_8 _ (List.mem_of_getElem? (i := 147) rfl)) rfl
theorem vw_X12_478 : jSw RX12 478 mX12_common 2 := ⟨⟨ml_X12_478, sm_X12_common⟩, mw_X12_common⟩
set_option maxRecDepth 100000 in
theorem ml_L_146 : Cond.methodLink RL 146 mX12_tell.1 ∈ jtbl := jtbl_of (tb_8 _ (List.mem_of_getElem? (i := 150) rfl)) rfl
theorem vw_L_146 : jVw RL 146 mX12_tell 3 := ⟨⟨ml_L_146, im_X12_tell, se_X12_tell⟩, mw_X12_tell⟩
set_option maxRecDepth 100000 in
theorem ml_L_150 : Cond.methodLink RL 150 mX12_forget.1 ∈ jtbl := jtbl_of (tb_8 _ (List.mem_of_getElem? (i := 154) rfl)) rfl
theorem vw_L_150 : jVw RL 150 mX12_forget 0 := ⟨⟨ml_L_150, im_X12_forget, se_X12_forget⟩, mw_X12_forget⟩
set_option maxRecDepth 100000 in
theorem ml_L_154 : Cond.methodLink RL 154 mX12_who.1 ∈ jtbl := jtbl_of (tb_8 _ (List.mem_of_getElem? (i := 158) rfl)) rfl
theorem vw_L_154 : jVw RL 154 mX12_who 2 := ⟨⟨ml_L_154, im_X12_who, se_X12_who⟩, mw_X12_who⟩
set_option maxRecDepth 100000 in
theorem ml_X12_481 : Cond.methodLink RX12 481 mX12_lastTold.1 ∈ jtbl := jtbl_of (tb_8 _ (List.mem_of_getElem? (i := 162) rfl)) rfl
theorem vw_X12_481 : jVw RX12 481 mX12_lastTold 1 := ⟨⟨ml_X12_481, im_X12_lastTold, se_X12_lastTold⟩, mw_X12_lastTold⟩
set_option maxRecDepth 100000 in
theorem ml_X12_484 : Cond.methodLink RX12 484 mX12_fillsSeen.1 ∈ jtbl := jtbl_of (tb_8 _ (List.mem_of_getElem? (i := 166) rfl)) rfl
theorem vw_X12_484 : jVw RX12 484 mX12_fillsSeen 2 := ⟨⟨ml_X12_484, im_X12_fillsSeen, se_X12_fillsSeen⟩, mw_X12_fillsSeen⟩
set_option maxRecDepth 100000 in
theorem ml_X12_487 : Cond.methodLink RX12 487 mX12_isSo.1 ∈ jtbl := jtbl_of (tb_8 _ (List.mem_of_getElem? (i := 170) rfl)) rfl
theorem vw_X12_487 : jVw RX12 487 mX12_isSo 1 := ⟨⟨ml_X12_487, im_X12_isSo, se_X12_isSo⟩, mw_X12_isSo⟩
set_option maxRecDepth 100000 in
theorem ml_L_158 : Cond.methodLink RL 158 mX12_watch.1 ∈ jtbl := jtbl_of (tb_8 _ (List.mem_of_getElem? (i := 174) rfl)) rfl
theorem vw_L_158 : jVw RL 158 mX12_watch 2 := ⟨⟨ml_L_158, im_X12_watch, se_X12_watch⟩, mw_X12_watch⟩
set_option maxRecDepth 100000 in
theorem ml_L_162 : Cond.methodLink RL 162 mX12_hold.1 ∈ jtbl := jtbl_of (tb_8 _ (List.mem_of_getElem? (i := 178) rfl)) rfl
theorem vw_L_162 : jVw RL 162 mX12_hold 1 := ⟨⟨ml_L_162, im_X12_hold, se_X12_hold⟩, mw_X12_hold⟩
set_option maxRecDepth 100000 in
theorem ml_L_166 : Cond.methodLink RL 166 mX12_restore.1 ∈ jtbl := jtbl_of (tb_8 _ (List.mem_of_getElem? (i := 182) rfl)) rfl
theorem vw_L_166 : jVw RL 166 mX12_restore 1 := ⟨⟨ml_L_166, im_X12_restore, se_X12_restore⟩, mw_X12_restore⟩
set_option maxRecDepth 100000 in
theorem ml_L_170 : Cond.methodLink RL 170 mX12_count.1 ∈ jtbl := jtbl_of (tb_8 _ (List.mem_of_getElem? (i := 186) rfl)) rfl
theorem vw_L_170 : jVw RL 170 mX12_count 1 := ⟨⟨ml_L_170, im_X12_count, se_X12_count⟩, mw_X12_count⟩
set_option maxRecDepth 100000 in
theorem vw_X11_9 : jNwd RX11 9 mX6_init 0 := ⟨⟨"GhostPike", List.mem_filter.mpr ⟨(tb_1 _ (List.mem_of_getElem? (i := 32) rfl)), rfl⟩⟩, ⟨im_X6_init, rfl⟩, mw_X6_init⟩
set_option maxRecDepth 100000 in
theorem vw_X11_18 : jNwd RX11 18 mX4_init 0 := ⟨⟨"GhostPike", List.mem_filter.mpr ⟨(tb_1 _ (List.mem_of_getElem? (i := 49) rfl)), rfl⟩⟩, ⟨im_X4_init, rfl⟩, mw_X4_init⟩
set_option maxRecDepth 100000 in
theorem vw_X10_29 : jNwd RX10 29 mX9_init 0 := ⟨⟨"GhostPike", List.mem_filter.mpr ⟨(tb_1 _ (List.mem_of_getElem? (i := 180) rfl)), rfl⟩⟩, ⟨im_X9_init, rfl⟩, mw_X9_init⟩
set_option maxRecDepth 100000 in
theorem vw_X11_32 : jNwd RX11 32 mX5_init 0 := ⟨⟨"GhostPike", List.mem_filter.mpr ⟨(tb_2 _ (List.mem_of_getElem? (i := 27) rfl)), rfl⟩⟩, ⟨im_X5_init, rfl⟩, mw_X5_init⟩
set_option maxRecDepth 100000 in
theorem vw_X11_39 : jNwd RX11 39 mX3_init 0 := ⟨⟨"GhostPike", List.mem_filter.mpr ⟨(tb_2 _ (List.mem_of_getElem? (i := 42) rfl)), rfl⟩⟩, ⟨im_X3_init, rfl⟩, mw_X3_init⟩
set_option maxRecDepth 100000 in
theorem vw_X1_17 : jNwd RX1 17 mX5_init 0 := ⟨⟨"GhostPike", List.mem_filter.mpr ⟨(tb_2 _ (List.mem_of_getElem? (i := 71) rfl)), rfl⟩⟩, ⟨im_X5_init, rfl⟩, mw_X5_init⟩
set_option maxRecDepth 100000 in
theorem vw_X0_11 : jNwd RX0 11 mX5_init 0 := ⟨⟨"GhostPike", List.mem_filter.mpr ⟨(tb_2 _ (List.mem_of_getElem? (i := 109) rfl)), rfl⟩⟩, ⟨im_X5_init, rfl⟩, mw_X5_init⟩
set_option maxRecDepth 100000 in
theorem vw_X11_64 : jNwd RX11 64 mX8_init 0 := ⟨⟨"GhostPike", List.mem_filter.mpr ⟨(tb_2 _ (List.mem_of_getElem? (i := 144) rfl)), rfl⟩⟩, ⟨im_X8_init, rfl⟩, mw_X8_init⟩
