/-! every method's words: the tables' good words -/
def wsG : List Cond := lw_tbl.filter goodWord
theorem inG {w : Cond} (h : w ∈ lw_tbl) (hg : goodWord w = true) : w ∈ wsG := List.mem_filter.mpr ⟨h, hg⟩
theorem inG_tbl : ∀ w ∈ wsG, w ∈ lw_tbl := fun _ h => (List.mem_filter.mp h).1
theorem inT1 {w : Cond} (h : w ∈ tables_1_1) : w ∈ tables_1 := List.mem_append_left _ h
theorem inB1 {w : Cond} (h : w ∈ tables_1_1) : w ∈ lw_tbl := List.mem_append_right _ (inT1 h)
theorem inT2 {w : Cond} (h : w ∈ tables_1_2) : w ∈ tables_1 := List.mem_append_right _ (List.mem_append_left _ h)
theorem inB2 {w : Cond} (h : w ∈ tables_1_2) : w ∈ lw_tbl := List.mem_append_right _ (inT2 h)
theorem inT3 {w : Cond} (h : w ∈ tables_1_3) : w ∈ tables_1 := List.mem_append_right _ (List.mem_append_right _ (List.mem_append_left _ h))
theorem inB3 {w : Cond} (h : w ∈ tables_1_3) : w ∈ lw_tbl := List.mem_append_right _ (inT3 h)
theorem inT4 {w : Cond} (h : w ∈ tables_1_4) : w ∈ tables_1 := List.mem_append_right _ (List.mem_append_right _ (List.mem_append_right _ (h)))
theorem inB4 {w : Cond} (h : w ∈ tables_1_4) : w ∈ lw_tbl := List.mem_append_right _ (inT4 h)
theorem inS1 {q : MethodName × Nat} (h : q ∈ lw_privs_1) : Cond.selects q.1.cls q.1 q.1 ∈ lw_tbl := List.mem_append_left _ (List.mem_map.mpr ⟨q, List.mem_append_left _ h, rfl⟩)
theorem inS2 {q : MethodName × Nat} (h : q ∈ lw_privs_2) : Cond.selects q.1.cls q.1 q.1 ∈ lw_tbl := List.mem_append_left _ (List.mem_map.mpr ⟨q, List.mem_append_right _ (List.mem_append_left _ h), rfl⟩)
theorem inS3 {q : MethodName × Nat} (h : q ∈ lw_privs_3) : Cond.selects q.1.cls q.1 q.1 ∈ lw_tbl := List.mem_append_left _ (List.mem_map.mpr ⟨q, List.mem_append_right _ (List.mem_append_right _ (List.mem_append_left _ h)), rfl⟩)
theorem inS4 {q : MethodName × Nat} (h : q ∈ lw_privs_4) : Cond.selects q.1.cls q.1 q.1 ∈ lw_tbl := List.mem_append_left _ (List.mem_map.mpr ⟨q, List.mem_append_right _ (List.mem_append_right _ (List.mem_append_right _ (List.mem_append_left _ h))), rfl⟩)
theorem inS5 {q : MethodName × Nat} (h : q ∈ lw_privs_5) : Cond.selects q.1.cls q.1 q.1 ∈ lw_tbl := List.mem_append_left _ (List.mem_map.mpr ⟨q, List.mem_append_right _ (List.mem_append_right _ (List.mem_append_right _ (List.mem_append_right _ (List.mem_append_left _ h)))), rfl⟩)
theorem inS6 {q : MethodName × Nat} (h : q ∈ lw_privs_6) : Cond.selects q.1.cls q.1 q.1 ∈ lw_tbl := List.mem_append_left _ (List.mem_map.mpr ⟨q, List.mem_append_right _ (List.mem_append_right _ (List.mem_append_right _ (List.mem_append_right _ (List.mem_append_right _ (h))))), rfl⟩)
theorem fl_X7_11 : Cond.fieldLink RX7 11 "JarCouncil$Sheets" "lanes" "[I" ∈ wsG := inG (inB1 (List.mem_of_getElem? (i := 27) rfl)) rfl
theorem fl_X7_15 : Cond.fieldLink RX7 15 "JarCouncil$Sheets" "sizes" "[I" ∈ wsG := inG (inB1 (List.mem_of_getElem? (i := 28) rfl)) rfl
theorem fl_X7_18 : Cond.fieldLink RX7 18 "JarCouncil$Sheets" "cells" "[I" ∈ wsG := inG (inB1 (List.mem_of_getElem? (i := 29) rfl)) rfl
theorem fl_X4_9 : Cond.fieldLink RX4 9 "JarCouncil$People" "count" "I" ∈ wsG := inG (inB1 (List.mem_of_getElem? (i := 45) rfl)) rfl
theorem fl_X4_15 : Cond.fieldLink RX4 15 "JarCouncil$People" "jar" "I" ∈ wsG := inG (inB1 (List.mem_of_getElem? (i := 48) rfl)) rfl
theorem fl_X4_18 : Cond.fieldLink RX4 18 "JarCouncil$People" "leak" "I" ∈ wsG := inG (inB1 (List.mem_of_getElem? (i := 52) rfl)) rfl
theorem fl_X4_21 : Cond.fieldLink RX4 21 "JarCouncil$People" "kinds" "[I" ∈ wsG := inG (inB1 (List.mem_of_getElem? (i := 54) rfl)) rfl
theorem fl_X4_25 : Cond.fieldLink RX4 25 "JarCouncil$People" "words" "[I" ∈ wsG := inG (inB1 (List.mem_of_getElem? (i := 55) rfl)) rfl
theorem fl_X4_28 : Cond.fieldLink RX4 28 "JarCouncil$People" "lengths" "[I" ∈ wsG := inG (inB1 (List.mem_of_getElem? (i := 56) rfl)) rfl
theorem fl_X4_31 : Cond.fieldLink RX4 31 "JarCouncil$People" "owns" "[I" ∈ wsG := inG (inB1 (List.mem_of_getElem? (i := 57) rfl)) rfl
theorem fl_X4_34 : Cond.fieldLink RX4 34 "JarCouncil$People" "others" "[I" ∈ wsG := inG (inB1 (List.mem_of_getElem? (i := 58) rfl)) rfl
theorem fl_X4_37 : Cond.fieldLink RX4 37 "JarCouncil$People" "gains" "[J" ∈ wsG := inG (inB1 (List.mem_of_getElem? (i := 59) rfl)) rfl
theorem fl_X6_24 : Cond.fieldLink RX6 24 "JarCouncil$Reader" "cells" "[I" ∈ wsG := inG (inB1 (List.mem_of_getElem? (i := 86) rfl)) rfl
theorem fl_X6_28 : Cond.fieldLink RX6 28 "JarCouncil$Reader" "draft" "LJarCouncil$People;" ∈ wsG := inG (inB1 (List.mem_of_getElem? (i := 87) rfl)) rfl
theorem fl_X6_9 : Cond.fieldLink RX6 9 "JarCouncil$Reader" "from" "I" ∈ wsG := inG (inB1 (List.mem_of_getElem? (i := 89) rfl)) rfl
theorem fl_X6_15 : Cond.fieldLink RX6 15 "JarCouncil$Reader" "size" "I" ∈ wsG := inG (inB1 (List.mem_of_getElem? (i := 90) rfl)) rfl
theorem fl_X6_18 : Cond.fieldLink RX6 18 "JarCouncil$Reader" "next" "I" ∈ wsG := inG (inB1 (List.mem_of_getElem? (i := 91) rfl)) rfl
theorem fl_X6_21 : Cond.fieldLink RX6 21 "JarCouncil$Reader" "fault" "I" ∈ wsG := inG (inB1 (List.mem_of_getElem? (i := 92) rfl)) rfl
theorem fl_X0_22 : Cond.fieldLink RX0 22 "JarCouncil$Course" "people" "LJarCouncil$People;" ∈ wsG := inG (inB1 (List.mem_of_getElem? (i := 112) rfl)) rfl
theorem fl_X0_9 : Cond.fieldLink RX0 9 "JarCouncil$Course" "order" "[I" ∈ wsG := inG (inB1 (List.mem_of_getElem? (i := 115) rfl)) rfl
theorem fl_X0_15 : Cond.fieldLink RX0 15 "JarCouncil$Course" "law" "I" ∈ wsG := inG (inB1 (List.mem_of_getElem? (i := 116) rfl)) rfl
theorem fl_X0_19 : Cond.fieldLink RX0 19 "JarCouncil$Course" "leak" "I" ∈ wsG := inG (inB1 (List.mem_of_getElem? (i := 118) rfl)) rfl
theorem fl_X5_35 : Cond.fieldLink RX5 35 "JarCouncil$Plan" "course" "LJarCouncil$Course;" ∈ wsG := inG (inB1 (List.mem_of_getElem? (i := 137) rfl)) rfl
theorem fl_X5_45 : Cond.fieldLink RX5 45 "JarCouncil$Plan" "people" "LJarCouncil$People;" ∈ wsG := inG (inB1 (List.mem_of_getElem? (i := 138) rfl)) rfl
theorem fl_X5_11 : Cond.fieldLink RX5 11 "JarCouncil$Plan" "words" "[I" ∈ wsG := inG (inB1 (List.mem_of_getElem? (i := 139) rfl)) rfl
theorem fl_X5_15 : Cond.fieldLink RX5 15 "JarCouncil$Plan" "worths" "[J" ∈ wsG := inG (inB1 (List.mem_of_getElem? (i := 140) rfl)) rfl
theorem fl_X5_19 : Cond.fieldLink RX5 19 "JarCouncil$Plan" "open" "[I" ∈ wsG := inG (inB1 (List.mem_of_getElem? (i := 141) rfl)) rfl
theorem fl_X5_22 : Cond.fieldLink RX5 22 "JarCouncil$Plan" "opened" "I" ∈ wsG := inG (inB1 (List.mem_of_getElem? (i := 142) rfl)) rfl
theorem fl_X5_26 : Cond.fieldLink RX5 26 "JarCouncil$Plan" "reached" "[I" ∈ wsG := inG (inB1 (List.mem_of_getElem? (i := 143) rfl)) rfl
theorem fl_X5_29 : Cond.fieldLink RX5 29 "JarCouncil$Plan" "making" "I" ∈ wsG := inG (inB1 (List.mem_of_getElem? (i := 144) rfl)) rfl
theorem fl_X5_32 : Cond.fieldLink RX5 32 "JarCouncil$Plan" "turns" "I" ∈ wsG := inG (inB1 (List.mem_of_getElem? (i := 145) rfl)) rfl
theorem fl_X1_35 : Cond.fieldLink RX1 35 "JarCouncil$Day" "plan" "LJarCouncil$Plan;" ∈ wsG := inG (inB1 (List.mem_of_getElem? (i := 172) rfl)) rfl
theorem fl_X1_45 : Cond.fieldLink RX1 45 "JarCouncil$Day" "course" "LJarCouncil$Course;" ∈ wsG := inG (inB1 (List.mem_of_getElem? (i := 174) rfl)) rfl
theorem fl_X1_52 : Cond.fieldLink RX1 52 "JarCouncil$Day" "people" "LJarCouncil$People;" ∈ wsG := inG (inB1 (List.mem_of_getElem? (i := 176) rfl)) rfl
theorem fl_X1_9 : Cond.fieldLink RX1 9 "JarCouncil$Day" "said" "[I" ∈ wsG := inG (inB1 (List.mem_of_getElem? (i := 177) rfl)) rfl
theorem fl_X1_15 : Cond.fieldLink RX1 15 "JarCouncil$Day" "waters" "[I" ∈ wsG := inG (inB1 (List.mem_of_getElem? (i := 178) rfl)) rfl
theorem fl_X1_18 : Cond.fieldLink RX1 18 "JarCouncil$Day" "turn" "I" ∈ wsG := inG (inB1 (List.mem_of_getElem? (i := 179) rfl)) rfl
theorem fl_X1_22 : Cond.fieldLink RX1 22 "JarCouncil$Day" "water" "I" ∈ wsG := inG (inB1 (List.mem_of_getElem? (i := 180) rfl)) rfl
theorem fl_X1_25 : Cond.fieldLink RX1 25 "JarCouncil$Day" "heard" "I" ∈ wsG := inG (inB1 (List.mem_of_getElem? (i := 182) rfl)) rfl
theorem fl_X1_28 : Cond.fieldLink RX1 28 "JarCouncil$Day" "cut" "I" ∈ wsG := inG (inB1 (List.mem_of_getElem? (i := 183) rfl)) rfl
theorem fl_X1_31 : Cond.fieldLink RX1 31 "JarCouncil$Day" "worths" "J" ∈ wsG := inG (inB1 (List.mem_of_getElem? (i := 184) rfl)) rfl
theorem fl_X2_9 : Cond.fieldLink RX2 9 "JarCouncil$Log" "said" "[I" ∈ wsG := inG (inB1 (List.mem_of_getElem? (i := 213) rfl)) rfl
theorem fl_X2_15 : Cond.fieldLink RX2 15 "JarCouncil$Log" "ends" "[I" ∈ wsG := inG (inB1 (List.mem_of_getElem? (i := 214) rfl)) rfl
theorem fl_X2_18 : Cond.fieldLink RX2 18 "JarCouncil$Log" "fitting" "[I" ∈ wsG := inG (inB1 (List.mem_of_getElem? (i := 215) rfl)) rfl
theorem fl_X2_21 : Cond.fieldLink RX2 21 "JarCouncil$Log" "count" "I" ∈ wsG := inG (inB1 (List.mem_of_getElem? (i := 216) rfl)) rfl
theorem fl_X3_22 : Cond.fieldLink RX3 22 "JarCouncil$Motions" "now" "LJarCouncil$Course;" ∈ wsG := inG (inB1 (List.mem_of_getElem? (i := 233) rfl)) rfl
theorem fl_X3_42 : Cond.fieldLink RX3 42 "JarCouncil$Motions" "trial" "LJarCouncil$Course;" ∈ wsG := inG (inB1 (List.mem_of_getElem? (i := 234) rfl)) rfl
theorem fl_X3_36 : Cond.fieldLink RX3 36 "JarCouncil$Motions" "trialPlan" "LJarCouncil$Plan;" ∈ wsG := inG (inB1 (List.mem_of_getElem? (i := 235) rfl)) rfl
theorem fl_X3_26 : Cond.fieldLink RX3 26 "JarCouncil$Motions" "trialDay" "LJarCouncil$Day;" ∈ wsG := inG (inB1 (List.mem_of_getElem? (i := 236) rfl)) rfl
theorem fl_X3_9 : Cond.fieldLink RX3 9 "JarCouncil$Motions" "fewest" "[I" ∈ wsG := inG (inB1 (List.mem_of_getElem? (i := 237) rfl)) rfl
theorem fl_X3_15 : Cond.fieldLink RX3 15 "JarCouncil$Motions" "rows" "[I" ∈ wsG := inG (inB1 (List.mem_of_getElem? (i := 238) rfl)) rfl
theorem fl_X3_18 : Cond.fieldLink RX3 18 "JarCouncil$Motions" "sought" "Z" ∈ wsG := inG (inB1 (List.mem_of_getElem? (i := 239) rfl)) rfl
theorem fl_X8_25 : Cond.fieldLink RX8 25 "JarCouncil" "sheets" "LJarCouncil$Sheets;" ∈ wsG := inG (inB2 (List.mem_of_getElem? (i := 15) rfl)) rfl
theorem fl_X8_32 : Cond.fieldLink RX8 32 "JarCouncil" "people" "LJarCouncil$People;" ∈ wsG := inG (inB2 (List.mem_of_getElem? (i := 16) rfl)) rfl
theorem fl_X8_45 : Cond.fieldLink RX8 45 "JarCouncil" "reader" "LJarCouncil$Reader;" ∈ wsG := inG (inB2 (List.mem_of_getElem? (i := 17) rfl)) rfl
theorem fl_X8_54 : Cond.fieldLink RX8 54 "JarCouncil" "course" "LJarCouncil$Course;" ∈ wsG := inG (inB2 (List.mem_of_getElem? (i := 18) rfl)) rfl
theorem fl_X8_63 : Cond.fieldLink RX8 63 "JarCouncil" "plan" "LJarCouncil$Plan;" ∈ wsG := inG (inB2 (List.mem_of_getElem? (i := 19) rfl)) rfl
theorem fl_X8_72 : Cond.fieldLink RX8 72 "JarCouncil" "today" "LJarCouncil$Day;" ∈ wsG := inG (inB2 (List.mem_of_getElem? (i := 20) rfl)) rfl
theorem fl_X8_76 : Cond.fieldLink RX8 76 "JarCouncil" "trial" "LJarCouncil$Course;" ∈ wsG := inG (inB2 (List.mem_of_getElem? (i := 21) rfl)) rfl
theorem fl_X8_79 : Cond.fieldLink RX8 79 "JarCouncil" "trialPlan" "LJarCouncil$Plan;" ∈ wsG := inG (inB2 (List.mem_of_getElem? (i := 22) rfl)) rfl
theorem fl_X8_82 : Cond.fieldLink RX8 82 "JarCouncil" "trialDay" "LJarCouncil$Day;" ∈ wsG := inG (inB2 (List.mem_of_getElem? (i := 23) rfl)) rfl
theorem fl_X8_88 : Cond.fieldLink RX8 88 "JarCouncil" "log" "LJarCouncil$Log;" ∈ wsG := inG (inB2 (List.mem_of_getElem? (i := 24) rfl)) rfl
theorem fl_X8_97 : Cond.fieldLink RX8 97 "JarCouncil" "motions" "LJarCouncil$Motions;" ∈ wsG := inG (inB2 (List.mem_of_getElem? (i := 25) rfl)) rfl
theorem fl_X8_11 : Cond.fieldLink RX8 11 "JarCouncil" "planned" "Z" ∈ wsG := inG (inB2 (List.mem_of_getElem? (i := 26) rfl)) rfl
theorem fl_X8_15 : Cond.fieldLink RX8 15 "JarCouncil" "traced" "I" ∈ wsG := inG (inB2 (List.mem_of_getElem? (i := 27) rfl)) rfl
theorem fl_X8_19 : Cond.fieldLink RX8 19 "JarCouncil" "faulted" "I" ∈ wsG := inG (inB2 (List.mem_of_getElem? (i := 28) rfl)) rfl
theorem fn_X8_38 : Cond.fieldLinkNest RX8 38 "JarCouncil$Sheets" "cells" "[I" "JarCouncil" ∈ tables_1 := inT1 (List.mem_of_getElem? (i := 30) rfl)
theorem fn_X0_40 : Cond.fieldLinkNest RX0 40 "JarCouncil$People" "count" "I" "JarCouncil" ∈ tables_1 := inT1 (List.mem_of_getElem? (i := 46) rfl)
theorem fn_X8_132 : Cond.fieldLinkNest RX8 132 "JarCouncil$People" "count" "I" "JarCouncil" ∈ tables_1 := inT1 (List.mem_of_getElem? (i := 47) rfl)
theorem fn_X5_49 : Cond.fieldLinkNest RX5 49 "JarCouncil$People" "jar" "I" "JarCouncil" ∈ tables_1 := inT1 (List.mem_of_getElem? (i := 49) rfl)
theorem fn_X0_51 : Cond.fieldLinkNest RX0 51 "JarCouncil$People" "jar" "I" "JarCouncil" ∈ tables_1 := inT1 (List.mem_of_getElem? (i := 50) rfl)
theorem fn_X8_213 : Cond.fieldLinkNest RX8 213 "JarCouncil$People" "jar" "I" "JarCouncil" ∈ tables_1 := inT1 (List.mem_of_getElem? (i := 51) rfl)
theorem fn_X0_26 : Cond.fieldLinkNest RX0 26 "JarCouncil$People" "leak" "I" "JarCouncil" ∈ tables_1 := inT1 (List.mem_of_getElem? (i := 53) rfl)
theorem fn_X8_120 : Cond.fieldLinkNest RX8 120 "JarCouncil$Reader" "draft" "LJarCouncil$People;" "JarCouncil" ∈ tables_1 := inT1 (List.mem_of_getElem? (i := 88) rfl)
theorem fn_X5_39 : Cond.fieldLinkNest RX5 39 "JarCouncil$Course" "people" "LJarCouncil$People;" "JarCouncil" ∈ tables_1 := inT1 (List.mem_of_getElem? (i := 113) rfl)
theorem fn_X1_46 : Cond.fieldLinkNest RX1 46 "JarCouncil$Course" "people" "LJarCouncil$People;" "JarCouncil" ∈ tables_1 := inT1 (List.mem_of_getElem? (i := 114) rfl)
theorem fn_X8_160 : Cond.fieldLinkNest RX8 160 "JarCouncil$Course" "law" "I" "JarCouncil" ∈ tables_1 := inT1 (List.mem_of_getElem? (i := 117) rfl)
theorem fn_X2_29 : Cond.fieldLinkNest RX2 29 "JarCouncil$Course" "leak" "I" "JarCouncil" ∈ tables_1 := inT1 (List.mem_of_getElem? (i := 119) rfl)
theorem fn_X8_346 : Cond.fieldLinkNest RX8 346 "JarCouncil$Course" "leak" "I" "JarCouncil" ∈ tables_1 := inT1 (List.mem_of_getElem? (i := 120) rfl)
theorem fn_X1_39 : Cond.fieldLinkNest RX1 39 "JarCouncil$Plan" "course" "LJarCouncil$Course;" "JarCouncil" ∈ tables_1 := inT1 (List.mem_of_getElem? (i := 136) rfl)
theorem fn_X3_30 : Cond.fieldLinkNest RX3 30 "JarCouncil$Day" "plan" "LJarCouncil$Plan;" "JarCouncil" ∈ tables_1 := inT1 (List.mem_of_getElem? (i := 171) rfl)
theorem fn_X3_39 : Cond.fieldLinkNest RX3 39 "JarCouncil$Day" "course" "LJarCouncil$Course;" "JarCouncil" ∈ tables_1 := inT1 (List.mem_of_getElem? (i := 173) rfl)
theorem fn_X2_50 : Cond.fieldLinkNest RX2 50 "JarCouncil$Day" "course" "LJarCouncil$Course;" "JarCouncil" ∈ tables_1 := inT1 (List.mem_of_getElem? (i := 175) rfl)
theorem fn_X2_38 : Cond.fieldLinkNest RX2 38 "JarCouncil$Day" "water" "I" "JarCouncil" ∈ tables_1 := inT1 (List.mem_of_getElem? (i := 181) rfl)
theorem fn_X8_185 : Cond.fieldLinkNest RX8 185 "JarCouncil$Day" "worths" "J" "JarCouncil" ∈ tables_1 := inT1 (List.mem_of_getElem? (i := 185) rfl)
theorem fn_X8_274 : Cond.fieldLinkNest RX8 274 "JarCouncil$Log" "count" "I" "JarCouncil" ∈ tables_1 := inT1 (List.mem_of_getElem? (i := 217) rfl)
theorem ml_L_54 : Cond.methodLink RL 54 yX8_init ∈ wsG := inG (inB1 (List.mem_of_getElem? (i := 12) rfl)) rfl
theorem ml_X8_5 : Cond.methodLink RX8 5 objectInit ∈ wsG := inG (inB1 (List.mem_of_getElem? (i := 15) rfl)) rfl
theorem ml_X7_3 : Cond.methodLink RX7 3 objectInit ∈ wsG := inG (inB1 (List.mem_of_getElem? (i := 23) rfl)) rfl
theorem ml_X4_3 : Cond.methodLink RX4 3 objectInit ∈ wsG := inG (inB1 (List.mem_of_getElem? (i := 44) rfl)) rfl
theorem ml_X6_3 : Cond.methodLink RX6 3 objectInit ∈ wsG := inG (inB1 (List.mem_of_getElem? (i := 85) rfl)) rfl
theorem ml_X0_3 : Cond.methodLink RX0 3 objectInit ∈ wsG := inG (inB1 (List.mem_of_getElem? (i := 111) rfl)) rfl
theorem ml_X5_5 : Cond.methodLink RX5 5 objectInit ∈ wsG := inG (inB1 (List.mem_of_getElem? (i := 135) rfl)) rfl
theorem ml_X1_3 : Cond.methodLink RX1 3 objectInit ∈ wsG := inG (inB1 (List.mem_of_getElem? (i := 170) rfl)) rfl
theorem ml_X2_3 : Cond.methodLink RX2 3 objectInit ∈ wsG := inG (inB1 (List.mem_of_getElem? (i := 212) rfl)) rfl
theorem ml_X3_3 : Cond.methodLink RX3 3 objectInit ∈ wsG := inG (inB1 (List.mem_of_getElem? (i := 232) rfl)) rfl
theorem ml_L_65 : Cond.methodLink RL 65 yX8_law ∈ wsG := inG (inB2 (List.mem_of_getElem? (i := 58) rfl)) rfl
theorem ml_X8_129 : Cond.methodLink RX8 129 yX8_forgetWhatWas ∈ wsG := inG (inB2 (List.mem_of_getElem? (i := 62) rfl)) rfl
theorem ml_L_62 : Cond.methodLink RL 62 yX8_swap ∈ wsG := inG (inB2 (List.mem_of_getElem? (i := 74) rfl)) rfl
theorem ml_X0_36 : Cond.methodLink RX0 36 yX0_whoAt ∈ wsG := inG (inB2 (List.mem_of_getElem? (i := 86) rfl)) rfl
theorem ml_L_127 : Cond.methodLink RL 127 yX8_says ∈ wsG := inG (inB2 (List.mem_of_getElem? (i := 98) rfl)) rfl
theorem ml_X0_43 : Cond.methodLink RX0 43 yX0_turns ∈ wsG := inG (inB2 (List.mem_of_getElem? (i := 106) rfl)) rfl
theorem ml_X8_216 : Cond.methodLink RX8 216 yX8_planAhead ∈ wsG := inG (inB2 (List.mem_of_getElem? (i := 110) rfl)) rfl
theorem ml_X5_46 : Cond.methodLink RX5 46 yX5_beginMaking ∈ wsG := inG (inB2 (List.mem_of_getElem? (i := 118) rfl)) rfl
theorem ml_X5_54 : Cond.methodLink RX5 54 yX5_openState ∈ wsG := inG (inB2 (List.mem_of_getElem? (i := 123) rfl)) rfl
theorem ml_X5_92 : Cond.methodLink RX5 92 yX5_stateOf ∈ wsG := inG (inB2 (List.mem_of_getElem? (i := 127) rfl)) rfl
theorem ml_X5_58 : Cond.methodLink RX5 58 yX5_settleAll ∈ wsG := inG (inB2 (List.mem_of_getElem? (i := 132) rfl)) rfl
theorem ml_X5_99 : Cond.methodLink RX5 99 yX5_settle ∈ wsG := inG (inB2 (List.mem_of_getElem? (i := 136) rfl)) rfl
theorem ml_X0_54 : Cond.methodLink RX0 54 yX0_firstWater ∈ wsG := inG (inB2 (List.mem_of_getElem? (i := 157) rfl)) rfl
theorem ml_X5_106 : Cond.methodLink RX5 106 yX5_worthsFrom ∈ wsG := inG (inB2 (List.mem_of_getElem? (i := 161) rfl)) rfl
theorem ml_X4_49 : Cond.methodLink RX4 49 yX4_placeOfWord ∈ wsG := inG (inB2 (List.mem_of_getElem? (i := 172) rfl)) rfl
theorem ml_X8_101 : Cond.methodLink RX8 101 yX8_worthIn ∈ wsG := inG (inB2 (List.mem_of_getElem? (i := 183) rfl)) rfl
theorem ml_X5_121 : Cond.methodLink RX5 121 yX5_isRather ∈ wsG := inG (inB2 (List.mem_of_getElem? (i := 187) rfl)) rfl
theorem ml_X1_78 : Cond.methodLink RX1 78 yX1_goForced ∈ wsG := inG (inB2 (List.mem_of_getElem? (i := 197) rfl)) rfl
theorem ml_X1_82 : Cond.methodLink RX1 82 yX1_begin ∈ wsG := inG (inB2 (List.mem_of_getElem? (i := 201) rfl)) rfl
theorem ml_X1_91 : Cond.methodLink RX1 91 yX1_speak ∈ wsG := inG (inB2 (List.mem_of_getElem? (i := 211) rfl)) rfl
theorem ml_L_81 : Cond.methodLink RL 81 yX8_together ∈ wsG := inG (inB2 (List.mem_of_getElem? (i := 225) rfl)) rfl
theorem ml_X5_62 : Cond.methodLink RX5 62 yX5_openWhatIsReached ∈ wsG := inG (inB2 (List.mem_of_getElem? (i := 237) rfl)) rfl
theorem ml_X5_75 : Cond.methodLink RX5 75 yX5_openBehind ∈ wsG := inG (inB3 (List.mem_of_getElem? (i := 2) rfl)) rfl
theorem ml_X8_237 : Cond.methodLink RX8 237 yX8_worthToAll ∈ wsG := inG (inB3 (List.mem_of_getElem? (i := 6) rfl)) rfl
theorem ml_L_90 : Cond.methodLink RL 90 yX8_owed ∈ wsG := inG (inB3 (List.mem_of_getElem? (i := 7) rfl)) rfl
theorem ml_X8_244 : Cond.methodLink RX8 244 yX8_areTwo ∈ wsG := inG (inB3 (List.mem_of_getElem? (i := 11) rfl)) rfl
theorem ml_X4_45 : Cond.methodLink RX4 45 yX4_wordsOf ∈ wsG := inG (inB3 (List.mem_of_getElem? (i := 25) rfl)) rfl
theorem ml_X4_64 : Cond.methodLink RX4 64 yX4_lengthOf ∈ wsG := inG (inB3 (List.mem_of_getElem? (i := 26) rfl)) rfl
theorem ml_L_94 : Cond.methodLink RL 94 yX8_bargain ∈ wsG := inG (inB3 (List.mem_of_getElem? (i := 27) rfl)) rfl
theorem ml_L_124 : Cond.methodLink RL 124 yX8_motion ∈ wsG := inG (inB3 (List.mem_of_getElem? (i := 31) rfl)) rfl
theorem ml_X4_89 : Cond.methodLink RX4 89 yX4_has ∈ wsG := inG (inB3 (List.mem_of_getElem? (i := 39) rfl)) rfl
theorem ml_X3_70 : Cond.methodLink RX3 70 yX3_packedOrder ∈ wsG := inG (inB3 (List.mem_of_getElem? (i := 59) rfl)) rfl
theorem ml_X3_74 : Cond.methodLink RX3 74 yX3_noteWords ∈ wsG := inG (inB3 (List.mem_of_getElem? (i := 64) rfl)) rfl
theorem ml_X0_57 : Cond.methodLink RX0 57 yX0_exchange ∈ wsG := inG (inB3 (List.mem_of_getElem? (i := 77) rfl)) rfl
theorem ml_X3_105 : Cond.methodLink RX3 105 yX3_changesFor ∈ wsG := inG (inB3 (List.mem_of_getElem? (i := 82) rfl)) rfl
theorem ml_L_104 : Cond.methodLink RL 104 yX8_dry ∈ wsG := inG (inB3 (List.mem_of_getElem? (i := 91) rfl)) rfl
theorem ml_X8_268 : Cond.methodLink RX8 268 yX8_canSilence ∈ wsG := inG (inB3 (List.mem_of_getElem? (i := 95) rfl)) rfl
theorem ml_X1_99 : Cond.methodLink RX1 99 yX1_saidIn ∈ wsG := inG (inB3 (List.mem_of_getElem? (i := 103) rfl)) rfl
theorem ml_L_116 : Cond.methodLink RL 116 yX8_day ∈ wsG := inG (inB3 (List.mem_of_getElem? (i := 105) rfl)) rfl
theorem ml_X7_56 : Cond.methodLink RX7 56 yX7_rowRefusal ∈ wsG := inG (inB3 (List.mem_of_getElem? (i := 114) rfl)) rfl
theorem ml_X7_50 : Cond.methodLink RX7 50 yX7_isSheet ∈ wsG := inG (inB3 (List.mem_of_getElem? (i := 118) rfl)) rfl
theorem ml_X7_53 : Cond.methodLink RX7 53 yX7_isLane ∈ wsG := inG (inB3 (List.mem_of_getElem? (i := 121) rfl)) rfl
theorem ml_X7_37 : Cond.methodLink RX7 37 yX7_isEmpty ∈ wsG := inG (inB3 (List.mem_of_getElem? (i := 124) rfl)) rfl
theorem ml_X7_29 : Cond.methodLink RX7 29 yX7_laneOf ∈ wsG := inG (inB3 (List.mem_of_getElem? (i := 128) rfl)) rfl
theorem ml_X7_59 : Cond.methodLink RX7 59 yX7_hasPart ∈ wsG := inG (inB3 (List.mem_of_getElem? (i := 133) rfl)) rfl
theorem ml_X7_47 : Cond.methodLink RX7 47 yX7_sizeOf ∈ wsG := inG (inB3 (List.mem_of_getElem? (i := 137) rfl)) rfl
theorem ml_X8_109 : Cond.methodLink RX8 109 yX8_told ∈ wsG := inG (inB3 (List.mem_of_getElem? (i := 141) rfl)) rfl
theorem ml_X8_193 : Cond.methodLink RX8 193 yX8_areWords ∈ wsG := inG (inB3 (List.mem_of_getElem? (i := 145) rfl)) rfl
theorem ml_X7_33 : Cond.methodLink RX7 33 yX7_placeOf ∈ wsG := inG (inB3 (List.mem_of_getElem? (i := 153) rfl)) rfl
theorem ml_L_121 : Cond.methodLink RL 121 yX8_back ∈ wsG := inG (inB3 (List.mem_of_getElem? (i := 166) rfl)) rfl
theorem ml_L_118 : Cond.methodLink RL 118 yX8_guess ∈ wsG := inG (inB3 (List.mem_of_getElem? (i := 170) rfl)) rfl
theorem ml_X2_34 : Cond.methodLink RX2 34 yX2_goBy ∈ wsG := inG (inB3 (List.mem_of_getElem? (i := 178) rfl)) rfl
theorem ml_L_107 : Cond.methodLink RL 107 yX8_byLaw ∈ wsG := inG (inB3 (List.mem_of_getElem? (i := 190) rfl)) rfl
theorem ml_X8_287 : Cond.methodLink RX8 287 yX8_worthUnder ∈ wsG := inG (inB3 (List.mem_of_getElem? (i := 194) rfl)) rfl
theorem ml_L_97 : Cond.methodLink RL 97 yX8_share ∈ wsG := inG (inB3 (List.mem_of_getElem? (i := 199) rfl)) rfl
theorem ml_X8_296 : Cond.methodLink RX8 296 yX8_commonPart ∈ wsG := inG (inB3 (List.mem_of_getElem? (i := 207) rfl)) rfl
theorem ml_L_55 : Cond.methodLink RL 55 yX8_sheet ∈ wsG := inG (inB3 (List.mem_of_getElem? (i := 210) rfl)) rfl
theorem ml_L_19 : Cond.methodLink RL 19 yX8_put ∈ wsG := inG (inB3 (List.mem_of_getElem? (i := 220) rfl)) rfl
theorem ml_X7_41 : Cond.methodLink RX7 41 yX7_cutTo ∈ wsG := inG (inB3 (List.mem_of_getElem? (i := 230) rfl)) rfl
theorem ml_L_113 : Cond.methodLink RL 113 yX8_many ∈ wsG := inG (inB3 (List.mem_of_getElem? (i := 233) rfl)) rfl
theorem ml_L_9 : Cond.methodLink RL 9 yL_cell ∈ wsG := inG (inB3 (List.mem_of_getElem? (i := 237) rfl)) rfl
theorem ml_L_15 : Cond.methodLink RL 15 yL_low ∈ wsG := inG (inB4 (List.mem_of_getElem? (i := 1) rfl)) rfl
theorem ml_L_58 : Cond.methodLink RL 58 yL_lay ∈ wsG := inG (inB4 (List.mem_of_getElem? (i := 5) rfl)) rfl
theorem ml_L_25 : Cond.methodLink RL 25 yX8_council ∈ wsG := inG (inB4 (List.mem_of_getElem? (i := 8) rfl)) rfl
theorem ml_X6_32 : Cond.methodLink RX6 32 yX6_readJar ∈ wsG := inG (inB4 (List.mem_of_getElem? (i := 17) rfl)) rfl
theorem ml_X6_36 : Cond.methodLink RX6 36 yX6_readSign ∈ wsG := inG (inB4 (List.mem_of_getElem? (i := 21) rfl)) rfl
theorem ml_X6_64 : Cond.methodLink RX6 64 yX6_isNext ∈ wsG := inG (inB4 (List.mem_of_getElem? (i := 25) rfl)) rfl
theorem ml_X6_43 : Cond.methodLink RX6 43 yX6_readNumber ∈ wsG := inG (inB4 (List.mem_of_getElem? (i := 30) rfl)) rfl
theorem ml_X6_47 : Cond.methodLink RX6 47 yX6_readDigit ∈ wsG := inG (inB4 (List.mem_of_getElem? (i := 34) rfl)) rfl
theorem ml_X6_40 : Cond.methodLink RX6 40 yX6_readSpeaker ∈ wsG := inG (inB4 (List.mem_of_getElem? (i := 42) rfl)) rfl
theorem ml_X6_57 : Cond.methodLink RX6 57 yX6_kindOfSign ∈ wsG := inG (inB4 (List.mem_of_getElem? (i := 46) rfl)) rfl
theorem ml_X6_67 : Cond.methodLink RX6 67 yX6_readWord ∈ wsG := inG (inB4 (List.mem_of_getElem? (i := 55) rfl)) rfl
theorem ml_X4_53 : Cond.methodLink RX4 53 yX4_begin ∈ wsG := inG (inB4 (List.mem_of_getElem? (i := 67) rfl)) rfl
theorem ml_X4_57 : Cond.methodLink RX4 57 yX4_kindOf ∈ wsG := inG (inB4 (List.mem_of_getElem? (i := 68) rfl)) rfl
theorem ml_X4_60 : Cond.methodLink RX4 60 yX4_addSpeaker ∈ wsG := inG (inB4 (List.mem_of_getElem? (i := 69) rfl)) rfl
theorem ml_X4_67 : Cond.methodLink RX4 67 yX4_ownOf ∈ wsG := inG (inB4 (List.mem_of_getElem? (i := 70) rfl)) rfl
theorem ml_X4_70 : Cond.methodLink RX4 70 yX4_othersOf ∈ wsG := inG (inB4 (List.mem_of_getElem? (i := 74) rfl)) rfl
theorem ml_X4_73 : Cond.methodLink RX4 73 yX4_addWord ∈ wsG := inG (inB4 (List.mem_of_getElem? (i := 78) rfl)) rfl
theorem ml_X4_77 : Cond.methodLink RX4 77 yX4_gainOf ∈ wsG := inG (inB4 (List.mem_of_getElem? (i := 79) rfl)) rfl
theorem ml_X0_29 : Cond.methodLink RX0 29 yX0_takeFirstOrder ∈ wsG := inG (inB4 (List.mem_of_getElem? (i := 88) rfl)) rfl
theorem ml_L_36 : Cond.methodLink RL 36 yL_turns ∈ wsG := inG (inB4 (List.mem_of_getElem? (i := 89) rfl)) rfl
theorem ml_L_33 : Cond.methodLink RL 33 yL_who ∈ wsG := inG (inB4 (List.mem_of_getElem? (i := 92) rfl)) rfl
theorem ml_L_77 : Cond.methodLink RL 77 yL_day ∈ wsG := inG (inB4 (List.mem_of_getElem? (i := 95) rfl)) rfl
theorem ml_L_29 : Cond.methodLink RL 29 yL_ahead ∈ wsG := inG (inB4 (List.mem_of_getElem? (i := 98) rfl)) rfl
theorem ml_L_69 : Cond.methodLink RL 69 yL_read ∈ wsG := inG (inB4 (List.mem_of_getElem? (i := 101) rfl)) rfl
theorem ml_L_40 : Cond.methodLink RL 40 yX8_choice ∈ wsG := inG (inB4 (List.mem_of_getElem? (i := 104) rfl)) rfl
theorem ml_L_73 : Cond.methodLink RL 73 yL_free ∈ wsG := inG (inB4 (List.mem_of_getElem? (i := 109) rfl)) rfl
theorem ml_L_47 : Cond.methodLink RL 47 yL_start ∈ wsG := inG (inB4 (List.mem_of_getElem? (i := 112) rfl)) rfl
theorem ml_L_43 : Cond.methodLink RL 43 yL_said ∈ wsG := inG (inB4 (List.mem_of_getElem? (i := 115) rfl)) rfl
theorem ml_L_50 : Cond.methodLink RL 50 yL_from ∈ wsG := inG (inB4 (List.mem_of_getElem? (i := 118) rfl)) rfl
theorem ml_L_110 : Cond.methodLink RL 110 yL_all ∈ wsG := inG (inB4 (List.mem_of_getElem? (i := 121) rfl)) rfl
theorem ml_L_100 : Cond.methodLink RL 100 yL_says ∈ wsG := inG (inB4 (List.mem_of_getElem? (i := 124) rfl)) rfl
theorem ml_L_84 : Cond.methodLink RL 84 yL_but ∈ wsG := inG (inB4 (List.mem_of_getElem? (i := 127) rfl)) rfl
theorem mn_X8_24 : Cond.methodLinkNest RX8 24 yX7_init "JarCouncil" ∈ tables_1 := inT1 (List.mem_of_getElem? (i := 20) rfl)
theorem mn_X7_21 : Cond.methodLinkNest RX7 21 yX8_set "JarCouncil" ∈ tables_1 := inT1 (List.mem_of_getElem? (i := 24) rfl)
theorem mn_X8_31 : Cond.methodLinkNest RX8 31 yX4_init "JarCouncil" ∈ tables_1 := inT1 (List.mem_of_getElem? (i := 41) rfl)
theorem mn_X8_42 : Cond.methodLinkNest RX8 42 yX6_init "JarCouncil" ∈ tables_1 := inT1 (List.mem_of_getElem? (i := 82) rfl)
theorem mn_X8_51 : Cond.methodLinkNest RX8 51 yX0_init "JarCouncil" ∈ tables_1 := inT1 (List.mem_of_getElem? (i := 108) rfl)
theorem mn_X8_60 : Cond.methodLinkNest RX8 60 yX5_init "JarCouncil" ∈ tables_1 := inT1 (List.mem_of_getElem? (i := 132) rfl)
theorem mn_X8_69 : Cond.methodLinkNest RX8 69 yX1_init "JarCouncil" ∈ tables_1 := inT1 (List.mem_of_getElem? (i := 167) rfl)
theorem mn_X8_87 : Cond.methodLinkNest RX8 87 yX2_init "JarCouncil" ∈ tables_1 := inT1 (List.mem_of_getElem? (i := 209) rfl)
theorem mn_X8_94 : Cond.methodLinkNest RX8 94 yX3_init "JarCouncil" ∈ tables_1 := inT1 (List.mem_of_getElem? (i := 229) rfl)
theorem mn_X8_167 : Cond.methodLinkNest RX8 167 yX3_forget "JarCouncil" ∈ tables_1 := inT2 (List.mem_of_getElem? (i := 66) rfl)
theorem mn_X8_170 : Cond.methodLinkNest RX8 170 yX2_clear "JarCouncil" ∈ tables_1 := inT2 (List.mem_of_getElem? (i := 70) rfl)
theorem mn_X8_135 : Cond.methodLinkNest RX8 135 yX4_has "JarCouncil" ∈ tables_1 := inT2 (List.mem_of_getElem? (i := 78) rfl)
theorem mn_X8_145 : Cond.methodLinkNest RX8 145 yX0_placeOf "JarCouncil" ∈ tables_1 := inT2 (List.mem_of_getElem? (i := 82) rfl)
theorem mn_X0_47 : Cond.methodLinkNest RX0 47 yX8_at "JarCouncil" ∈ tables_1 := inT2 (List.mem_of_getElem? (i := 90) rfl)
theorem mn_X8_163 : Cond.methodLinkNest RX8 163 yX0_exchange "JarCouncil" ∈ tables_1 := inT2 (List.mem_of_getElem? (i := 93) rfl)
theorem mn_X0_32 : Cond.methodLinkNest RX0 32 yX8_set "JarCouncil" ∈ tables_1 := inT2 (List.mem_of_getElem? (i := 97) rfl)
theorem mn_X8_210 : Cond.methodLinkNest RX8 210 yX0_hasTurn "JarCouncil" ∈ tables_1 := inT2 (List.mem_of_getElem? (i := 102) rfl)
theorem mn_X8_241 : Cond.methodLinkNest RX8 241 yX5_makeForEach "JarCouncil" ∈ tables_1 := inT2 (List.mem_of_getElem? (i := 114) rfl)
theorem mn_X5_65 : Cond.methodLinkNest RX5 65 yX0_turns "JarCouncil" ∈ tables_1 := inT2 (List.mem_of_getElem? (i := 122) rfl)
theorem mn_X5_71 : Cond.methodLinkNest RX5 71 yX8_at "JarCouncil" ∈ tables_1 := inT2 (List.mem_of_getElem? (i := 130) rfl)
theorem mn_X5_95 : Cond.methodLinkNest RX5 95 yX8_set "JarCouncil" ∈ tables_1 := inT2 (List.mem_of_getElem? (i := 131) rfl)
theorem mn_X5_78 : Cond.methodLinkNest RX5 78 yX0_whoIn "JarCouncil" ∈ tables_1 := inT2 (List.mem_of_getElem? (i := 140) rfl)
theorem mn_X5_103 : Cond.methodLinkNest RX5 103 yX4_kindOf "JarCouncil" ∈ tables_1 := inT2 (List.mem_of_getElem? (i := 144) rfl)
theorem mn_X4_85 : Cond.methodLinkNest RX4 85 yX8_at "JarCouncil" ∈ tables_1 := inT2 (List.mem_of_getElem? (i := 148) rfl)
theorem mn_X5_85 : Cond.methodLinkNest RX5 85 yX4_wordsOf "JarCouncil" ∈ tables_1 := inT2 (List.mem_of_getElem? (i := 149) rfl)
theorem mn_X5_82 : Cond.methodLinkNest RX5 82 yX0_waterBehind "JarCouncil" ∈ tables_1 := inT2 (List.mem_of_getElem? (i := 153) rfl)
theorem mn_X5_129 : Cond.methodLinkNest RX5 129 yX8_longAt "JarCouncil" ∈ tables_1 := inT2 (List.mem_of_getElem? (i := 165) rfl)
theorem mn_X5_88 : Cond.methodLinkNest RX5 88 yX4_lengthOf "JarCouncil" ∈ tables_1 := inT2 (List.mem_of_getElem? (i := 168) rfl)
theorem mn_X5_110 : Cond.methodLinkNest RX5 110 yX4_gainBy "JarCouncil" ∈ tables_1 := inT2 (List.mem_of_getElem? (i := 175) rfl)
theorem mn_X4_93 : Cond.methodLinkNest RX4 93 yX8_longAt "JarCouncil" ∈ tables_1 := inT2 (List.mem_of_getElem? (i := 179) rfl)
theorem mn_X5_113 : Cond.methodLinkNest RX5 113 yX8_worthToAll "JarCouncil" ∈ tables_1 := inT2 (List.mem_of_getElem? (i := 180) rfl)
theorem mn_X5_117 : Cond.methodLinkNest RX5 117 yX8_worthIn "JarCouncil" ∈ tables_1 := inT2 (List.mem_of_getElem? (i := 186) rfl)
theorem mn_X5_125 : Cond.methodLinkNest RX5 125 yX8_setLong "JarCouncil" ∈ tables_1 := inT2 (List.mem_of_getElem? (i := 190) rfl)
theorem mn_X8_222 : Cond.methodLinkNest RX8 222 yX1_goFreely "JarCouncil" ∈ tables_1 := inT2 (List.mem_of_getElem? (i := 193) rfl)
theorem mn_X1_53 : Cond.methodLinkNest RX1 53 yX0_firstWater "JarCouncil" ∈ tables_1 := inT2 (List.mem_of_getElem? (i := 205) rfl)
theorem mn_X1_85 : Cond.methodLinkNest RX1 85 yX0_turns "JarCouncil" ∈ tables_1 := inT2 (List.mem_of_getElem? (i := 206) rfl)
theorem mn_X1_88 : Cond.methodLinkNest RX1 88 yX5_wordAt "JarCouncil" ∈ tables_1 := inT2 (List.mem_of_getElem? (i := 207) rfl)
theorem mn_X1_57 : Cond.methodLinkNest RX1 57 yX0_whoIn "JarCouncil" ∈ tables_1 := inT2 (List.mem_of_getElem? (i := 215) rfl)
theorem mn_X1_61 : Cond.methodLinkNest RX1 61 yX8_set "JarCouncil" ∈ tables_1 := inT2 (List.mem_of_getElem? (i := 216) rfl)
theorem mn_X1_65 : Cond.methodLinkNest RX1 65 yX4_lengthOf "JarCouncil" ∈ tables_1 := inT2 (List.mem_of_getElem? (i := 217) rfl)
theorem mn_X1_71 : Cond.methodLinkNest RX1 71 yX4_gainBy "JarCouncil" ∈ tables_1 := inT2 (List.mem_of_getElem? (i := 218) rfl)
theorem mn_X1_75 : Cond.methodLinkNest RX1 75 yX0_waterBehind "JarCouncil" ∈ tables_1 := inT2 (List.mem_of_getElem? (i := 219) rfl)
theorem mn_X8_225 : Cond.methodLinkNest RX8 225 yX1_saidIn "JarCouncil" ∈ tables_1 := inT2 (List.mem_of_getElem? (i := 220) rfl)
theorem mn_X1_95 : Cond.methodLinkNest RX1 95 yX8_at "JarCouncil" ∈ tables_1 := inT2 (List.mem_of_getElem? (i := 224) rfl)
theorem mn_X8_231 : Cond.methodLinkNest RX8 231 yX0_follow "JarCouncil" ∈ tables_1 := inT2 (List.mem_of_getElem? (i := 229) rfl)
theorem mn_X8_234 : Cond.methodLinkNest RX8 234 yX5_makeForAll "JarCouncil" ∈ tables_1 := inT2 (List.mem_of_getElem? (i := 233) rfl)
theorem mn_X5_68 : Cond.methodLinkNest RX5 68 yX0_firstWater "JarCouncil" ∈ tables_1 := inT3 (List.mem_of_getElem? (i := 1) rfl)
theorem mn_X8_249 : Cond.methodLinkNest RX8 249 yX1_goForced "JarCouncil" ∈ tables_1 := inT3 (List.mem_of_getElem? (i := 16) rfl)
theorem mn_X8_228 : Cond.methodLinkNest RX8 228 yX1_waterIn "JarCouncil" ∈ tables_1 := inT3 (List.mem_of_getElem? (i := 17) rfl)
theorem mn_X8_252 : Cond.methodLinkNest RX8 252 yX4_longestWithin "JarCouncil" ∈ tables_1 := inT3 (List.mem_of_getElem? (i := 21) rfl)
theorem mn_X8_147 : Cond.methodLinkNest RX8 147 yX4_hasWord "JarCouncil" ∈ tables_1 := inT3 (List.mem_of_getElem? (i := 35) rfl)
theorem mn_X8_255 : Cond.methodLinkNest RX8 255 yX3_seek "JarCouncil" ∈ tables_1 := inT3 (List.mem_of_getElem? (i := 40) rfl)
theorem mn_X3_45 : Cond.methodLinkNest RX3 45 yX8_set "JarCouncil" ∈ tables_1 := inT3 (List.mem_of_getElem? (i := 44) rfl)
theorem mn_X3_49 : Cond.methodLinkNest RX3 49 yX0_follow "JarCouncil" ∈ tables_1 := inT3 (List.mem_of_getElem? (i := 45) rfl)
theorem mn_X3_55 : Cond.methodLinkNest RX3 55 yX0_takeFirstOrder "JarCouncil" ∈ tables_1 := inT3 (List.mem_of_getElem? (i := 46) rfl)
theorem mn_X3_58 : Cond.methodLinkNest RX3 58 yX5_makeForFreeDay "JarCouncil" ∈ tables_1 := inT3 (List.mem_of_getElem? (i := 50) rfl)
theorem mn_X3_63 : Cond.methodLinkNest RX3 63 yX1_goFreely "JarCouncil" ∈ tables_1 := inT3 (List.mem_of_getElem? (i := 54) rfl)
theorem mn_X3_66 : Cond.methodLinkNest RX3 66 yX0_changesFrom "JarCouncil" ∈ tables_1 := inT3 (List.mem_of_getElem? (i := 55) rfl)
theorem mn_X3_102 : Cond.methodLinkNest RX3 102 yX0_whoAt "JarCouncil" ∈ tables_1 := inT3 (List.mem_of_getElem? (i := 63) rfl)
theorem mn_X3_82 : Cond.methodLinkNest RX3 82 yX0_turns "JarCouncil" ∈ tables_1 := inT3 (List.mem_of_getElem? (i := 68) rfl)
theorem mn_X3_85 : Cond.methodLinkNest RX3 85 yX1_saidIn "JarCouncil" ∈ tables_1 := inT3 (List.mem_of_getElem? (i := 69) rfl)
theorem mn_X3_89 : Cond.methodLinkNest RX3 89 yX0_whoIn "JarCouncil" ∈ tables_1 := inT3 (List.mem_of_getElem? (i := 70) rfl)
theorem mn_X3_92 : Cond.methodLinkNest RX3 92 yX4_placeOfWord "JarCouncil" ∈ tables_1 := inT3 (List.mem_of_getElem? (i := 71) rfl)
theorem mn_X3_98 : Cond.methodLinkNest RX3 98 yX8_at "JarCouncil" ∈ tables_1 := inT3 (List.mem_of_getElem? (i := 72) rfl)
theorem mn_X3_78 : Cond.methodLinkNest RX3 78 yX0_takeNextOrder "JarCouncil" ∈ tables_1 := inT3 (List.mem_of_getElem? (i := 73) rfl)
theorem mn_X8_258 : Cond.methodLinkNest RX8 258 yX3_isFound "JarCouncil" ∈ tables_1 := inT3 (List.mem_of_getElem? (i := 78) rfl)
theorem mn_X8_261 : Cond.methodLinkNest RX8 261 yX3_changesFor "JarCouncil" ∈ tables_1 := inT3 (List.mem_of_getElem? (i := 86) rfl)
theorem mn_X8_264 : Cond.methodLinkNest RX8 264 yX3_whoFor "JarCouncil" ∈ tables_1 := inT3 (List.mem_of_getElem? (i := 87) rfl)
theorem mn_X8_271 : Cond.methodLinkNest RX8 271 yX1_hasSaid "JarCouncil" ∈ tables_1 := inT3 (List.mem_of_getElem? (i := 99) rfl)
theorem mn_X8_142 : Cond.methodLinkNest RX8 142 yX4_wordsOf "JarCouncil" ∈ tables_1 := inT3 (List.mem_of_getElem? (i := 104) rfl)
theorem mn_X8_189 : Cond.methodLinkNest RX8 189 yX0_turns "JarCouncil" ∈ tables_1 := inT3 (List.mem_of_getElem? (i := 109) rfl)
theorem mn_X8_105 : Cond.methodLinkNest RX8 105 yX7_partRefusal "JarCouncil" ∈ tables_1 := inT3 (List.mem_of_getElem? (i := 110) rfl)
theorem mn_X7_25 : Cond.methodLinkNest RX7 25 yX8_at "JarCouncil" ∈ tables_1 := inT3 (List.mem_of_getElem? (i := 132) rfl)
theorem mn_X8_200 : Cond.methodLinkNest RX8 200 yX7_valueAt "JarCouncil" ∈ tables_1 := inT3 (List.mem_of_getElem? (i := 149) rfl)
theorem mn_X8_207 : Cond.methodLinkNest RX8 207 yX0_whoIn "JarCouncil" ∈ tables_1 := inT3 (List.mem_of_getElem? (i := 156) rfl)
theorem mn_X8_275 : Cond.methodLinkNest RX8 275 yX2_note "JarCouncil" ∈ tables_1 := inT3 (List.mem_of_getElem? (i := 157) rfl)
theorem mn_X2_25 : Cond.methodLinkNest RX2 25 yX8_set "JarCouncil" ∈ tables_1 := inT3 (List.mem_of_getElem? (i := 161) rfl)
theorem mn_X8_278 : Cond.methodLinkNest RX8 278 yX2_close "JarCouncil" ∈ tables_1 := inT3 (List.mem_of_getElem? (i := 162) rfl)
theorem mn_X8_281 : Cond.methodLinkNest RX8 281 yX2_compare "JarCouncil" ∈ tables_1 := inT3 (List.mem_of_getElem? (i := 174) rfl)
theorem mn_X2_47 : Cond.methodLinkNest RX2 47 yX1_begin "JarCouncil" ∈ tables_1 := inT3 (List.mem_of_getElem? (i := 182) rfl)
theorem mn_X2_54 : Cond.methodLinkNest RX2 54 yX0_turns "JarCouncil" ∈ tables_1 := inT3 (List.mem_of_getElem? (i := 183) rfl)
theorem mn_X2_43 : Cond.methodLinkNest RX2 43 yX8_at "JarCouncil" ∈ tables_1 := inT3 (List.mem_of_getElem? (i := 184) rfl)
theorem mn_X2_58 : Cond.methodLinkNest RX2 58 yX1_speak "JarCouncil" ∈ tables_1 := inT3 (List.mem_of_getElem? (i := 185) rfl)
theorem mn_X8_284 : Cond.methodLinkNest RX8 284 yX2_fits "JarCouncil" ∈ tables_1 := inT3 (List.mem_of_getElem? (i := 186) rfl)
theorem mn_X8_290 : Cond.methodLinkNest RX8 290 yX5_makeForFreeDay "JarCouncil" ∈ tables_1 := inT3 (List.mem_of_getElem? (i := 198) rfl)
theorem mn_X8_293 : Cond.methodLinkNest RX8 293 yX1_runAwayBy "JarCouncil" ∈ tables_1 := inT3 (List.mem_of_getElem? (i := 203) rfl)
theorem mn_X8_299 : Cond.methodLinkNest RX8 299 yX7_isSheet "JarCouncil" ∈ tables_1 := inT3 (List.mem_of_getElem? (i := 214) rfl)
theorem mn_X8_302 : Cond.methodLinkNest RX8 302 yX7_isLane "JarCouncil" ∈ tables_1 := inT3 (List.mem_of_getElem? (i := 215) rfl)
theorem mn_X8_305 : Cond.methodLinkNest RX8 305 yX7_renew "JarCouncil" ∈ tables_1 := inT3 (List.mem_of_getElem? (i := 216) rfl)
theorem mn_X8_312 : Cond.methodLinkNest RX8 312 yX7_isEmpty "JarCouncil" ∈ tables_1 := inT3 (List.mem_of_getElem? (i := 224) rfl)
theorem mn_X8_315 : Cond.methodLinkNest RX8 315 yX7_sizeOf "JarCouncil" ∈ tables_1 := inT3 (List.mem_of_getElem? (i := 225) rfl)
theorem mn_X8_318 : Cond.methodLinkNest RX8 318 yX7_store "JarCouncil" ∈ tables_1 := inT3 (List.mem_of_getElem? (i := 226) rfl)
theorem mn_X8_113 : Cond.methodLinkNest RX8 113 yX7_placeOf "JarCouncil" ∈ tables_1 := inT4 (List.mem_of_getElem? (i := 12) rfl)
theorem mn_X8_117 : Cond.methodLinkNest RX8 117 yX6_firstFault "JarCouncil" ∈ tables_1 := inT4 (List.mem_of_getElem? (i := 13) rfl)
theorem mn_X6_74 : Cond.methodLinkNest RX6 74 yX8_at "JarCouncil" ∈ tables_1 := inT4 (List.mem_of_getElem? (i := 29) rfl)
theorem mn_X6_51 : Cond.methodLinkNest RX6 51 yX4_begin "JarCouncil" ∈ tables_1 := inT4 (List.mem_of_getElem? (i := 38) rfl)
theorem mn_X6_60 : Cond.methodLinkNest RX6 60 yX4_addSpeaker "JarCouncil" ∈ tables_1 := inT4 (List.mem_of_getElem? (i := 50) rfl)
theorem mn_X4_41 : Cond.methodLinkNest RX4 41 yX8_set "JarCouncil" ∈ tables_1 := inT4 (List.mem_of_getElem? (i := 54) rfl)
theorem mn_X6_70 : Cond.methodLinkNest RX6 70 yX4_addWord "JarCouncil" ∈ tables_1 := inT4 (List.mem_of_getElem? (i := 59) rfl)
theorem mn_X8_123 : Cond.methodLinkNest RX8 123 yX4_become "JarCouncil" ∈ tables_1 := inT4 (List.mem_of_getElem? (i := 63) rfl)
theorem mn_X4_81 : Cond.methodLinkNest RX4 81 yX8_setLong "JarCouncil" ∈ tables_1 := inT4 (List.mem_of_getElem? (i := 83) rfl)
theorem mn_X8_126 : Cond.methodLinkNest RX8 126 yX0_beginAnew "JarCouncil" ∈ tables_1 := inT4 (List.mem_of_getElem? (i := 84) rfl)
theorem mn_X8_219 : Cond.methodLinkNest RX8 219 yX5_wordAt "JarCouncil" ∈ tables_1 := inT4 (List.mem_of_getElem? (i := 108) rfl)
theorem kl_X8_247 : Cond.constantLong RX8 247 (-9223372036854775808) ∈ wsG := inG (inB3 (List.mem_of_getElem? (i := 15) rfl)) rfl
theorem kl_L_88 : Cond.constantLong RL 88 (-9223372036854775808) ∈ wsG := inG (inB4 (List.mem_of_getElem? (i := 130) rfl)) rfl
theorem ki_L_7 : Cond.constant RL 7 (15485863) ∈ wsG := inG (inB4 (List.mem_of_getElem? (i := 0) rfl)) rfl
theorem ki_L_8 : Cond.constant RL 8 (2147483647) ∈ wsG := inG (inB4 (List.mem_of_getElem? (i := 4) rfl)) rfl
theorem ini_L : Cond.initialized RL ∈ wsG := inG (inB1 (List.mem_of_getElem? (i := 0) rfl)) rfl
theorem ini_X8 : Cond.initialized RX8 ∈ wsG := inG (inB1 (List.mem_of_getElem? (i := 1) rfl)) rfl
theorem ini_X7 : Cond.initialized RX7 ∈ wsG := inG (inB1 (List.mem_of_getElem? (i := 2) rfl)) rfl
theorem ini_X4 : Cond.initialized RX4 ∈ wsG := inG (inB1 (List.mem_of_getElem? (i := 3) rfl)) rfl
theorem ini_X6 : Cond.initialized RX6 ∈ wsG := inG (inB1 (List.mem_of_getElem? (i := 4) rfl)) rfl
theorem ini_X0 : Cond.initialized RX0 ∈ wsG := inG (inB1 (List.mem_of_getElem? (i := 5) rfl)) rfl
theorem ini_X5 : Cond.initialized RX5 ∈ wsG := inG (inB1 (List.mem_of_getElem? (i := 6) rfl)) rfl
theorem ini_X1 : Cond.initialized RX1 ∈ wsG := inG (inB1 (List.mem_of_getElem? (i := 7) rfl)) rfl
theorem ini_X2 : Cond.initialized RX2 ∈ wsG := inG (inB1 (List.mem_of_getElem? (i := 8) rfl)) rfl
theorem ini_X3 : Cond.initialized RX3 ∈ wsG := inG (inB1 (List.mem_of_getElem? (i := 9) rfl)) rfl
theorem isb_X8 : Cond.instantiable RX8 14 ∈ wsG := inG (inB1 (List.mem_of_getElem? (i := 11) rfl)) rfl
theorem isb_X7 : Cond.instantiable RX7 3 ∈ wsG := inG (inB1 (List.mem_of_getElem? (i := 19) rfl)) rfl
theorem isb_X4 : Cond.instantiable RX4 9 ∈ wsG := inG (inB1 (List.mem_of_getElem? (i := 40) rfl)) rfl
theorem isb_X6 : Cond.instantiable RX6 6 ∈ wsG := inG (inB1 (List.mem_of_getElem? (i := 81) rfl)) rfl
theorem isb_X0 : Cond.instantiable RX0 4 ∈ wsG := inG (inB1 (List.mem_of_getElem? (i := 107) rfl)) rfl
theorem isb_X5 : Cond.instantiable RX5 9 ∈ wsG := inG (inB1 (List.mem_of_getElem? (i := 131) rfl)) rfl
theorem isb_X1 : Cond.instantiable RX1 10 ∈ wsG := inG (inB1 (List.mem_of_getElem? (i := 166) rfl)) rfl
theorem isb_X2 : Cond.instantiable RX2 4 ∈ wsG := inG (inB1 (List.mem_of_getElem? (i := 208) rfl)) rfl
theorem isb_X3 : Cond.instantiable RX3 7 ∈ wsG := inG (inB1 (List.mem_of_getElem? (i := 228) rfl)) rfl
theorem ck_L_20 : Cond.classLink RL 20 RX8 ∈ wsG := inG (inB1 (List.mem_of_getElem? (i := 10) rfl)) rfl
theorem ck_X8_22 : Cond.classLink RX8 22 RX7 ∈ wsG := inG (inB1 (List.mem_of_getElem? (i := 18) rfl)) rfl
theorem ck_X8_29 : Cond.classLink RX8 29 RX4 ∈ wsG := inG (inB1 (List.mem_of_getElem? (i := 39) rfl)) rfl
theorem ck_X8_36 : Cond.classLink RX8 36 RX6 ∈ wsG := inG (inB1 (List.mem_of_getElem? (i := 80) rfl)) rfl
theorem ck_X8_49 : Cond.classLink RX8 49 RX0 ∈ wsG := inG (inB1 (List.mem_of_getElem? (i := 106) rfl)) rfl
theorem ck_X8_58 : Cond.classLink RX8 58 RX5 ∈ wsG := inG (inB1 (List.mem_of_getElem? (i := 130) rfl)) rfl
theorem ck_X8_67 : Cond.classLink RX8 67 RX1 ∈ wsG := inG (inB1 (List.mem_of_getElem? (i := 165) rfl)) rfl
theorem ck_X8_85 : Cond.classLink RX8 85 RX2 ∈ wsG := inG (inB1 (List.mem_of_getElem? (i := 207) rfl)) rfl
theorem ck_X8_92 : Cond.classLink RX8 92 RX3 ∈ wsG := inG (inB1 (List.mem_of_getElem? (i := 227) rfl)) rfl
theorem arc_int : Cond.arrayClass .int ∈ wsG := inG (inB1 (List.mem_of_getElem? (i := 38) rfl)) rfl
theorem arc_long : Cond.arrayClass .long ∈ wsG := inG (inB1 (List.mem_of_getElem? (i := 79) rfl)) rfl
theorem lay_X0_0 : u_lay RX0 TX0 0 ∈ wsG := inG (inB1 (List.mem_of_getElem? (i := 121) rfl)) rfl
theorem lay_X0_1 : u_lay RX0 TX0 1 ∈ wsG := inG (inB1 (List.mem_of_getElem? (i := 123) rfl)) rfl
theorem lay_X0_2 : u_lay RX0 TX0 2 ∈ wsG := inG (inB1 (List.mem_of_getElem? (i := 125) rfl)) rfl
theorem lay_X0_3 : u_lay RX0 TX0 3 ∈ wsG := inG (inB1 (List.mem_of_getElem? (i := 127) rfl)) rfl
theorem uw_X0 : ∀ w ∈ u_ws RX0 TX0 4, w ∈ wsG := by
  intro w hw
  obtain ⟨k, hk, rfl⟩ := List.mem_map.mp hw
  have hk := List.mem_range.mp hk
  match k, hk with
  | 0, _ => exact lay_X0_0
  | 1, _ => exact lay_X0_1
  | 2, _ => exact lay_X0_2
  | 3, _ => exact lay_X0_3
  | k + 4, hk => exact absurd hk (by omega)
theorem lay_X1_0 : u_lay RX1 TX1 0 ∈ wsG := inG (inB1 (List.mem_of_getElem? (i := 186) rfl)) rfl
theorem lay_X1_1 : u_lay RX1 TX1 1 ∈ wsG := inG (inB1 (List.mem_of_getElem? (i := 188) rfl)) rfl
theorem lay_X1_2 : u_lay RX1 TX1 2 ∈ wsG := inG (inB1 (List.mem_of_getElem? (i := 190) rfl)) rfl
theorem lay_X1_3 : u_lay RX1 TX1 3 ∈ wsG := inG (inB1 (List.mem_of_getElem? (i := 192) rfl)) rfl
theorem lay_X1_4 : u_lay RX1 TX1 4 ∈ wsG := inG (inB1 (List.mem_of_getElem? (i := 194) rfl)) rfl
theorem lay_X1_5 : u_lay RX1 TX1 5 ∈ wsG := inG (inB1 (List.mem_of_getElem? (i := 196) rfl)) rfl
theorem lay_X1_6 : u_lay RX1 TX1 6 ∈ wsG := inG (inB1 (List.mem_of_getElem? (i := 198) rfl)) rfl
theorem lay_X1_7 : u_lay RX1 TX1 7 ∈ wsG := inG (inB1 (List.mem_of_getElem? (i := 200) rfl)) rfl
theorem lay_X1_8 : u_lay RX1 TX1 8 ∈ wsG := inG (inB1 (List.mem_of_getElem? (i := 202) rfl)) rfl
theorem lay_X1_9 : u_lay RX1 TX1 9 ∈ wsG := inG (inB1 (List.mem_of_getElem? (i := 204) rfl)) rfl
theorem uw_X1 : ∀ w ∈ u_ws RX1 TX1 10, w ∈ wsG := by
  intro w hw
  obtain ⟨k, hk, rfl⟩ := List.mem_map.mp hw
  have hk := List.mem_range.mp hk
  match k, hk with
  | 0, _ => exact lay_X1_0
  | 1, _ => exact lay_X1_1
  | 2, _ => exact lay_X1_2
  | 3, _ => exact lay_X1_3
  | 4, _ => exact lay_X1_4
  | 5, _ => exact lay_X1_5
  | 6, _ => exact lay_X1_6
  | 7, _ => exact lay_X1_7
  | 8, _ => exact lay_X1_8
  | 9, _ => exact lay_X1_9
  | k + 10, hk => exact absurd hk (by omega)
theorem lay_X2_0 : u_lay RX2 TX2 0 ∈ wsG := inG (inB1 (List.mem_of_getElem? (i := 218) rfl)) rfl
theorem lay_X2_1 : u_lay RX2 TX2 1 ∈ wsG := inG (inB1 (List.mem_of_getElem? (i := 220) rfl)) rfl
theorem lay_X2_2 : u_lay RX2 TX2 2 ∈ wsG := inG (inB1 (List.mem_of_getElem? (i := 222) rfl)) rfl
theorem lay_X2_3 : u_lay RX2 TX2 3 ∈ wsG := inG (inB1 (List.mem_of_getElem? (i := 224) rfl)) rfl
theorem uw_X2 : ∀ w ∈ u_ws RX2 TX2 4, w ∈ wsG := by
  intro w hw
  obtain ⟨k, hk, rfl⟩ := List.mem_map.mp hw
  have hk := List.mem_range.mp hk
  match k, hk with
  | 0, _ => exact lay_X2_0
  | 1, _ => exact lay_X2_1
  | 2, _ => exact lay_X2_2
  | 3, _ => exact lay_X2_3
  | k + 4, hk => exact absurd hk (by omega)
theorem lay_X3_0 : u_lay RX3 TX3 0 ∈ wsG := inG (inB2 (List.mem_of_getElem? (i := 0) rfl)) rfl
theorem lay_X3_1 : u_lay RX3 TX3 1 ∈ wsG := inG (inB2 (List.mem_of_getElem? (i := 2) rfl)) rfl
theorem lay_X3_2 : u_lay RX3 TX3 2 ∈ wsG := inG (inB2 (List.mem_of_getElem? (i := 4) rfl)) rfl
theorem lay_X3_3 : u_lay RX3 TX3 3 ∈ wsG := inG (inB2 (List.mem_of_getElem? (i := 6) rfl)) rfl
theorem lay_X3_4 : u_lay RX3 TX3 4 ∈ wsG := inG (inB2 (List.mem_of_getElem? (i := 8) rfl)) rfl
theorem lay_X3_5 : u_lay RX3 TX3 5 ∈ wsG := inG (inB2 (List.mem_of_getElem? (i := 10) rfl)) rfl
theorem lay_X3_6 : u_lay RX3 TX3 6 ∈ wsG := inG (inB2 (List.mem_of_getElem? (i := 12) rfl)) rfl
theorem uw_X3 : ∀ w ∈ u_ws RX3 TX3 7, w ∈ wsG := by
  intro w hw
  obtain ⟨k, hk, rfl⟩ := List.mem_map.mp hw
  have hk := List.mem_range.mp hk
  match k, hk with
  | 0, _ => exact lay_X3_0
  | 1, _ => exact lay_X3_1
  | 2, _ => exact lay_X3_2
  | 3, _ => exact lay_X3_3
  | 4, _ => exact lay_X3_4
  | 5, _ => exact lay_X3_5
  | 6, _ => exact lay_X3_6
  | k + 7, hk => exact absurd hk (by omega)
theorem lay_X4_0 : u_lay RX4 TX4 0 ∈ wsG := inG (inB1 (List.mem_of_getElem? (i := 60) rfl)) rfl
theorem lay_X4_1 : u_lay RX4 TX4 1 ∈ wsG := inG (inB1 (List.mem_of_getElem? (i := 62) rfl)) rfl
theorem lay_X4_2 : u_lay RX4 TX4 2 ∈ wsG := inG (inB1 (List.mem_of_getElem? (i := 64) rfl)) rfl
theorem lay_X4_3 : u_lay RX4 TX4 3 ∈ wsG := inG (inB1 (List.mem_of_getElem? (i := 66) rfl)) rfl
theorem lay_X4_4 : u_lay RX4 TX4 4 ∈ wsG := inG (inB1 (List.mem_of_getElem? (i := 68) rfl)) rfl
theorem lay_X4_5 : u_lay RX4 TX4 5 ∈ wsG := inG (inB1 (List.mem_of_getElem? (i := 70) rfl)) rfl
theorem lay_X4_6 : u_lay RX4 TX4 6 ∈ wsG := inG (inB1 (List.mem_of_getElem? (i := 72) rfl)) rfl
theorem lay_X4_7 : u_lay RX4 TX4 7 ∈ wsG := inG (inB1 (List.mem_of_getElem? (i := 74) rfl)) rfl
theorem lay_X4_8 : u_lay RX4 TX4 8 ∈ wsG := inG (inB1 (List.mem_of_getElem? (i := 76) rfl)) rfl
theorem uw_X4 : ∀ w ∈ u_ws RX4 TX4 9, w ∈ wsG := by
  intro w hw
  obtain ⟨k, hk, rfl⟩ := List.mem_map.mp hw
  have hk := List.mem_range.mp hk
  match k, hk with
  | 0, _ => exact lay_X4_0
  | 1, _ => exact lay_X4_1
  | 2, _ => exact lay_X4_2
  | 3, _ => exact lay_X4_3
  | 4, _ => exact lay_X4_4
  | 5, _ => exact lay_X4_5
  | 6, _ => exact lay_X4_6
  | 7, _ => exact lay_X4_7
  | 8, _ => exact lay_X4_8
  | k + 9, hk => exact absurd hk (by omega)
theorem lay_X5_0 : u_lay RX5 TX5 0 ∈ wsG := inG (inB1 (List.mem_of_getElem? (i := 146) rfl)) rfl
theorem lay_X5_1 : u_lay RX5 TX5 1 ∈ wsG := inG (inB1 (List.mem_of_getElem? (i := 148) rfl)) rfl
theorem lay_X5_2 : u_lay RX5 TX5 2 ∈ wsG := inG (inB1 (List.mem_of_getElem? (i := 150) rfl)) rfl
theorem lay_X5_3 : u_lay RX5 TX5 3 ∈ wsG := inG (inB1 (List.mem_of_getElem? (i := 152) rfl)) rfl
theorem lay_X5_4 : u_lay RX5 TX5 4 ∈ wsG := inG (inB1 (List.mem_of_getElem? (i := 154) rfl)) rfl
theorem lay_X5_5 : u_lay RX5 TX5 5 ∈ wsG := inG (inB1 (List.mem_of_getElem? (i := 156) rfl)) rfl
theorem lay_X5_6 : u_lay RX5 TX5 6 ∈ wsG := inG (inB1 (List.mem_of_getElem? (i := 158) rfl)) rfl
theorem lay_X5_7 : u_lay RX5 TX5 7 ∈ wsG := inG (inB1 (List.mem_of_getElem? (i := 160) rfl)) rfl
theorem lay_X5_8 : u_lay RX5 TX5 8 ∈ wsG := inG (inB1 (List.mem_of_getElem? (i := 162) rfl)) rfl
theorem uw_X5 : ∀ w ∈ u_ws RX5 TX5 9, w ∈ wsG := by
  intro w hw
  obtain ⟨k, hk, rfl⟩ := List.mem_map.mp hw
  have hk := List.mem_range.mp hk
  match k, hk with
  | 0, _ => exact lay_X5_0
  | 1, _ => exact lay_X5_1
  | 2, _ => exact lay_X5_2
  | 3, _ => exact lay_X5_3
  | 4, _ => exact lay_X5_4
  | 5, _ => exact lay_X5_5
  | 6, _ => exact lay_X5_6
  | 7, _ => exact lay_X5_7
  | 8, _ => exact lay_X5_8
  | k + 9, hk => exact absurd hk (by omega)
theorem lay_X6_0 : u_lay RX6 TX6 0 ∈ wsG := inG (inB1 (List.mem_of_getElem? (i := 93) rfl)) rfl
theorem lay_X6_1 : u_lay RX6 TX6 1 ∈ wsG := inG (inB1 (List.mem_of_getElem? (i := 95) rfl)) rfl
theorem lay_X6_2 : u_lay RX6 TX6 2 ∈ wsG := inG (inB1 (List.mem_of_getElem? (i := 97) rfl)) rfl
theorem lay_X6_3 : u_lay RX6 TX6 3 ∈ wsG := inG (inB1 (List.mem_of_getElem? (i := 99) rfl)) rfl
theorem lay_X6_4 : u_lay RX6 TX6 4 ∈ wsG := inG (inB1 (List.mem_of_getElem? (i := 101) rfl)) rfl
theorem lay_X6_5 : u_lay RX6 TX6 5 ∈ wsG := inG (inB1 (List.mem_of_getElem? (i := 103) rfl)) rfl
theorem uw_X6 : ∀ w ∈ u_ws RX6 TX6 6, w ∈ wsG := by
  intro w hw
  obtain ⟨k, hk, rfl⟩ := List.mem_map.mp hw
  have hk := List.mem_range.mp hk
  match k, hk with
  | 0, _ => exact lay_X6_0
  | 1, _ => exact lay_X6_1
  | 2, _ => exact lay_X6_2
  | 3, _ => exact lay_X6_3
  | 4, _ => exact lay_X6_4
  | 5, _ => exact lay_X6_5
  | k + 6, hk => exact absurd hk (by omega)
theorem lay_X7_0 : u_lay RX7 TX7 0 ∈ wsG := inG (inB1 (List.mem_of_getElem? (i := 31) rfl)) rfl
theorem lay_X7_1 : u_lay RX7 TX7 1 ∈ wsG := inG (inB1 (List.mem_of_getElem? (i := 33) rfl)) rfl
theorem lay_X7_2 : u_lay RX7 TX7 2 ∈ wsG := inG (inB1 (List.mem_of_getElem? (i := 35) rfl)) rfl
theorem uw_X7 : ∀ w ∈ u_ws RX7 TX7 3, w ∈ wsG := by
  intro w hw
  obtain ⟨k, hk, rfl⟩ := List.mem_map.mp hw
  have hk := List.mem_range.mp hk
  match k, hk with
  | 0, _ => exact lay_X7_0
  | 1, _ => exact lay_X7_1
  | 2, _ => exact lay_X7_2
  | k + 3, hk => exact absurd hk (by omega)
theorem lay_X8_0 : u_lay RX8 TX8 0 ∈ wsG := inG (inB2 (List.mem_of_getElem? (i := 29) rfl)) rfl
theorem lay_X8_1 : u_lay RX8 TX8 1 ∈ wsG := inG (inB2 (List.mem_of_getElem? (i := 31) rfl)) rfl
theorem lay_X8_2 : u_lay RX8 TX8 2 ∈ wsG := inG (inB2 (List.mem_of_getElem? (i := 33) rfl)) rfl
theorem lay_X8_3 : u_lay RX8 TX8 3 ∈ wsG := inG (inB2 (List.mem_of_getElem? (i := 35) rfl)) rfl
theorem lay_X8_4 : u_lay RX8 TX8 4 ∈ wsG := inG (inB2 (List.mem_of_getElem? (i := 37) rfl)) rfl
theorem lay_X8_5 : u_lay RX8 TX8 5 ∈ wsG := inG (inB2 (List.mem_of_getElem? (i := 39) rfl)) rfl
theorem lay_X8_6 : u_lay RX8 TX8 6 ∈ wsG := inG (inB2 (List.mem_of_getElem? (i := 41) rfl)) rfl
theorem lay_X8_7 : u_lay RX8 TX8 7 ∈ wsG := inG (inB2 (List.mem_of_getElem? (i := 43) rfl)) rfl
theorem lay_X8_8 : u_lay RX8 TX8 8 ∈ wsG := inG (inB2 (List.mem_of_getElem? (i := 45) rfl)) rfl
theorem lay_X8_9 : u_lay RX8 TX8 9 ∈ wsG := inG (inB2 (List.mem_of_getElem? (i := 47) rfl)) rfl
theorem lay_X8_10 : u_lay RX8 TX8 10 ∈ wsG := inG (inB2 (List.mem_of_getElem? (i := 49) rfl)) rfl
theorem lay_X8_11 : u_lay RX8 TX8 11 ∈ wsG := inG (inB2 (List.mem_of_getElem? (i := 51) rfl)) rfl
theorem lay_X8_12 : u_lay RX8 TX8 12 ∈ wsG := inG (inB2 (List.mem_of_getElem? (i := 53) rfl)) rfl
theorem lay_X8_13 : u_lay RX8 TX8 13 ∈ wsG := inG (inB2 (List.mem_of_getElem? (i := 55) rfl)) rfl
theorem uw_X8 : ∀ w ∈ u_ws RX8 TX8 14, w ∈ wsG := by
  intro w hw
  obtain ⟨k, hk, rfl⟩ := List.mem_map.mp hw
  have hk := List.mem_range.mp hk
  match k, hk with
  | 0, _ => exact lay_X8_0
  | 1, _ => exact lay_X8_1
  | 2, _ => exact lay_X8_2
  | 3, _ => exact lay_X8_3
  | 4, _ => exact lay_X8_4
  | 5, _ => exact lay_X8_5
  | 6, _ => exact lay_X8_6
  | 7, _ => exact lay_X8_7
  | 8, _ => exact lay_X8_8
  | 9, _ => exact lay_X8_9
  | 10, _ => exact lay_X8_10
  | 11, _ => exact lay_X8_11
  | 12, _ => exact lay_X8_12
  | 13, _ => exact lay_X8_13
  | k + 14, hk => exact absurd hk (by omega)
theorem oi_code : Cond.code objectInit ⟨#[0xb1]⟩ 1 none ∈ wsG := inG (inB1 (List.mem_of_getElem? (i := 17) rfl)) rfl
theorem oi_inst : Cond.instanceMethod objectInit ∈ wsG := inG (inB1 (List.mem_of_getElem? (i := 16) rfl)) rfl
theorem cd_X0_init : Cond.code yX0_init cX0_init 2 none ∈ wsG := inG (inB1 (List.mem_of_getElem? (i := 110) rfl)) rfl
theorem im_X0_init : Cond.instanceMethod yX0_init ∈ wsG := inG (inB1 (List.mem_of_getElem? (i := 109) rfl)) rfl
theorem cd_X0_beginAnew : Cond.code yX0_beginAnew cX0_beginAnew 1 none ∈ wsG := inG (inB4 (List.mem_of_getElem? (i := 87) rfl)) rfl
theorem im_X0_beginAnew : Cond.instanceMethod yX0_beginAnew ∈ wsG := inG (inB4 (List.mem_of_getElem? (i := 86) rfl)) rfl
theorem se_X0_beginAnew : Cond.selects (yX0_beginAnew).cls yX0_beginAnew yX0_beginAnew ∈ wsG := inG (inS6 (q := (yX0_beginAnew, 4)) (List.mem_of_getElem? (i := 3) rfl)) rfl
theorem cd_X0_takeFirstOrder : Cond.code yX0_takeFirstOrder cX0_takeFirstOrder 2 none ∈ wsG := inG (inB3 (List.mem_of_getElem? (i := 49) rfl)) rfl
theorem im_X0_takeFirstOrder : Cond.instanceMethod yX0_takeFirstOrder ∈ wsG := inG (inB3 (List.mem_of_getElem? (i := 48) rfl)) rfl
theorem se_X0_takeFirstOrder : Cond.selects (yX0_takeFirstOrder).cls yX0_takeFirstOrder yX0_takeFirstOrder ∈ wsG := inG (inS3 (q := (yX0_takeFirstOrder, 4)) (List.mem_of_getElem? (i := 6) rfl)) rfl
theorem cd_X0_follow : Cond.code yX0_follow cX0_follow 3 none ∈ wsG := inG (inB2 (List.mem_of_getElem? (i := 232) rfl)) rfl
theorem im_X0_follow : Cond.instanceMethod yX0_follow ∈ wsG := inG (inB2 (List.mem_of_getElem? (i := 231) rfl)) rfl
theorem se_X0_follow : Cond.selects (yX0_follow).cls yX0_follow yX0_follow ∈ wsG := inG (inS2 (q := (yX0_follow, 4)) (List.mem_of_getElem? (i := 13) rfl)) rfl
theorem cd_X0_turns : Cond.code yX0_turns cX0_turns 1 (some .int) ∈ wsG := inG (inB2 (List.mem_of_getElem? (i := 109) rfl)) rfl
theorem im_X0_turns : Cond.instanceMethod yX0_turns ∈ wsG := inG (inB2 (List.mem_of_getElem? (i := 108) rfl)) rfl
theorem se_X0_turns : Cond.selects (yX0_turns).cls yX0_turns yX0_turns ∈ wsG := inG (inS1 (q := (yX0_turns, 4)) (List.mem_of_getElem? (i := 8) rfl)) rfl
theorem cd_X0_hasTurn : Cond.code yX0_hasTurn cX0_hasTurn 2 (some .boolean) ∈ wsG := inG (inB2 (List.mem_of_getElem? (i := 105) rfl)) rfl
theorem im_X0_hasTurn : Cond.instanceMethod yX0_hasTurn ∈ wsG := inG (inB2 (List.mem_of_getElem? (i := 104) rfl)) rfl
theorem se_X0_hasTurn : Cond.selects (yX0_hasTurn).cls yX0_hasTurn yX0_hasTurn ∈ wsG := inG (inS1 (q := (yX0_hasTurn, 4)) (List.mem_of_getElem? (i := 7) rfl)) rfl
theorem cd_X0_whoAt : Cond.code yX0_whoAt cX0_whoAt 2 (some .int) ∈ wsG := inG (inB2 (List.mem_of_getElem? (i := 89) rfl)) rfl
theorem im_X0_whoAt : Cond.instanceMethod yX0_whoAt ∈ wsG := inG (inB2 (List.mem_of_getElem? (i := 88) rfl)) rfl
theorem se_X0_whoAt : Cond.selects (yX0_whoAt).cls yX0_whoAt yX0_whoAt ∈ wsG := inG (inS1 (q := (yX0_whoAt, 4)) (List.mem_of_getElem? (i := 5) rfl)) rfl
theorem cd_X0_whoIn : Cond.code yX0_whoIn cX0_whoIn 2 (some .int) ∈ wsG := inG (inB2 (List.mem_of_getElem? (i := 143) rfl)) rfl
theorem im_X0_whoIn : Cond.instanceMethod yX0_whoIn ∈ wsG := inG (inB2 (List.mem_of_getElem? (i := 142) rfl)) rfl
theorem se_X0_whoIn : Cond.selects (yX0_whoIn).cls yX0_whoIn yX0_whoIn ∈ wsG := inG (inS1 (q := (yX0_whoIn, 4)) (List.mem_of_getElem? (i := 15) rfl)) rfl
theorem cd_X0_placeOf : Cond.code yX0_placeOf cX0_placeOf 3 (some .int) ∈ wsG := inG (inB2 (List.mem_of_getElem? (i := 85) rfl)) rfl
theorem im_X0_placeOf : Cond.instanceMethod yX0_placeOf ∈ wsG := inG (inB2 (List.mem_of_getElem? (i := 84) rfl)) rfl
theorem se_X0_placeOf : Cond.selects (yX0_placeOf).cls yX0_placeOf yX0_placeOf ∈ wsG := inG (inS1 (q := (yX0_placeOf, 4)) (List.mem_of_getElem? (i := 4) rfl)) rfl
theorem cd_X0_exchange : Cond.code yX0_exchange cX0_exchange 4 none ∈ wsG := inG (inB2 (List.mem_of_getElem? (i := 96) rfl)) rfl
theorem im_X0_exchange : Cond.instanceMethod yX0_exchange ∈ wsG := inG (inB2 (List.mem_of_getElem? (i := 95) rfl)) rfl
theorem se_X0_exchange : Cond.selects (yX0_exchange).cls yX0_exchange yX0_exchange ∈ wsG := inG (inS1 (q := (yX0_exchange, 4)) (List.mem_of_getElem? (i := 6) rfl)) rfl
theorem cd_X0_firstWater : Cond.code yX0_firstWater cX0_firstWater 1 (some .int) ∈ wsG := inG (inB2 (List.mem_of_getElem? (i := 160) rfl)) rfl
theorem im_X0_firstWater : Cond.instanceMethod yX0_firstWater ∈ wsG := inG (inB2 (List.mem_of_getElem? (i := 159) rfl)) rfl
theorem se_X0_firstWater : Cond.selects (yX0_firstWater).cls yX0_firstWater yX0_firstWater ∈ wsG := inG (inS2 (q := (yX0_firstWater, 4)) (List.mem_of_getElem? (i := 3) rfl)) rfl
theorem cd_X0_waterBehind : Cond.code yX0_waterBehind cX0_waterBehind 3 (some .int) ∈ wsG := inG (inB2 (List.mem_of_getElem? (i := 156) rfl)) rfl
theorem im_X0_waterBehind : Cond.instanceMethod yX0_waterBehind ∈ wsG := inG (inB2 (List.mem_of_getElem? (i := 155) rfl)) rfl
theorem se_X0_waterBehind : Cond.selects (yX0_waterBehind).cls yX0_waterBehind yX0_waterBehind ∈ wsG := inG (inS2 (q := (yX0_waterBehind, 4)) (List.mem_of_getElem? (i := 2) rfl)) rfl
theorem cd_X0_takeNextOrder : Cond.code yX0_takeNextOrder cX0_takeNextOrder 5 (some .boolean) ∈ wsG := inG (inB3 (List.mem_of_getElem? (i := 76) rfl)) rfl
theorem im_X0_takeNextOrder : Cond.instanceMethod yX0_takeNextOrder ∈ wsG := inG (inB3 (List.mem_of_getElem? (i := 75) rfl)) rfl
theorem se_X0_takeNextOrder : Cond.selects (yX0_takeNextOrder).cls yX0_takeNextOrder yX0_takeNextOrder ∈ wsG := inG (inS3 (q := (yX0_takeNextOrder, 4)) (List.mem_of_getElem? (i := 11) rfl)) rfl
theorem cd_X0_changesFrom : Cond.code yX0_changesFrom cX0_changesFrom 4 (some .int) ∈ wsG := inG (inB3 (List.mem_of_getElem? (i := 58) rfl)) rfl
theorem im_X0_changesFrom : Cond.instanceMethod yX0_changesFrom ∈ wsG := inG (inB3 (List.mem_of_getElem? (i := 57) rfl)) rfl
theorem se_X0_changesFrom : Cond.selects (yX0_changesFrom).cls yX0_changesFrom yX0_changesFrom ∈ wsG := inG (inS3 (q := (yX0_changesFrom, 4)) (List.mem_of_getElem? (i := 8) rfl)) rfl
theorem cd_X1_init : Cond.code yX1_init cX1_init 2 none ∈ wsG := inG (inB1 (List.mem_of_getElem? (i := 169) rfl)) rfl
theorem im_X1_init : Cond.instanceMethod yX1_init ∈ wsG := inG (inB1 (List.mem_of_getElem? (i := 168) rfl)) rfl
theorem cd_X1_begin : Cond.code yX1_begin cX1_begin 1 none ∈ wsG := inG (inB2 (List.mem_of_getElem? (i := 204) rfl)) rfl
theorem im_X1_begin : Cond.instanceMethod yX1_begin ∈ wsG := inG (inB2 (List.mem_of_getElem? (i := 203) rfl)) rfl
theorem se_X1_begin : Cond.selects (yX1_begin).cls yX1_begin yX1_begin ∈ wsG := inG (inS2 (q := (yX1_begin, 10)) (List.mem_of_getElem? (i := 9) rfl)) rfl
theorem cd_X1_speak : Cond.code yX1_speak cX1_speak 4 none ∈ wsG := inG (inB2 (List.mem_of_getElem? (i := 214) rfl)) rfl
theorem im_X1_speak : Cond.instanceMethod yX1_speak ∈ wsG := inG (inB2 (List.mem_of_getElem? (i := 213) rfl)) rfl
theorem se_X1_speak : Cond.selects (yX1_speak).cls yX1_speak yX1_speak ∈ wsG := inG (inS2 (q := (yX1_speak, 10)) (List.mem_of_getElem? (i := 11) rfl)) rfl
theorem cd_X1_goFreely : Cond.code yX1_goFreely cX1_goFreely 1 none ∈ wsG := inG (inB2 (List.mem_of_getElem? (i := 196) rfl)) rfl
theorem im_X1_goFreely : Cond.instanceMethod yX1_goFreely ∈ wsG := inG (inB2 (List.mem_of_getElem? (i := 195) rfl)) rfl
theorem se_X1_goFreely : Cond.selects (yX1_goFreely).cls yX1_goFreely yX1_goFreely ∈ wsG := inG (inS2 (q := (yX1_goFreely, 10)) (List.mem_of_getElem? (i := 7) rfl)) rfl
theorem cd_X1_goForced : Cond.code yX1_goForced cX1_goForced 4 none ∈ wsG := inG (inB2 (List.mem_of_getElem? (i := 200) rfl)) rfl
theorem im_X1_goForced : Cond.instanceMethod yX1_goForced ∈ wsG := inG (inB2 (List.mem_of_getElem? (i := 199) rfl)) rfl
theorem se_X1_goForced : Cond.selects (yX1_goForced).cls yX1_goForced yX1_goForced ∈ wsG := inG (inS2 (q := (yX1_goForced, 10)) (List.mem_of_getElem? (i := 8) rfl)) rfl
theorem cd_X1_saidIn : Cond.code yX1_saidIn cX1_saidIn 2 (some .int) ∈ wsG := inG (inB2 (List.mem_of_getElem? (i := 223) rfl)) rfl
theorem im_X1_saidIn : Cond.instanceMethod yX1_saidIn ∈ wsG := inG (inB2 (List.mem_of_getElem? (i := 222) rfl)) rfl
theorem se_X1_saidIn : Cond.selects (yX1_saidIn).cls yX1_saidIn yX1_saidIn ∈ wsG := inG (inS2 (q := (yX1_saidIn, 10)) (List.mem_of_getElem? (i := 12) rfl)) rfl
theorem cd_X1_waterIn : Cond.code yX1_waterIn cX1_waterIn 2 (some .int) ∈ wsG := inG (inB3 (List.mem_of_getElem? (i := 20) rfl)) rfl
theorem im_X1_waterIn : Cond.instanceMethod yX1_waterIn ∈ wsG := inG (inB3 (List.mem_of_getElem? (i := 19) rfl)) rfl
theorem se_X1_waterIn : Cond.selects (yX1_waterIn).cls yX1_waterIn yX1_waterIn ∈ wsG := inG (inS3 (q := (yX1_waterIn, 10)) (List.mem_of_getElem? (i := 2) rfl)) rfl
theorem cd_X1_hasSaid : Cond.code yX1_hasSaid cX1_hasSaid 4 (some .boolean) ∈ wsG := inG (inB3 (List.mem_of_getElem? (i := 102) rfl)) rfl
theorem im_X1_hasSaid : Cond.instanceMethod yX1_hasSaid ∈ wsG := inG (inB3 (List.mem_of_getElem? (i := 101) rfl)) rfl
theorem se_X1_hasSaid : Cond.selects (yX1_hasSaid).cls yX1_hasSaid yX1_hasSaid ∈ wsG := inG (inS4 (q := (yX1_hasSaid, 10)) (List.mem_of_getElem? (i := 0) rfl)) rfl
theorem cd_X1_runAwayBy : Cond.code yX1_runAwayBy cX1_runAwayBy 4 (some .int) ∈ wsG := inG (inB3 (List.mem_of_getElem? (i := 206) rfl)) rfl
theorem im_X1_runAwayBy : Cond.instanceMethod yX1_runAwayBy ∈ wsG := inG (inB3 (List.mem_of_getElem? (i := 205) rfl)) rfl
theorem se_X1_runAwayBy : Cond.selects (yX1_runAwayBy).cls yX1_runAwayBy yX1_runAwayBy ∈ wsG := inG (inS5 (q := (yX1_runAwayBy, 10)) (List.mem_of_getElem? (i := 0) rfl)) rfl
theorem cd_X2_init : Cond.code yX2_init cX2_init 1 none ∈ wsG := inG (inB1 (List.mem_of_getElem? (i := 211) rfl)) rfl
theorem im_X2_init : Cond.instanceMethod yX2_init ∈ wsG := inG (inB1 (List.mem_of_getElem? (i := 210) rfl)) rfl
theorem cd_X2_clear : Cond.code yX2_clear cX2_clear 1 none ∈ wsG := inG (inB2 (List.mem_of_getElem? (i := 73) rfl)) rfl
theorem im_X2_clear : Cond.instanceMethod yX2_clear ∈ wsG := inG (inB2 (List.mem_of_getElem? (i := 72) rfl)) rfl
theorem se_X2_clear : Cond.selects (yX2_clear).cls yX2_clear yX2_clear ∈ wsG := inG (inS1 (q := (yX2_clear, 4)) (List.mem_of_getElem? (i := 2) rfl)) rfl
theorem cd_X2_note : Cond.code yX2_note cX2_note 3 none ∈ wsG := inG (inB3 (List.mem_of_getElem? (i := 160) rfl)) rfl
theorem im_X2_note : Cond.instanceMethod yX2_note ∈ wsG := inG (inB3 (List.mem_of_getElem? (i := 159) rfl)) rfl
theorem se_X2_note : Cond.selects (yX2_note).cls yX2_note yX2_note ∈ wsG := inG (inS4 (q := (yX2_note, 4)) (List.mem_of_getElem? (i := 10) rfl)) rfl
theorem cd_X2_close : Cond.code yX2_close cX2_close 3 (some .int) ∈ wsG := inG (inB3 (List.mem_of_getElem? (i := 165) rfl)) rfl
theorem im_X2_close : Cond.instanceMethod yX2_close ∈ wsG := inG (inB3 (List.mem_of_getElem? (i := 164) rfl)) rfl
theorem se_X2_close : Cond.selects (yX2_close).cls yX2_close yX2_close ∈ wsG := inG (inS4 (q := (yX2_close, 4)) (List.mem_of_getElem? (i := 11) rfl)) rfl
theorem cd_X2_compare : Cond.code yX2_compare cX2_compare 6 none ∈ wsG := inG (inB3 (List.mem_of_getElem? (i := 177) rfl)) rfl
theorem im_X2_compare : Cond.instanceMethod yX2_compare ∈ wsG := inG (inB3 (List.mem_of_getElem? (i := 176) rfl)) rfl
theorem se_X2_compare : Cond.selects (yX2_compare).cls yX2_compare yX2_compare ∈ wsG := inG (inS4 (q := (yX2_compare, 4)) (List.mem_of_getElem? (i := 12) rfl)) rfl
theorem cd_X2_goBy : Cond.code yX2_goBy cX2_goBy 4 none ∈ wsG := inG (inB3 (List.mem_of_getElem? (i := 181) rfl)) rfl
theorem im_X2_goBy : Cond.instanceMethod yX2_goBy ∈ wsG := inG (inB3 (List.mem_of_getElem? (i := 180) rfl)) rfl
theorem se_X2_goBy : Cond.selects (yX2_goBy).cls yX2_goBy yX2_goBy ∈ wsG := inG (inS4 (q := (yX2_goBy, 4)) (List.mem_of_getElem? (i := 13) rfl)) rfl
theorem cd_X2_fits : Cond.code yX2_fits cX2_fits 6 (some .boolean) ∈ wsG := inG (inB3 (List.mem_of_getElem? (i := 189) rfl)) rfl
theorem im_X2_fits : Cond.instanceMethod yX2_fits ∈ wsG := inG (inB3 (List.mem_of_getElem? (i := 188) rfl)) rfl
theorem se_X2_fits : Cond.selects (yX2_fits).cls yX2_fits yX2_fits ∈ wsG := inG (inS4 (q := (yX2_fits, 4)) (List.mem_of_getElem? (i := 14) rfl)) rfl
theorem cd_X3_init : Cond.code yX3_init cX3_init 3 none ∈ wsG := inG (inB1 (List.mem_of_getElem? (i := 231) rfl)) rfl
theorem im_X3_init : Cond.instanceMethod yX3_init ∈ wsG := inG (inB1 (List.mem_of_getElem? (i := 230) rfl)) rfl
theorem cd_X3_forget : Cond.code yX3_forget cX3_forget 1 none ∈ wsG := inG (inB2 (List.mem_of_getElem? (i := 69) rfl)) rfl
theorem im_X3_forget : Cond.instanceMethod yX3_forget ∈ wsG := inG (inB2 (List.mem_of_getElem? (i := 68) rfl)) rfl
theorem se_X3_forget : Cond.selects (yX3_forget).cls yX3_forget yX3_forget ∈ wsG := inG (inS1 (q := (yX3_forget, 7)) (List.mem_of_getElem? (i := 1) rfl)) rfl
theorem cd_X3_seek : Cond.code yX3_seek cX3_seek 3 none ∈ wsG := inG (inB3 (List.mem_of_getElem? (i := 43) rfl)) rfl
theorem im_X3_seek : Cond.instanceMethod yX3_seek ∈ wsG := inG (inB3 (List.mem_of_getElem? (i := 42) rfl)) rfl
theorem se_X3_seek : Cond.selects (yX3_seek).cls yX3_seek yX3_seek ∈ wsG := inG (inS3 (q := (yX3_seek, 7)) (List.mem_of_getElem? (i := 5) rfl)) rfl
theorem cd_X3_noteWords : Cond.code yX3_noteWords cX3_noteWords 6 none ∈ wsG := inG (inB3 (List.mem_of_getElem? (i := 67) rfl)) rfl
theorem im_X3_noteWords : Cond.instanceMethod yX3_noteWords ∈ wsG := inG (inB3 (List.mem_of_getElem? (i := 66) rfl)) rfl
theorem se_X3_noteWords : Cond.selects (yX3_noteWords).cls yX3_noteWords yX3_noteWords ∈ wsG := inG (inS3 (q := (yX3_noteWords, 7)) (List.mem_of_getElem? (i := 10) rfl)) rfl
theorem cd_X3_packedOrder : Cond.code yX3_packedOrder cX3_packedOrder 3 (some .int) ∈ wsG := inG (inB3 (List.mem_of_getElem? (i := 62) rfl)) rfl
theorem im_X3_packedOrder : Cond.instanceMethod yX3_packedOrder ∈ wsG := inG (inB3 (List.mem_of_getElem? (i := 61) rfl)) rfl
theorem se_X3_packedOrder : Cond.selects (yX3_packedOrder).cls yX3_packedOrder yX3_packedOrder ∈ wsG := inG (inS3 (q := (yX3_packedOrder, 7)) (List.mem_of_getElem? (i := 9) rfl)) rfl
theorem cd_X3_isFound : Cond.code yX3_isFound cX3_isFound 3 (some .boolean) ∈ wsG := inG (inB3 (List.mem_of_getElem? (i := 81) rfl)) rfl
theorem im_X3_isFound : Cond.instanceMethod yX3_isFound ∈ wsG := inG (inB3 (List.mem_of_getElem? (i := 80) rfl)) rfl
theorem se_X3_isFound : Cond.selects (yX3_isFound).cls yX3_isFound yX3_isFound ∈ wsG := inG (inS3 (q := (yX3_isFound, 7)) (List.mem_of_getElem? (i := 12) rfl)) rfl
theorem cd_X3_changesFor : Cond.code yX3_changesFor cX3_changesFor 3 (some .int) ∈ wsG := inG (inB3 (List.mem_of_getElem? (i := 85) rfl)) rfl
theorem im_X3_changesFor : Cond.instanceMethod yX3_changesFor ∈ wsG := inG (inB3 (List.mem_of_getElem? (i := 84) rfl)) rfl
theorem se_X3_changesFor : Cond.selects (yX3_changesFor).cls yX3_changesFor yX3_changesFor ∈ wsG := inG (inS3 (q := (yX3_changesFor, 7)) (List.mem_of_getElem? (i := 13) rfl)) rfl
theorem cd_X3_whoFor : Cond.code yX3_whoFor cX3_whoFor 5 (some .int) ∈ wsG := inG (inB3 (List.mem_of_getElem? (i := 90) rfl)) rfl
theorem im_X3_whoFor : Cond.instanceMethod yX3_whoFor ∈ wsG := inG (inB3 (List.mem_of_getElem? (i := 89) rfl)) rfl
theorem se_X3_whoFor : Cond.selects (yX3_whoFor).cls yX3_whoFor yX3_whoFor ∈ wsG := inG (inS3 (q := (yX3_whoFor, 7)) (List.mem_of_getElem? (i := 14) rfl)) rfl
theorem cd_X4_init : Cond.code yX4_init cX4_init 1 none ∈ wsG := inG (inB1 (List.mem_of_getElem? (i := 43) rfl)) rfl
theorem im_X4_init : Cond.instanceMethod yX4_init ∈ wsG := inG (inB1 (List.mem_of_getElem? (i := 42) rfl)) rfl
theorem cd_X4_begin : Cond.code yX4_begin cX4_begin 3 none ∈ wsG := inG (inB4 (List.mem_of_getElem? (i := 41) rfl)) rfl
theorem im_X4_begin : Cond.instanceMethod yX4_begin ∈ wsG := inG (inB4 (List.mem_of_getElem? (i := 40) rfl)) rfl
theorem se_X4_begin : Cond.selects (yX4_begin).cls yX4_begin yX4_begin ∈ wsG := inG (inS5 (q := (yX4_begin, 9)) (List.mem_of_getElem? (i := 9) rfl)) rfl
theorem cd_X4_addSpeaker : Cond.code yX4_addSpeaker cX4_addSpeaker 2 none ∈ wsG := inG (inB4 (List.mem_of_getElem? (i := 53) rfl)) rfl
theorem im_X4_addSpeaker : Cond.instanceMethod yX4_addSpeaker ∈ wsG := inG (inB4 (List.mem_of_getElem? (i := 52) rfl)) rfl
theorem se_X4_addSpeaker : Cond.selects (yX4_addSpeaker).cls yX4_addSpeaker yX4_addSpeaker ∈ wsG := inG (inS5 (q := (yX4_addSpeaker, 9)) (List.mem_of_getElem? (i := 12) rfl)) rfl
theorem cd_X4_addWord : Cond.code yX4_addWord cX4_addWord 7 none ∈ wsG := inG (inB4 (List.mem_of_getElem? (i := 62) rfl)) rfl
theorem im_X4_addWord : Cond.instanceMethod yX4_addWord ∈ wsG := inG (inB4 (List.mem_of_getElem? (i := 61) rfl)) rfl
theorem se_X4_addWord : Cond.selects (yX4_addWord).cls yX4_addWord yX4_addWord ∈ wsG := inG (inS5 (q := (yX4_addWord, 9)) (List.mem_of_getElem? (i := 14) rfl)) rfl
theorem cd_X4_become : Cond.code yX4_become cX4_become 4 none ∈ wsG := inG (inB4 (List.mem_of_getElem? (i := 66) rfl)) rfl
theorem im_X4_become : Cond.instanceMethod yX4_become ∈ wsG := inG (inB4 (List.mem_of_getElem? (i := 65) rfl)) rfl
theorem se_X4_become : Cond.selects (yX4_become).cls yX4_become yX4_become ∈ wsG := inG (inS5 (q := (yX4_become, 9)) (List.mem_of_getElem? (i := 15) rfl)) rfl
theorem cd_X4_gainOf : Cond.code yX4_gainOf cX4_gainOf 8 (some .long) ∈ wsG := inG (inB4 (List.mem_of_getElem? (i := 82) rfl)) rfl
theorem im_X4_gainOf : Cond.instanceMethod yX4_gainOf ∈ wsG := inG (inB4 (List.mem_of_getElem? (i := 81) rfl)) rfl
theorem se_X4_gainOf : Cond.selects (yX4_gainOf).cls yX4_gainOf yX4_gainOf ∈ wsG := inG (inS6 (q := (yX4_gainOf, 9)) (List.mem_of_getElem? (i := 2) rfl)) rfl
theorem cd_X4_has : Cond.code yX4_has cX4_has 2 (some .boolean) ∈ wsG := inG (inB2 (List.mem_of_getElem? (i := 81) rfl)) rfl
theorem im_X4_has : Cond.instanceMethod yX4_has ∈ wsG := inG (inB2 (List.mem_of_getElem? (i := 80) rfl)) rfl
theorem se_X4_has : Cond.selects (yX4_has).cls yX4_has yX4_has ∈ wsG := inG (inS1 (q := (yX4_has, 9)) (List.mem_of_getElem? (i := 3) rfl)) rfl
theorem cd_X4_hasWord : Cond.code yX4_hasWord cX4_hasWord 3 (some .boolean) ∈ wsG := inG (inB3 (List.mem_of_getElem? (i := 38) rfl)) rfl
theorem im_X4_hasWord : Cond.instanceMethod yX4_hasWord ∈ wsG := inG (inB3 (List.mem_of_getElem? (i := 37) rfl)) rfl
theorem se_X4_hasWord : Cond.selects (yX4_hasWord).cls yX4_hasWord yX4_hasWord ∈ wsG := inG (inS3 (q := (yX4_hasWord, 9)) (List.mem_of_getElem? (i := 4) rfl)) rfl
theorem cd_X4_placeOfWord : Cond.code yX4_placeOfWord cX4_placeOfWord 2 (some .int) ∈ wsG := inG (inB2 (List.mem_of_getElem? (i := 174) rfl)) rfl
theorem sm_X4_placeOfWord : Cond.static yX4_placeOfWord ∈ wsG := inG (inB2 (List.mem_of_getElem? (i := 173) rfl)) rfl
theorem cd_X4_kindOf : Cond.code yX4_kindOf cX4_kindOf 2 (some .int) ∈ wsG := inG (inB2 (List.mem_of_getElem? (i := 147) rfl)) rfl
theorem im_X4_kindOf : Cond.instanceMethod yX4_kindOf ∈ wsG := inG (inB2 (List.mem_of_getElem? (i := 146) rfl)) rfl
theorem se_X4_kindOf : Cond.selects (yX4_kindOf).cls yX4_kindOf yX4_kindOf ∈ wsG := inG (inS2 (q := (yX4_kindOf, 9)) (List.mem_of_getElem? (i := 0) rfl)) rfl
theorem cd_X4_wordsOf : Cond.code yX4_wordsOf cX4_wordsOf 2 (some .int) ∈ wsG := inG (inB2 (List.mem_of_getElem? (i := 152) rfl)) rfl
theorem im_X4_wordsOf : Cond.instanceMethod yX4_wordsOf ∈ wsG := inG (inB2 (List.mem_of_getElem? (i := 151) rfl)) rfl
theorem se_X4_wordsOf : Cond.selects (yX4_wordsOf).cls yX4_wordsOf yX4_wordsOf ∈ wsG := inG (inS2 (q := (yX4_wordsOf, 9)) (List.mem_of_getElem? (i := 1) rfl)) rfl
theorem cd_X4_lengthOf : Cond.code yX4_lengthOf cX4_lengthOf 3 (some .int) ∈ wsG := inG (inB2 (List.mem_of_getElem? (i := 171) rfl)) rfl
theorem im_X4_lengthOf : Cond.instanceMethod yX4_lengthOf ∈ wsG := inG (inB2 (List.mem_of_getElem? (i := 170) rfl)) rfl
theorem se_X4_lengthOf : Cond.selects (yX4_lengthOf).cls yX4_lengthOf yX4_lengthOf ∈ wsG := inG (inS2 (q := (yX4_lengthOf, 9)) (List.mem_of_getElem? (i := 5) rfl)) rfl
theorem cd_X4_ownOf : Cond.code yX4_ownOf cX4_ownOf 3 (some .int) ∈ wsG := inG (inB4 (List.mem_of_getElem? (i := 73) rfl)) rfl
theorem im_X4_ownOf : Cond.instanceMethod yX4_ownOf ∈ wsG := inG (inB4 (List.mem_of_getElem? (i := 72) rfl)) rfl
theorem se_X4_ownOf : Cond.selects (yX4_ownOf).cls yX4_ownOf yX4_ownOf ∈ wsG := inG (inS6 (q := (yX4_ownOf, 9)) (List.mem_of_getElem? (i := 0) rfl)) rfl
theorem cd_X4_othersOf : Cond.code yX4_othersOf cX4_othersOf 3 (some .int) ∈ wsG := inG (inB4 (List.mem_of_getElem? (i := 77) rfl)) rfl
theorem im_X4_othersOf : Cond.instanceMethod yX4_othersOf ∈ wsG := inG (inB4 (List.mem_of_getElem? (i := 76) rfl)) rfl
theorem se_X4_othersOf : Cond.selects (yX4_othersOf).cls yX4_othersOf yX4_othersOf ∈ wsG := inG (inS6 (q := (yX4_othersOf, 9)) (List.mem_of_getElem? (i := 1) rfl)) rfl
theorem cd_X4_gainBy : Cond.code yX4_gainBy cX4_gainBy 3 (some .long) ∈ wsG := inG (inB2 (List.mem_of_getElem? (i := 178) rfl)) rfl
theorem im_X4_gainBy : Cond.instanceMethod yX4_gainBy ∈ wsG := inG (inB2 (List.mem_of_getElem? (i := 177) rfl)) rfl
theorem se_X4_gainBy : Cond.selects (yX4_gainBy).cls yX4_gainBy yX4_gainBy ∈ wsG := inG (inS2 (q := (yX4_gainBy, 9)) (List.mem_of_getElem? (i := 6) rfl)) rfl
theorem cd_X4_longestWithin : Cond.code yX4_longestWithin cX4_longestWithin 7 (some .int) ∈ wsG := inG (inB3 (List.mem_of_getElem? (i := 24) rfl)) rfl
theorem im_X4_longestWithin : Cond.instanceMethod yX4_longestWithin ∈ wsG := inG (inB3 (List.mem_of_getElem? (i := 23) rfl)) rfl
theorem se_X4_longestWithin : Cond.selects (yX4_longestWithin).cls yX4_longestWithin yX4_longestWithin ∈ wsG := inG (inS3 (q := (yX4_longestWithin, 9)) (List.mem_of_getElem? (i := 3) rfl)) rfl
theorem cd_X5_init : Cond.code yX5_init cX5_init 2 none ∈ wsG := inG (inB1 (List.mem_of_getElem? (i := 134) rfl)) rfl
theorem im_X5_init : Cond.instanceMethod yX5_init ∈ wsG := inG (inB1 (List.mem_of_getElem? (i := 133) rfl)) rfl
theorem cd_X5_makeForEach : Cond.code yX5_makeForEach cX5_makeForEach 3 none ∈ wsG := inG (inB2 (List.mem_of_getElem? (i := 117) rfl)) rfl
theorem im_X5_makeForEach : Cond.instanceMethod yX5_makeForEach ∈ wsG := inG (inB2 (List.mem_of_getElem? (i := 116) rfl)) rfl
theorem se_X5_makeForEach : Cond.selects (yX5_makeForEach).cls yX5_makeForEach yX5_makeForEach ∈ wsG := inG (inS1 (q := (yX5_makeForEach, 9)) (List.mem_of_getElem? (i := 10) rfl)) rfl
theorem cd_X5_makeForFreeDay : Cond.code yX5_makeForFreeDay cX5_makeForFreeDay 1 none ∈ wsG := inG (inB3 (List.mem_of_getElem? (i := 53) rfl)) rfl
theorem im_X5_makeForFreeDay : Cond.instanceMethod yX5_makeForFreeDay ∈ wsG := inG (inB3 (List.mem_of_getElem? (i := 52) rfl)) rfl
theorem se_X5_makeForFreeDay : Cond.selects (yX5_makeForFreeDay).cls yX5_makeForFreeDay yX5_makeForFreeDay ∈ wsG := inG (inS3 (q := (yX5_makeForFreeDay, 9)) (List.mem_of_getElem? (i := 7) rfl)) rfl
theorem cd_X5_makeForAll : Cond.code yX5_makeForAll cX5_makeForAll 1 none ∈ wsG := inG (inB2 (List.mem_of_getElem? (i := 236) rfl)) rfl
theorem im_X5_makeForAll : Cond.instanceMethod yX5_makeForAll ∈ wsG := inG (inB2 (List.mem_of_getElem? (i := 235) rfl)) rfl
theorem se_X5_makeForAll : Cond.selects (yX5_makeForAll).cls yX5_makeForAll yX5_makeForAll ∈ wsG := inG (inS2 (q := (yX5_makeForAll, 9)) (List.mem_of_getElem? (i := 14) rfl)) rfl
theorem cd_X5_beginMaking : Cond.code yX5_beginMaking cX5_beginMaking 1 none ∈ wsG := inG (inB2 (List.mem_of_getElem? (i := 121) rfl)) rfl
theorem im_X5_beginMaking : Cond.instanceMethod yX5_beginMaking ∈ wsG := inG (inB2 (List.mem_of_getElem? (i := 120) rfl)) rfl
theorem se_X5_beginMaking : Cond.selects (yX5_beginMaking).cls yX5_beginMaking yX5_beginMaking ∈ wsG := inG (inS1 (q := (yX5_beginMaking, 9)) (List.mem_of_getElem? (i := 11) rfl)) rfl
theorem cd_X5_openWhatIsReached : Cond.code yX5_openWhatIsReached cX5_openWhatIsReached 3 none ∈ wsG := inG (inB3 (List.mem_of_getElem? (i := 0) rfl)) rfl
theorem im_X5_openWhatIsReached : Cond.instanceMethod yX5_openWhatIsReached ∈ wsG := inG (inB2 (List.mem_of_getElem? (i := 239) rfl)) rfl
theorem se_X5_openWhatIsReached : Cond.selects (yX5_openWhatIsReached).cls yX5_openWhatIsReached yX5_openWhatIsReached ∈ wsG := inG (inS2 (q := (yX5_openWhatIsReached, 9)) (List.mem_of_getElem? (i := 15) rfl)) rfl
theorem cd_X5_openBehind : Cond.code yX5_openBehind cX5_openBehind 6 none ∈ wsG := inG (inB3 (List.mem_of_getElem? (i := 5) rfl)) rfl
theorem im_X5_openBehind : Cond.instanceMethod yX5_openBehind ∈ wsG := inG (inB3 (List.mem_of_getElem? (i := 4) rfl)) rfl
theorem se_X5_openBehind : Cond.selects (yX5_openBehind).cls yX5_openBehind yX5_openBehind ∈ wsG := inG (inS3 (q := (yX5_openBehind, 9)) (List.mem_of_getElem? (i := 0) rfl)) rfl
theorem cd_X5_openState : Cond.code yX5_openState cX5_openState 4 none ∈ wsG := inG (inB2 (List.mem_of_getElem? (i := 126) rfl)) rfl
theorem im_X5_openState : Cond.instanceMethod yX5_openState ∈ wsG := inG (inB2 (List.mem_of_getElem? (i := 125) rfl)) rfl
theorem se_X5_openState : Cond.selects (yX5_openState).cls yX5_openState yX5_openState ∈ wsG := inG (inS1 (q := (yX5_openState, 9)) (List.mem_of_getElem? (i := 12) rfl)) rfl
theorem cd_X5_settleAll : Cond.code yX5_settleAll cX5_settleAll 4 none ∈ wsG := inG (inB2 (List.mem_of_getElem? (i := 135) rfl)) rfl
theorem im_X5_settleAll : Cond.instanceMethod yX5_settleAll ∈ wsG := inG (inB2 (List.mem_of_getElem? (i := 134) rfl)) rfl
theorem se_X5_settleAll : Cond.selects (yX5_settleAll).cls yX5_settleAll yX5_settleAll ∈ wsG := inG (inS1 (q := (yX5_settleAll, 9)) (List.mem_of_getElem? (i := 13) rfl)) rfl
theorem cd_X5_settle : Cond.code yX5_settle cX5_settle 18 none ∈ wsG := inG (inB2 (List.mem_of_getElem? (i := 139) rfl)) rfl
theorem im_X5_settle : Cond.instanceMethod yX5_settle ∈ wsG := inG (inB2 (List.mem_of_getElem? (i := 138) rfl)) rfl
theorem se_X5_settle : Cond.selects (yX5_settle).cls yX5_settle yX5_settle ∈ wsG := inG (inS1 (q := (yX5_settle, 9)) (List.mem_of_getElem? (i := 14) rfl)) rfl
theorem cd_X5_isRather : Cond.code yX5_isRather cX5_isRather 3 (some .boolean) ∈ wsG := inG (inB2 (List.mem_of_getElem? (i := 189) rfl)) rfl
theorem sm_X5_isRather : Cond.static yX5_isRather ∈ wsG := inG (inB2 (List.mem_of_getElem? (i := 188) rfl)) rfl
theorem cd_X5_worthsFrom : Cond.code yX5_worthsFrom cX5_worthsFrom 3 (some .long) ∈ wsG := inG (inB2 (List.mem_of_getElem? (i := 164) rfl)) rfl
theorem im_X5_worthsFrom : Cond.instanceMethod yX5_worthsFrom ∈ wsG := inG (inB2 (List.mem_of_getElem? (i := 163) rfl)) rfl
theorem se_X5_worthsFrom : Cond.selects (yX5_worthsFrom).cls yX5_worthsFrom yX5_worthsFrom ∈ wsG := inG (inS2 (q := (yX5_worthsFrom, 9)) (List.mem_of_getElem? (i := 4) rfl)) rfl
theorem cd_X5_wordAt : Cond.code yX5_wordAt cX5_wordAt 3 (some .int) ∈ wsG := inG (inB2 (List.mem_of_getElem? (i := 210) rfl)) rfl
theorem im_X5_wordAt : Cond.instanceMethod yX5_wordAt ∈ wsG := inG (inB2 (List.mem_of_getElem? (i := 209) rfl)) rfl
theorem se_X5_wordAt : Cond.selects (yX5_wordAt).cls yX5_wordAt yX5_wordAt ∈ wsG := inG (inS2 (q := (yX5_wordAt, 9)) (List.mem_of_getElem? (i := 10) rfl)) rfl
theorem cd_X5_stateOf : Cond.code yX5_stateOf cX5_stateOf 2 (some .int) ∈ wsG := inG (inB2 (List.mem_of_getElem? (i := 129) rfl)) rfl
theorem sm_X5_stateOf : Cond.static yX5_stateOf ∈ wsG := inG (inB2 (List.mem_of_getElem? (i := 128) rfl)) rfl
theorem cd_X6_init : Cond.code yX6_init cX6_init 3 none ∈ wsG := inG (inB1 (List.mem_of_getElem? (i := 84) rfl)) rfl
theorem im_X6_init : Cond.instanceMethod yX6_init ∈ wsG := inG (inB1 (List.mem_of_getElem? (i := 83) rfl)) rfl
theorem cd_X6_firstFault : Cond.code yX6_firstFault cX6_firstFault 4 (some .int) ∈ wsG := inG (inB4 (List.mem_of_getElem? (i := 16) rfl)) rfl
theorem im_X6_firstFault : Cond.instanceMethod yX6_firstFault ∈ wsG := inG (inB4 (List.mem_of_getElem? (i := 15) rfl)) rfl
theorem se_X6_firstFault : Cond.selects (yX6_firstFault).cls yX6_firstFault yX6_firstFault ∈ wsG := inG (inS5 (q := (yX6_firstFault, 6)) (List.mem_of_getElem? (i := 3) rfl)) rfl
theorem cd_X6_readJar : Cond.code yX6_readJar cX6_readJar 3 (some .boolean) ∈ wsG := inG (inB4 (List.mem_of_getElem? (i := 20) rfl)) rfl
theorem im_X6_readJar : Cond.instanceMethod yX6_readJar ∈ wsG := inG (inB4 (List.mem_of_getElem? (i := 19) rfl)) rfl
theorem se_X6_readJar : Cond.selects (yX6_readJar).cls yX6_readJar yX6_readJar ∈ wsG := inG (inS5 (q := (yX6_readJar, 6)) (List.mem_of_getElem? (i := 4) rfl)) rfl
theorem cd_X6_readSpeaker : Cond.code yX6_readSpeaker cX6_readSpeaker 3 (some .boolean) ∈ wsG := inG (inB4 (List.mem_of_getElem? (i := 45) rfl)) rfl
theorem im_X6_readSpeaker : Cond.instanceMethod yX6_readSpeaker ∈ wsG := inG (inB4 (List.mem_of_getElem? (i := 44) rfl)) rfl
theorem se_X6_readSpeaker : Cond.selects (yX6_readSpeaker).cls yX6_readSpeaker yX6_readSpeaker ∈ wsG := inG (inS5 (q := (yX6_readSpeaker, 6)) (List.mem_of_getElem? (i := 10) rfl)) rfl
theorem cd_X6_kindOfSign : Cond.code yX6_kindOfSign cX6_kindOfSign 1 (some .int) ∈ wsG := inG (inB4 (List.mem_of_getElem? (i := 49) rfl)) rfl
theorem im_X6_kindOfSign : Cond.instanceMethod yX6_kindOfSign ∈ wsG := inG (inB4 (List.mem_of_getElem? (i := 48) rfl)) rfl
theorem se_X6_kindOfSign : Cond.selects (yX6_kindOfSign).cls yX6_kindOfSign yX6_kindOfSign ∈ wsG := inG (inS5 (q := (yX6_kindOfSign, 6)) (List.mem_of_getElem? (i := 11) rfl)) rfl
theorem cd_X6_readWord : Cond.code yX6_readWord cX6_readWord 4 (some .boolean) ∈ wsG := inG (inB4 (List.mem_of_getElem? (i := 58) rfl)) rfl
theorem im_X6_readWord : Cond.instanceMethod yX6_readWord ∈ wsG := inG (inB4 (List.mem_of_getElem? (i := 57) rfl)) rfl
theorem se_X6_readWord : Cond.selects (yX6_readWord).cls yX6_readWord yX6_readWord ∈ wsG := inG (inS5 (q := (yX6_readWord, 6)) (List.mem_of_getElem? (i := 13) rfl)) rfl
theorem cd_X6_readNumber : Cond.code yX6_readNumber cX6_readNumber 6 (some .int) ∈ wsG := inG (inB4 (List.mem_of_getElem? (i := 33) rfl)) rfl
theorem im_X6_readNumber : Cond.instanceMethod yX6_readNumber ∈ wsG := inG (inB4 (List.mem_of_getElem? (i := 32) rfl)) rfl
theorem se_X6_readNumber : Cond.selects (yX6_readNumber).cls yX6_readNumber yX6_readNumber ∈ wsG := inG (inS5 (q := (yX6_readNumber, 6)) (List.mem_of_getElem? (i := 7) rfl)) rfl
theorem cd_X6_readDigit : Cond.code yX6_readDigit cX6_readDigit 2 (some .int) ∈ wsG := inG (inB4 (List.mem_of_getElem? (i := 37) rfl)) rfl
theorem im_X6_readDigit : Cond.instanceMethod yX6_readDigit ∈ wsG := inG (inB4 (List.mem_of_getElem? (i := 36) rfl)) rfl
theorem se_X6_readDigit : Cond.selects (yX6_readDigit).cls yX6_readDigit yX6_readDigit ∈ wsG := inG (inS5 (q := (yX6_readDigit, 6)) (List.mem_of_getElem? (i := 8) rfl)) rfl
theorem cd_X6_readSign : Cond.code yX6_readSign cX6_readSign 2 (some .boolean) ∈ wsG := inG (inB4 (List.mem_of_getElem? (i := 24) rfl)) rfl
theorem im_X6_readSign : Cond.instanceMethod yX6_readSign ∈ wsG := inG (inB4 (List.mem_of_getElem? (i := 23) rfl)) rfl
theorem se_X6_readSign : Cond.selects (yX6_readSign).cls yX6_readSign yX6_readSign ∈ wsG := inG (inS5 (q := (yX6_readSign, 6)) (List.mem_of_getElem? (i := 5) rfl)) rfl
theorem cd_X6_isNext : Cond.code yX6_isNext cX6_isNext 2 (some .boolean) ∈ wsG := inG (inB4 (List.mem_of_getElem? (i := 28) rfl)) rfl
theorem im_X6_isNext : Cond.instanceMethod yX6_isNext ∈ wsG := inG (inB4 (List.mem_of_getElem? (i := 27) rfl)) rfl
theorem se_X6_isNext : Cond.selects (yX6_isNext).cls yX6_isNext yX6_isNext ∈ wsG := inG (inS5 (q := (yX6_isNext, 6)) (List.mem_of_getElem? (i := 6) rfl)) rfl
theorem cd_X7_init : Cond.code yX7_init cX7_init 2 none ∈ wsG := inG (inB1 (List.mem_of_getElem? (i := 22) rfl)) rfl
theorem im_X7_init : Cond.instanceMethod yX7_init ∈ wsG := inG (inB1 (List.mem_of_getElem? (i := 21) rfl)) rfl
theorem cd_X7_isSheet : Cond.code yX7_isSheet cX7_isSheet 1 (some .boolean) ∈ wsG := inG (inB3 (List.mem_of_getElem? (i := 120) rfl)) rfl
theorem sm_X7_isSheet : Cond.static yX7_isSheet ∈ wsG := inG (inB3 (List.mem_of_getElem? (i := 119) rfl)) rfl
theorem cd_X7_isLane : Cond.code yX7_isLane cX7_isLane 1 (some .boolean) ∈ wsG := inG (inB3 (List.mem_of_getElem? (i := 123) rfl)) rfl
theorem sm_X7_isLane : Cond.static yX7_isLane ∈ wsG := inG (inB3 (List.mem_of_getElem? (i := 122) rfl)) rfl
theorem cd_X7_laneOf : Cond.code yX7_laneOf cX7_laneOf 2 (some .int) ∈ wsG := inG (inB3 (List.mem_of_getElem? (i := 131) rfl)) rfl
theorem im_X7_laneOf : Cond.instanceMethod yX7_laneOf ∈ wsG := inG (inB3 (List.mem_of_getElem? (i := 130) rfl)) rfl
theorem se_X7_laneOf : Cond.selects (yX7_laneOf).cls yX7_laneOf yX7_laneOf ∈ wsG := inG (inS4 (q := (yX7_laneOf, 3)) (List.mem_of_getElem? (i := 4) rfl)) rfl
theorem cd_X7_sizeOf : Cond.code yX7_sizeOf cX7_sizeOf 2 (some .int) ∈ wsG := inG (inB3 (List.mem_of_getElem? (i := 140) rfl)) rfl
theorem im_X7_sizeOf : Cond.instanceMethod yX7_sizeOf ∈ wsG := inG (inB3 (List.mem_of_getElem? (i := 139) rfl)) rfl
theorem se_X7_sizeOf : Cond.selects (yX7_sizeOf).cls yX7_sizeOf yX7_sizeOf ∈ wsG := inG (inS4 (q := (yX7_sizeOf, 3)) (List.mem_of_getElem? (i := 6) rfl)) rfl
theorem cd_X7_isEmpty : Cond.code yX7_isEmpty cX7_isEmpty 2 (some .boolean) ∈ wsG := inG (inB3 (List.mem_of_getElem? (i := 127) rfl)) rfl
theorem im_X7_isEmpty : Cond.instanceMethod yX7_isEmpty ∈ wsG := inG (inB3 (List.mem_of_getElem? (i := 126) rfl)) rfl
theorem se_X7_isEmpty : Cond.selects (yX7_isEmpty).cls yX7_isEmpty yX7_isEmpty ∈ wsG := inG (inS4 (q := (yX7_isEmpty, 3)) (List.mem_of_getElem? (i := 3) rfl)) rfl
theorem cd_X7_placeOf : Cond.code yX7_placeOf cX7_placeOf 2 (some .int) ∈ wsG := inG (inB3 (List.mem_of_getElem? (i := 155) rfl)) rfl
theorem sm_X7_placeOf : Cond.static yX7_placeOf ∈ wsG := inG (inB3 (List.mem_of_getElem? (i := 154) rfl)) rfl
theorem cd_X7_valueAt : Cond.code yX7_valueAt cX7_valueAt 3 (some .int) ∈ wsG := inG (inB3 (List.mem_of_getElem? (i := 152) rfl)) rfl
theorem im_X7_valueAt : Cond.instanceMethod yX7_valueAt ∈ wsG := inG (inB3 (List.mem_of_getElem? (i := 151) rfl)) rfl
theorem se_X7_valueAt : Cond.selects (yX7_valueAt).cls yX7_valueAt yX7_valueAt ∈ wsG := inG (inS4 (q := (yX7_valueAt, 3)) (List.mem_of_getElem? (i := 9) rfl)) rfl
theorem cd_X7_renew : Cond.code yX7_renew cX7_renew 5 none ∈ wsG := inG (inB3 (List.mem_of_getElem? (i := 219) rfl)) rfl
theorem im_X7_renew : Cond.instanceMethod yX7_renew ∈ wsG := inG (inB3 (List.mem_of_getElem? (i := 218) rfl)) rfl
theorem se_X7_renew : Cond.selects (yX7_renew).cls yX7_renew yX7_renew ∈ wsG := inG (inS5 (q := (yX7_renew, 3)) (List.mem_of_getElem? (i := 1) rfl)) rfl
theorem cd_X7_store : Cond.code yX7_store cX7_store 4 none ∈ wsG := inG (inB3 (List.mem_of_getElem? (i := 229) rfl)) rfl
theorem im_X7_store : Cond.instanceMethod yX7_store ∈ wsG := inG (inB3 (List.mem_of_getElem? (i := 228) rfl)) rfl
theorem se_X7_store : Cond.selects (yX7_store).cls yX7_store yX7_store ∈ wsG := inG (inS5 (q := (yX7_store, 3)) (List.mem_of_getElem? (i := 2) rfl)) rfl
theorem cd_X7_cutTo : Cond.code yX7_cutTo cX7_cutTo 2 (some .int) ∈ wsG := inG (inB3 (List.mem_of_getElem? (i := 232) rfl)) rfl
theorem sm_X7_cutTo : Cond.static yX7_cutTo ∈ wsG := inG (inB3 (List.mem_of_getElem? (i := 231) rfl)) rfl
theorem cd_X7_hasPart : Cond.code yX7_hasPart cX7_hasPart 4 (some .boolean) ∈ wsG := inG (inB3 (List.mem_of_getElem? (i := 136) rfl)) rfl
theorem im_X7_hasPart : Cond.instanceMethod yX7_hasPart ∈ wsG := inG (inB3 (List.mem_of_getElem? (i := 135) rfl)) rfl
theorem se_X7_hasPart : Cond.selects (yX7_hasPart).cls yX7_hasPart yX7_hasPart ∈ wsG := inG (inS4 (q := (yX7_hasPart, 3)) (List.mem_of_getElem? (i := 5) rfl)) rfl
theorem cd_X7_rowRefusal : Cond.code yX7_rowRefusal cX7_rowRefusal 3 (some .int) ∈ wsG := inG (inB3 (List.mem_of_getElem? (i := 117) rfl)) rfl
theorem im_X7_rowRefusal : Cond.instanceMethod yX7_rowRefusal ∈ wsG := inG (inB3 (List.mem_of_getElem? (i := 116) rfl)) rfl
theorem se_X7_rowRefusal : Cond.selects (yX7_rowRefusal).cls yX7_rowRefusal yX7_rowRefusal ∈ wsG := inG (inS4 (q := (yX7_rowRefusal, 3)) (List.mem_of_getElem? (i := 2) rfl)) rfl
theorem cd_X7_partRefusal : Cond.code yX7_partRefusal cX7_partRefusal 6 (some .int) ∈ wsG := inG (inB3 (List.mem_of_getElem? (i := 113) rfl)) rfl
theorem im_X7_partRefusal : Cond.instanceMethod yX7_partRefusal ∈ wsG := inG (inB3 (List.mem_of_getElem? (i := 112) rfl)) rfl
theorem se_X7_partRefusal : Cond.selects (yX7_partRefusal).cls yX7_partRefusal yX7_partRefusal ∈ wsG := inG (inS4 (q := (yX7_partRefusal, 3)) (List.mem_of_getElem? (i := 1) rfl)) rfl
theorem cd_X8_init : Cond.code yX8_init cX8_init 1 none ∈ wsG := inG (inB1 (List.mem_of_getElem? (i := 14) rfl)) rfl
theorem im_X8_init : Cond.instanceMethod yX8_init ∈ wsG := inG (inB1 (List.mem_of_getElem? (i := 13) rfl)) rfl
theorem cd_X8_at : Cond.code yX8_at cX8_at 2 (some .int) ∈ wsG := inG (inB2 (List.mem_of_getElem? (i := 92) rfl)) rfl
theorem sm_X8_at : Cond.static yX8_at ∈ wsG := inG (inB2 (List.mem_of_getElem? (i := 91) rfl)) rfl
theorem cd_X8_set : Cond.code yX8_set cX8_set 3 none ∈ wsG := inG (inB1 (List.mem_of_getElem? (i := 26) rfl)) rfl
theorem sm_X8_set : Cond.static yX8_set ∈ wsG := inG (inB1 (List.mem_of_getElem? (i := 25) rfl)) rfl
theorem cd_X8_longAt : Cond.code yX8_longAt cX8_longAt 2 (some .long) ∈ wsG := inG (inB2 (List.mem_of_getElem? (i := 167) rfl)) rfl
theorem sm_X8_longAt : Cond.static yX8_longAt ∈ wsG := inG (inB2 (List.mem_of_getElem? (i := 166) rfl)) rfl
theorem cd_X8_setLong : Cond.code yX8_setLong cX8_setLong 4 none ∈ wsG := inG (inB2 (List.mem_of_getElem? (i := 192) rfl)) rfl
theorem sm_X8_setLong : Cond.static yX8_setLong ∈ wsG := inG (inB2 (List.mem_of_getElem? (i := 191) rfl)) rfl
theorem cd_X8_worthIn : Cond.code yX8_worthIn cX8_worthIn 3 (some .int) ∈ wsG := inG (inB2 (List.mem_of_getElem? (i := 185) rfl)) rfl
theorem sm_X8_worthIn : Cond.static yX8_worthIn ∈ wsG := inG (inB2 (List.mem_of_getElem? (i := 184) rfl)) rfl
theorem cd_X8_worthToAll : Cond.code yX8_worthToAll cX8_worthToAll 4 (some .int) ∈ wsG := inG (inB2 (List.mem_of_getElem? (i := 182) rfl)) rfl
theorem sm_X8_worthToAll : Cond.static yX8_worthToAll ∈ wsG := inG (inB2 (List.mem_of_getElem? (i := 181) rfl)) rfl
theorem cd_X8_council : Cond.code yX8_council cX8_council 7 (some .int) ∈ wsG := inG (inB4 (List.mem_of_getElem? (i := 11) rfl)) rfl
theorem im_X8_council : Cond.instanceMethod yX8_council ∈ wsG := inG (inB4 (List.mem_of_getElem? (i := 9) rfl)) rfl
theorem se_X8_council : Cond.selects (yX8_council).cls yX8_council yX8_council ∈ wsG := inG (inB4 (List.mem_of_getElem? (i := 10) rfl)) rfl
theorem cd_X8_law : Cond.code yX8_law cX8_law 3 (some .int) ∈ wsG := inG (inB2 (List.mem_of_getElem? (i := 61) rfl)) rfl
theorem im_X8_law : Cond.instanceMethod yX8_law ∈ wsG := inG (inB2 (List.mem_of_getElem? (i := 59) rfl)) rfl
theorem se_X8_law : Cond.selects (yX8_law).cls yX8_law yX8_law ∈ wsG := inG (inB2 (List.mem_of_getElem? (i := 60) rfl)) rfl
theorem cd_X8_swap : Cond.code yX8_swap cX8_swap 3 (some .int) ∈ wsG := inG (inB2 (List.mem_of_getElem? (i := 77) rfl)) rfl
theorem im_X8_swap : Cond.instanceMethod yX8_swap ∈ wsG := inG (inB2 (List.mem_of_getElem? (i := 75) rfl)) rfl
theorem se_X8_swap : Cond.selects (yX8_swap).cls yX8_swap yX8_swap ∈ wsG := inG (inB2 (List.mem_of_getElem? (i := 76) rfl)) rfl
theorem cd_X8_forgetWhatWas : Cond.code yX8_forgetWhatWas cX8_forgetWhatWas 1 none ∈ wsG := inG (inB2 (List.mem_of_getElem? (i := 65) rfl)) rfl
theorem im_X8_forgetWhatWas : Cond.instanceMethod yX8_forgetWhatWas ∈ wsG := inG (inB2 (List.mem_of_getElem? (i := 64) rfl)) rfl
theorem se_X8_forgetWhatWas : Cond.selects (yX8_forgetWhatWas).cls yX8_forgetWhatWas yX8_forgetWhatWas ∈ wsG := inG (inS1 (q := (yX8_forgetWhatWas, 14)) (List.mem_of_getElem? (i := 0) rfl)) rfl
theorem cd_X8_areWords : Cond.code yX8_areWords cX8_areWords 6 (some .boolean) ∈ wsG := inG (inB3 (List.mem_of_getElem? (i := 148) rfl)) rfl
theorem im_X8_areWords : Cond.instanceMethod yX8_areWords ∈ wsG := inG (inB3 (List.mem_of_getElem? (i := 147) rfl)) rfl
theorem se_X8_areWords : Cond.selects (yX8_areWords).cls yX8_areWords yX8_areWords ∈ wsG := inG (inS4 (q := (yX8_areWords, 14)) (List.mem_of_getElem? (i := 8) rfl)) rfl
theorem cd_X8_choice : Cond.code yX8_choice cX8_choice 3 (some .int) ∈ wsG := inG (inB4 (List.mem_of_getElem? (i := 107) rfl)) rfl
theorem im_X8_choice : Cond.instanceMethod yX8_choice ∈ wsG := inG (inB4 (List.mem_of_getElem? (i := 105) rfl)) rfl
theorem se_X8_choice : Cond.selects (yX8_choice).cls yX8_choice yX8_choice ∈ wsG := inG (inB4 (List.mem_of_getElem? (i := 106) rfl)) rfl
theorem cd_X8_says : Cond.code yX8_says cX8_says 2 (some .int) ∈ wsG := inG (inB2 (List.mem_of_getElem? (i := 101) rfl)) rfl
theorem im_X8_says : Cond.instanceMethod yX8_says ∈ wsG := inG (inB2 (List.mem_of_getElem? (i := 99) rfl)) rfl
theorem se_X8_says : Cond.selects (yX8_says).cls yX8_says yX8_says ∈ wsG := inG (inB2 (List.mem_of_getElem? (i := 100) rfl)) rfl
theorem cd_X8_together : Cond.code yX8_together cX8_together 2 (some .int) ∈ wsG := inG (inB2 (List.mem_of_getElem? (i := 228) rfl)) rfl
theorem im_X8_together : Cond.instanceMethod yX8_together ∈ wsG := inG (inB2 (List.mem_of_getElem? (i := 226) rfl)) rfl
theorem se_X8_together : Cond.selects (yX8_together).cls yX8_together yX8_together ∈ wsG := inG (inB2 (List.mem_of_getElem? (i := 227) rfl)) rfl
theorem cd_X8_planAhead : Cond.code yX8_planAhead cX8_planAhead 1 none ∈ wsG := inG (inB2 (List.mem_of_getElem? (i := 113) rfl)) rfl
theorem im_X8_planAhead : Cond.instanceMethod yX8_planAhead ∈ wsG := inG (inB2 (List.mem_of_getElem? (i := 112) rfl)) rfl
theorem se_X8_planAhead : Cond.selects (yX8_planAhead).cls yX8_planAhead yX8_planAhead ∈ wsG := inG (inS1 (q := (yX8_planAhead, 14)) (List.mem_of_getElem? (i := 9) rfl)) rfl
theorem cd_X8_owed : Cond.code yX8_owed cX8_owed 5 (some .long) ∈ wsG := inG (inB3 (List.mem_of_getElem? (i := 10) rfl)) rfl
theorem im_X8_owed : Cond.instanceMethod yX8_owed ∈ wsG := inG (inB3 (List.mem_of_getElem? (i := 8) rfl)) rfl
theorem se_X8_owed : Cond.selects (yX8_owed).cls yX8_owed yX8_owed ∈ wsG := inG (inB3 (List.mem_of_getElem? (i := 9) rfl)) rfl
theorem cd_X8_bargain : Cond.code yX8_bargain cX8_bargain 4 (some .long) ∈ wsG := inG (inB3 (List.mem_of_getElem? (i := 30) rfl)) rfl
theorem im_X8_bargain : Cond.instanceMethod yX8_bargain ∈ wsG := inG (inB3 (List.mem_of_getElem? (i := 28) rfl)) rfl
theorem se_X8_bargain : Cond.selects (yX8_bargain).cls yX8_bargain yX8_bargain ∈ wsG := inG (inB3 (List.mem_of_getElem? (i := 29) rfl)) rfl
theorem cd_X8_areTwo : Cond.code yX8_areTwo cX8_areTwo 3 (some .boolean) ∈ wsG := inG (inB3 (List.mem_of_getElem? (i := 14) rfl)) rfl
theorem im_X8_areTwo : Cond.instanceMethod yX8_areTwo ∈ wsG := inG (inB3 (List.mem_of_getElem? (i := 13) rfl)) rfl
theorem se_X8_areTwo : Cond.selects (yX8_areTwo).cls yX8_areTwo yX8_areTwo ∈ wsG := inG (inS3 (q := (yX8_areTwo, 14)) (List.mem_of_getElem? (i := 1) rfl)) rfl
theorem cd_X8_motion : Cond.code yX8_motion cX8_motion 4 (some .int) ∈ wsG := inG (inB3 (List.mem_of_getElem? (i := 34) rfl)) rfl
theorem im_X8_motion : Cond.instanceMethod yX8_motion ∈ wsG := inG (inB3 (List.mem_of_getElem? (i := 32) rfl)) rfl
theorem se_X8_motion : Cond.selects (yX8_motion).cls yX8_motion yX8_motion ∈ wsG := inG (inB3 (List.mem_of_getElem? (i := 33) rfl)) rfl
theorem cd_X8_dry : Cond.code yX8_dry cX8_dry 5 (some .int) ∈ wsG := inG (inB3 (List.mem_of_getElem? (i := 94) rfl)) rfl
theorem im_X8_dry : Cond.instanceMethod yX8_dry ∈ wsG := inG (inB3 (List.mem_of_getElem? (i := 92) rfl)) rfl
theorem se_X8_dry : Cond.selects (yX8_dry).cls yX8_dry yX8_dry ∈ wsG := inG (inB3 (List.mem_of_getElem? (i := 93) rfl)) rfl
theorem cd_X8_canSilence : Cond.code yX8_canSilence cX8_canSilence 7 (some .boolean) ∈ wsG := inG (inB3 (List.mem_of_getElem? (i := 98) rfl)) rfl
theorem im_X8_canSilence : Cond.instanceMethod yX8_canSilence ∈ wsG := inG (inB3 (List.mem_of_getElem? (i := 97) rfl)) rfl
theorem se_X8_canSilence : Cond.selects (yX8_canSilence).cls yX8_canSilence yX8_canSilence ∈ wsG := inG (inS3 (q := (yX8_canSilence, 14)) (List.mem_of_getElem? (i := 15) rfl)) rfl
theorem cd_X8_day : Cond.code yX8_day cX8_day 8 (some .int) ∈ wsG := inG (inB3 (List.mem_of_getElem? (i := 108) rfl)) rfl
theorem im_X8_day : Cond.instanceMethod yX8_day ∈ wsG := inG (inB3 (List.mem_of_getElem? (i := 106) rfl)) rfl
theorem se_X8_day : Cond.selects (yX8_day).cls yX8_day yX8_day ∈ wsG := inG (inB3 (List.mem_of_getElem? (i := 107) rfl)) rfl
theorem cd_X8_back : Cond.code yX8_back cX8_back 2 (some .int) ∈ wsG := inG (inB3 (List.mem_of_getElem? (i := 169) rfl)) rfl
theorem im_X8_back : Cond.instanceMethod yX8_back ∈ wsG := inG (inB3 (List.mem_of_getElem? (i := 167) rfl)) rfl
theorem se_X8_back : Cond.selects (yX8_back).cls yX8_back yX8_back ∈ wsG := inG (inB3 (List.mem_of_getElem? (i := 168) rfl)) rfl
theorem cd_X8_guess : Cond.code yX8_guess cX8_guess 6 (some .int) ∈ wsG := inG (inB3 (List.mem_of_getElem? (i := 173) rfl)) rfl
theorem im_X8_guess : Cond.instanceMethod yX8_guess ∈ wsG := inG (inB3 (List.mem_of_getElem? (i := 171) rfl)) rfl
theorem se_X8_guess : Cond.selects (yX8_guess).cls yX8_guess yX8_guess ∈ wsG := inG (inB3 (List.mem_of_getElem? (i := 172) rfl)) rfl
theorem cd_X8_byLaw : Cond.code yX8_byLaw cX8_byLaw 6 (some .int) ∈ wsG := inG (inB3 (List.mem_of_getElem? (i := 193) rfl)) rfl
theorem im_X8_byLaw : Cond.instanceMethod yX8_byLaw ∈ wsG := inG (inB3 (List.mem_of_getElem? (i := 191) rfl)) rfl
theorem se_X8_byLaw : Cond.selects (yX8_byLaw).cls yX8_byLaw yX8_byLaw ∈ wsG := inG (inB3 (List.mem_of_getElem? (i := 192) rfl)) rfl
theorem cd_X8_worthUnder : Cond.code yX8_worthUnder cX8_worthUnder 2 (some .int) ∈ wsG := inG (inB3 (List.mem_of_getElem? (i := 197) rfl)) rfl
theorem im_X8_worthUnder : Cond.instanceMethod yX8_worthUnder ∈ wsG := inG (inB3 (List.mem_of_getElem? (i := 196) rfl)) rfl
theorem se_X8_worthUnder : Cond.selects (yX8_worthUnder).cls yX8_worthUnder yX8_worthUnder ∈ wsG := inG (inS4 (q := (yX8_worthUnder, 14)) (List.mem_of_getElem? (i := 15) rfl)) rfl
theorem cd_X8_share : Cond.code yX8_share cX8_share 6 (some .long) ∈ wsG := inG (inB3 (List.mem_of_getElem? (i := 202) rfl)) rfl
theorem im_X8_share : Cond.instanceMethod yX8_share ∈ wsG := inG (inB3 (List.mem_of_getElem? (i := 200) rfl)) rfl
theorem se_X8_share : Cond.selects (yX8_share).cls yX8_share yX8_share ∈ wsG := inG (inB3 (List.mem_of_getElem? (i := 201) rfl)) rfl
theorem cd_X8_commonPart : Cond.code yX8_commonPart cX8_commonPart 6 (some .int) ∈ wsG := inG (inB3 (List.mem_of_getElem? (i := 209) rfl)) rfl
theorem sm_X8_commonPart : Cond.static yX8_commonPart ∈ wsG := inG (inB3 (List.mem_of_getElem? (i := 208) rfl)) rfl
theorem cd_X8_sheet : Cond.code yX8_sheet cX8_sheet 4 (some .int) ∈ wsG := inG (inB3 (List.mem_of_getElem? (i := 213) rfl)) rfl
theorem im_X8_sheet : Cond.instanceMethod yX8_sheet ∈ wsG := inG (inB3 (List.mem_of_getElem? (i := 211) rfl)) rfl
theorem se_X8_sheet : Cond.selects (yX8_sheet).cls yX8_sheet yX8_sheet ∈ wsG := inG (inB3 (List.mem_of_getElem? (i := 212) rfl)) rfl
theorem cd_X8_put : Cond.code yX8_put cX8_put 4 (some .int) ∈ wsG := inG (inB3 (List.mem_of_getElem? (i := 223) rfl)) rfl
theorem im_X8_put : Cond.instanceMethod yX8_put ∈ wsG := inG (inB3 (List.mem_of_getElem? (i := 221) rfl)) rfl
theorem se_X8_put : Cond.selects (yX8_put).cls yX8_put yX8_put ∈ wsG := inG (inB3 (List.mem_of_getElem? (i := 222) rfl)) rfl
theorem cd_X8_many : Cond.code yX8_many cX8_many 2 (some .int) ∈ wsG := inG (inB3 (List.mem_of_getElem? (i := 236) rfl)) rfl
theorem im_X8_many : Cond.instanceMethod yX8_many ∈ wsG := inG (inB3 (List.mem_of_getElem? (i := 234) rfl)) rfl
theorem se_X8_many : Cond.selects (yX8_many).cls yX8_many yX8_many ∈ wsG := inG (inB3 (List.mem_of_getElem? (i := 235) rfl)) rfl
theorem cd_X8_told : Cond.code yX8_told cX8_told 3 (some .int) ∈ wsG := inG (inB3 (List.mem_of_getElem? (i := 144) rfl)) rfl
theorem im_X8_told : Cond.instanceMethod yX8_told ∈ wsG := inG (inB3 (List.mem_of_getElem? (i := 143) rfl)) rfl
theorem se_X8_told : Cond.selects (yX8_told).cls yX8_told yX8_told ∈ wsG := inG (inS4 (q := (yX8_told, 14)) (List.mem_of_getElem? (i := 7) rfl)) rfl
theorem cd_L_cell : Cond.code yL_cell cL_cell 2 (some .int) ∈ wsG := inG (inB3 (List.mem_of_getElem? (i := 239) rfl)) rfl
theorem sm_L_cell : Cond.static yL_cell ∈ wsG := inG (inB3 (List.mem_of_getElem? (i := 238) rfl)) rfl
theorem cd_L_low : Cond.code yL_low cL_low 2 (some .int) ∈ wsG := inG (inB4 (List.mem_of_getElem? (i := 3) rfl)) rfl
theorem sm_L_low : Cond.static yL_low ∈ wsG := inG (inB4 (List.mem_of_getElem? (i := 2) rfl)) rfl
theorem cd_L_lay : Cond.code yL_lay cL_lay 15 (some .int) ∈ wsG := inG (inB4 (List.mem_of_getElem? (i := 7) rfl)) rfl
theorem sm_L_lay : Cond.static yL_lay ∈ wsG := inG (inB4 (List.mem_of_getElem? (i := 6) rfl)) rfl
theorem cd_L_turns : Cond.code yL_turns cL_turns 1 (some .int) ∈ wsG := inG (inB4 (List.mem_of_getElem? (i := 91) rfl)) rfl
theorem sm_L_turns : Cond.static yL_turns ∈ wsG := inG (inB4 (List.mem_of_getElem? (i := 90) rfl)) rfl
theorem cd_L_who : Cond.code yL_who cL_who 2 (some .int) ∈ wsG := inG (inB4 (List.mem_of_getElem? (i := 94) rfl)) rfl
theorem sm_L_who : Cond.static yL_who ∈ wsG := inG (inB4 (List.mem_of_getElem? (i := 93) rfl)) rfl
theorem cd_L_ahead : Cond.code yL_ahead cL_ahead 4 (some .int) ∈ wsG := inG (inB4 (List.mem_of_getElem? (i := 100) rfl)) rfl
theorem sm_L_ahead : Cond.static yL_ahead ∈ wsG := inG (inB4 (List.mem_of_getElem? (i := 99) rfl)) rfl
theorem cd_L_day : Cond.code yL_day cL_day 11 (some (.array .int)) ∈ wsG := inG (inB4 (List.mem_of_getElem? (i := 97) rfl)) rfl
theorem sm_L_day : Cond.static yL_day ∈ wsG := inG (inB4 (List.mem_of_getElem? (i := 96) rfl)) rfl
theorem cd_L_read : Cond.code yL_read cL_read 8 (some .boolean) ∈ wsG := inG (inB4 (List.mem_of_getElem? (i := 103) rfl)) rfl
theorem sm_L_read : Cond.static yL_read ∈ wsG := inG (inB4 (List.mem_of_getElem? (i := 102) rfl)) rfl
theorem cd_L_said : Cond.code yL_said cL_said 5 (some .int) ∈ wsG := inG (inB4 (List.mem_of_getElem? (i := 117) rfl)) rfl
theorem sm_L_said : Cond.static yL_said ∈ wsG := inG (inB4 (List.mem_of_getElem? (i := 116) rfl)) rfl
theorem cd_L_from : Cond.code yL_from cL_from 14 (some (.array .int)) ∈ wsG := inG (inB4 (List.mem_of_getElem? (i := 120) rfl)) rfl
theorem sm_L_from : Cond.static yL_from ∈ wsG := inG (inB4 (List.mem_of_getElem? (i := 119) rfl)) rfl
theorem cd_L_start : Cond.code yL_start cL_start 1 (some .int) ∈ wsG := inG (inB4 (List.mem_of_getElem? (i := 114) rfl)) rfl
theorem sm_L_start : Cond.static yL_start ∈ wsG := inG (inB4 (List.mem_of_getElem? (i := 113) rfl)) rfl
theorem cd_L_free : Cond.code yL_free cL_free 4 (some (.array .int)) ∈ wsG := inG (inB4 (List.mem_of_getElem? (i := 111) rfl)) rfl
theorem sm_L_free : Cond.static yL_free ∈ wsG := inG (inB4 (List.mem_of_getElem? (i := 110) rfl)) rfl
theorem cd_L_all : Cond.code yL_all cL_all 4 (some .int) ∈ wsG := inG (inB4 (List.mem_of_getElem? (i := 123) rfl)) rfl
theorem sm_L_all : Cond.static yL_all ∈ wsG := inG (inB4 (List.mem_of_getElem? (i := 122) rfl)) rfl
theorem cd_L_says : Cond.code yL_says cL_says 6 (some .boolean) ∈ wsG := inG (inB4 (List.mem_of_getElem? (i := 126) rfl)) rfl
theorem sm_L_says : Cond.static yL_says ∈ wsG := inG (inB4 (List.mem_of_getElem? (i := 125) rfl)) rfl
theorem cd_L_but : Cond.code yL_but cL_but 13 (some (.array .int)) ∈ wsG := inG (inB4 (List.mem_of_getElem? (i := 129) rfl)) rfl
theorem sm_L_but : Cond.static yL_but ∈ wsG := inG (inB4 (List.mem_of_getElem? (i := 128) rfl)) rfl
