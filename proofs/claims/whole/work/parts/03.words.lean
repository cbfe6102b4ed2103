/-! every method's words: the tables' good words -/
def wsG : List Cond := lw_tbl.filter goodWord
theorem inG {w : Cond} (h : w ∈ lw_tbl) (hg : goodWord w = true) : w ∈ wsG := List.mem_filter.mpr ⟨h, hg⟩
theorem inG_tbl : ∀ w ∈ wsG, w ∈ lw_tbl := fun _ h => (List.mem_filter.mp h).1
theorem inT1 {w : Cond} (h : w ∈ tables_1_1) : w ∈ tables_1 := List.mem_append_left _ h
theorem inB1 {w : Cond} (h : w ∈ tables_1_1) : w ∈ lw_tbl := List.mem_append_right _ (inT1 h)
theorem inT2 {w : Cond} (h : w ∈ tables_1_2) : w ∈ tables_1 := List.mem_append_right _ (List.mem_append_left _ h)
theorem inB2 {w : Cond} (h : w ∈ tables_1_2) : w ∈ lw_tbl := List.mem_append_right _ (inT2 h)
theorem inT3 {w : Cond} (h : w ∈ tables_1_3) : w ∈ tables_1 := List.mem_append_right _ (List.mem_append_right _ (List.mem_append_left _ h))
theorem inB3 {w : Cond} (h : w ∈ tables_1_3) : w ∈ lw_tbl := List.mem_append_right _ (inT3 h)
theorem inT4 {w : Cond} (h : w ∈ tables_1_4) : w ∈ tables_1 := List.mem_append_right _ (List.mem_append_right _ (List.mem_append_right _ (List.mem_append_left _ h)))
theorem inB4 {w : Cond} (h : w ∈ tables_1_4) : w ∈ lw_tbl := List.mem_append_right _ (inT4 h)
theorem inT5 {w : Cond} (h : w ∈ tables_1_5) : w ∈ tables_1 := List.mem_append_right _ (List.mem_append_right _ (List.mem_append_right _ (List.mem_append_right _ (List.mem_append_left _ h))))
theorem inB5 {w : Cond} (h : w ∈ tables_1_5) : w ∈ lw_tbl := List.mem_append_right _ (inT5 h)
theorem inT6 {w : Cond} (h : w ∈ tables_1_6) : w ∈ tables_1 := List.mem_append_right _ (List.mem_append_right _ (List.mem_append_right _ (List.mem_append_right _ (List.mem_append_right _ (h)))))
theorem inB6 {w : Cond} (h : w ∈ tables_1_6) : w ∈ lw_tbl := List.mem_append_right _ (inT6 h)
theorem inS1 {q : MethodName × Nat} (h : q ∈ lw_privs_1) : Cond.selects q.1.cls q.1 q.1 ∈ lw_tbl := List.mem_append_left _ (List.mem_map.mpr ⟨q, List.mem_append_left _ h, rfl⟩)
theorem inS2 {q : MethodName × Nat} (h : q ∈ lw_privs_2) : Cond.selects q.1.cls q.1 q.1 ∈ lw_tbl := List.mem_append_left _ (List.mem_map.mpr ⟨q, List.mem_append_right _ (List.mem_append_left _ h), rfl⟩)
theorem inS3 {q : MethodName × Nat} (h : q ∈ lw_privs_3) : Cond.selects q.1.cls q.1 q.1 ∈ lw_tbl := List.mem_append_left _ (List.mem_map.mpr ⟨q, List.mem_append_right _ (List.mem_append_right _ (List.mem_append_left _ h)), rfl⟩)
theorem inS4 {q : MethodName × Nat} (h : q ∈ lw_privs_4) : Cond.selects q.1.cls q.1 q.1 ∈ lw_tbl := List.mem_append_left _ (List.mem_map.mpr ⟨q, List.mem_append_right _ (List.mem_append_right _ (List.mem_append_right _ (List.mem_append_left _ h))), rfl⟩)
theorem inS5 {q : MethodName × Nat} (h : q ∈ lw_privs_5) : Cond.selects q.1.cls q.1 q.1 ∈ lw_tbl := List.mem_append_left _ (List.mem_map.mpr ⟨q, List.mem_append_right _ (List.mem_append_right _ (List.mem_append_right _ (List.mem_append_right _ (List.mem_append_left _ h)))), rfl⟩)
theorem inS6 {q : MethodName × Nat} (h : q ∈ lw_privs_6) : Cond.selects q.1.cls q.1 q.1 ∈ lw_tbl := List.mem_append_left _ (List.mem_map.mpr ⟨q, List.mem_append_right _ (List.mem_append_right _ (List.mem_append_right _ (List.mem_append_right _ (List.mem_append_right _ (List.mem_append_left _ h))))), rfl⟩)
theorem inS7 {q : MethodName × Nat} (h : q ∈ lw_privs_7) : Cond.selects q.1.cls q.1 q.1 ∈ lw_tbl := List.mem_append_left _ (List.mem_map.mpr ⟨q, List.mem_append_right _ (List.mem_append_right _ (List.mem_append_right _ (List.mem_append_right _ (List.mem_append_right _ (List.mem_append_right _ (List.mem_append_left _ h)))))), rfl⟩)
theorem inS8 {q : MethodName × Nat} (h : q ∈ lw_privs_8) : Cond.selects q.1.cls q.1 q.1 ∈ lw_tbl := List.mem_append_left _ (List.mem_map.mpr ⟨q, List.mem_append_right _ (List.mem_append_right _ (List.mem_append_right _ (List.mem_append_right _ (List.mem_append_right _ (List.mem_append_right _ (List.mem_append_right _ (List.mem_append_left _ h))))))), rfl⟩)
theorem inS9 {q : MethodName × Nat} (h : q ∈ lw_privs_9) : Cond.selects q.1.cls q.1 q.1 ∈ lw_tbl := List.mem_append_left _ (List.mem_map.mpr ⟨q, List.mem_append_right _ (List.mem_append_right _ (List.mem_append_right _ (List.mem_append_right _ (List.mem_append_right _ (List.mem_append_right _ (List.mem_append_right _ (List.mem_append_right _ (h)))))))), rfl⟩)
theorem fl_X7_11 : Cond.fieldLink RX7 11 "JarCouncil$Sheets" "lanes" "[I" ∈ wsG := inG (inB1 (List.mem_of_getElem? (i := 28) rfl)) rfl
theorem fl_X7_15 : Cond.fieldLink RX7 15 "JarCouncil$Sheets" "sizes" "[I" ∈ wsG := inG (inB1 (List.mem_of_getElem? (i := 29) rfl)) rfl
theorem fl_X7_18 : Cond.fieldLink RX7 18 "JarCouncil$Sheets" "cells" "[I" ∈ wsG := inG (inB1 (List.mem_of_getElem? (i := 30) rfl)) rfl
theorem fl_X4_9 : Cond.fieldLink RX4 9 "JarCouncil$People" "count" "I" ∈ wsG := inG (inB1 (List.mem_of_getElem? (i := 46) rfl)) rfl
theorem fl_X4_15 : Cond.fieldLink RX4 15 "JarCouncil$People" "jar" "I" ∈ wsG := inG (inB1 (List.mem_of_getElem? (i := 49) rfl)) rfl
theorem fl_X4_18 : Cond.fieldLink RX4 18 "JarCouncil$People" "leak" "I" ∈ wsG := inG (inB1 (List.mem_of_getElem? (i := 53) rfl)) rfl
theorem fl_X4_21 : Cond.fieldLink RX4 21 "JarCouncil$People" "kinds" "[I" ∈ wsG := inG (inB1 (List.mem_of_getElem? (i := 55) rfl)) rfl
theorem fl_X4_25 : Cond.fieldLink RX4 25 "JarCouncil$People" "words" "[I" ∈ wsG := inG (inB1 (List.mem_of_getElem? (i := 56) rfl)) rfl
theorem fl_X4_28 : Cond.fieldLink RX4 28 "JarCouncil$People" "lengths" "[I" ∈ wsG := inG (inB1 (List.mem_of_getElem? (i := 57) rfl)) rfl
theorem fl_X4_31 : Cond.fieldLink RX4 31 "JarCouncil$People" "owns" "[I" ∈ wsG := inG (inB1 (List.mem_of_getElem? (i := 58) rfl)) rfl
theorem fl_X4_34 : Cond.fieldLink RX4 34 "JarCouncil$People" "others" "[I" ∈ wsG := inG (inB1 (List.mem_of_getElem? (i := 59) rfl)) rfl
theorem fl_X4_37 : Cond.fieldLink RX4 37 "JarCouncil$People" "gains" "[J" ∈ wsG := inG (inB1 (List.mem_of_getElem? (i := 60) rfl)) rfl
theorem fl_X6_24 : Cond.fieldLink RX6 24 "JarCouncil$Reader" "cells" "[I" ∈ wsG := inG (inB1 (List.mem_of_getElem? (i := 87) rfl)) rfl
theorem fl_X6_28 : Cond.fieldLink RX6 28 "JarCouncil$Reader" "draft" "LJarCouncil$People;" ∈ wsG := inG (inB1 (List.mem_of_getElem? (i := 88) rfl)) rfl
theorem fl_X6_9 : Cond.fieldLink RX6 9 "JarCouncil$Reader" "from" "I" ∈ wsG := inG (inB1 (List.mem_of_getElem? (i := 90) rfl)) rfl
theorem fl_X6_15 : Cond.fieldLink RX6 15 "JarCouncil$Reader" "size" "I" ∈ wsG := inG (inB1 (List.mem_of_getElem? (i := 91) rfl)) rfl
theorem fl_X6_18 : Cond.fieldLink RX6 18 "JarCouncil$Reader" "next" "I" ∈ wsG := inG (inB1 (List.mem_of_getElem? (i := 92) rfl)) rfl
theorem fl_X6_21 : Cond.fieldLink RX6 21 "JarCouncil$Reader" "fault" "I" ∈ wsG := inG (inB1 (List.mem_of_getElem? (i := 93) rfl)) rfl
theorem fl_X0_22 : Cond.fieldLink RX0 22 "JarCouncil$Course" "people" "LJarCouncil$People;" ∈ wsG := inG (inB1 (List.mem_of_getElem? (i := 113) rfl)) rfl
theorem fl_X0_9 : Cond.fieldLink RX0 9 "JarCouncil$Course" "order" "[I" ∈ wsG := inG (inB1 (List.mem_of_getElem? (i := 116) rfl)) rfl
theorem fl_X0_15 : Cond.fieldLink RX0 15 "JarCouncil$Course" "law" "I" ∈ wsG := inG (inB1 (List.mem_of_getElem? (i := 117) rfl)) rfl
theorem fl_X0_19 : Cond.fieldLink RX0 19 "JarCouncil$Course" "leak" "I" ∈ wsG := inG (inB1 (List.mem_of_getElem? (i := 119) rfl)) rfl
theorem fl_X5_35 : Cond.fieldLink RX5 35 "JarCouncil$Plan" "course" "LJarCouncil$Course;" ∈ wsG := inG (inB1 (List.mem_of_getElem? (i := 138) rfl)) rfl
theorem fl_X5_45 : Cond.fieldLink RX5 45 "JarCouncil$Plan" "people" "LJarCouncil$People;" ∈ wsG := inG (inB1 (List.mem_of_getElem? (i := 139) rfl)) rfl
theorem fl_X5_11 : Cond.fieldLink RX5 11 "JarCouncil$Plan" "words" "[I" ∈ wsG := inG (inB1 (List.mem_of_getElem? (i := 140) rfl)) rfl
theorem fl_X5_15 : Cond.fieldLink RX5 15 "JarCouncil$Plan" "worths" "[J" ∈ wsG := inG (inB1 (List.mem_of_getElem? (i := 141) rfl)) rfl
theorem fl_X5_19 : Cond.fieldLink RX5 19 "JarCouncil$Plan" "open" "[I" ∈ wsG := inG (inB1 (List.mem_of_getElem? (i := 142) rfl)) rfl
theorem fl_X5_22 : Cond.fieldLink RX5 22 "JarCouncil$Plan" "opened" "I" ∈ wsG := inG (inB1 (List.mem_of_getElem? (i := 143) rfl)) rfl
theorem fl_X5_26 : Cond.fieldLink RX5 26 "JarCouncil$Plan" "reached" "[I" ∈ wsG := inG (inB1 (List.mem_of_getElem? (i := 144) rfl)) rfl
theorem fl_X5_29 : Cond.fieldLink RX5 29 "JarCouncil$Plan" "making" "I" ∈ wsG := inG (inB1 (List.mem_of_getElem? (i := 145) rfl)) rfl
theorem fl_X5_32 : Cond.fieldLink RX5 32 "JarCouncil$Plan" "turns" "I" ∈ wsG := inG (inB1 (List.mem_of_getElem? (i := 146) rfl)) rfl
theorem fl_X1_35 : Cond.fieldLink RX1 35 "JarCouncil$Day" "plan" "LJarCouncil$Plan;" ∈ wsG := inG (inB1 (List.mem_of_getElem? (i := 173) rfl)) rfl
theorem fl_X1_45 : Cond.fieldLink RX1 45 "JarCouncil$Day" "course" "LJarCouncil$Course;" ∈ wsG := inG (inB1 (List.mem_of_getElem? (i := 175) rfl)) rfl
theorem fl_X1_52 : Cond.fieldLink RX1 52 "JarCouncil$Day" "people" "LJarCouncil$People;" ∈ wsG := inG (inB1 (List.mem_of_getElem? (i := 177) rfl)) rfl
theorem fl_X1_9 : Cond.fieldLink RX1 9 "JarCouncil$Day" "said" "[I" ∈ wsG := inG (inB1 (List.mem_of_getElem? (i := 178) rfl)) rfl
theorem fl_X1_15 : Cond.fieldLink RX1 15 "JarCouncil$Day" "waters" "[I" ∈ wsG := inG (inB1 (List.mem_of_getElem? (i := 179) rfl)) rfl
theorem fl_X1_18 : Cond.fieldLink RX1 18 "JarCouncil$Day" "turn" "I" ∈ wsG := inG (inB1 (List.mem_of_getElem? (i := 180) rfl)) rfl
theorem fl_X1_22 : Cond.fieldLink RX1 22 "JarCouncil$Day" "water" "I" ∈ wsG := inG (inB1 (List.mem_of_getElem? (i := 181) rfl)) rfl
theorem fl_X1_25 : Cond.fieldLink RX1 25 "JarCouncil$Day" "heard" "I" ∈ wsG := inG (inB1 (List.mem_of_getElem? (i := 184) rfl)) rfl
theorem fl_X1_28 : Cond.fieldLink RX1 28 "JarCouncil$Day" "cut" "I" ∈ wsG := inG (inB1 (List.mem_of_getElem? (i := 186) rfl)) rfl
theorem fl_X1_31 : Cond.fieldLink RX1 31 "JarCouncil$Day" "worths" "J" ∈ wsG := inG (inB1 (List.mem_of_getElem? (i := 188) rfl)) rfl
theorem fl_X2_9 : Cond.fieldLink RX2 9 "JarCouncil$Log" "said" "[I" ∈ wsG := inG (inB1 (List.mem_of_getElem? (i := 217) rfl)) rfl
theorem fl_X2_15 : Cond.fieldLink RX2 15 "JarCouncil$Log" "ends" "[I" ∈ wsG := inG (inB1 (List.mem_of_getElem? (i := 218) rfl)) rfl
theorem fl_X2_18 : Cond.fieldLink RX2 18 "JarCouncil$Log" "fitting" "[I" ∈ wsG := inG (inB1 (List.mem_of_getElem? (i := 219) rfl)) rfl
theorem fl_X2_21 : Cond.fieldLink RX2 21 "JarCouncil$Log" "count" "I" ∈ wsG := inG (inB1 (List.mem_of_getElem? (i := 220) rfl)) rfl
theorem fl_X3_22 : Cond.fieldLink RX3 22 "JarCouncil$Motions" "now" "LJarCouncil$Course;" ∈ wsG := inG (inB1 (List.mem_of_getElem? (i := 237) rfl)) rfl
theorem fl_X3_42 : Cond.fieldLink RX3 42 "JarCouncil$Motions" "trial" "LJarCouncil$Course;" ∈ wsG := inG (inB1 (List.mem_of_getElem? (i := 238) rfl)) rfl
theorem fl_X3_36 : Cond.fieldLink RX3 36 "JarCouncil$Motions" "trialPlan" "LJarCouncil$Plan;" ∈ wsG := inG (inB1 (List.mem_of_getElem? (i := 239) rfl)) rfl
theorem fl_X3_26 : Cond.fieldLink RX3 26 "JarCouncil$Motions" "trialDay" "LJarCouncil$Day;" ∈ wsG := inG (inB2 (List.mem_of_getElem? (i := 0) rfl)) rfl
theorem fl_X3_9 : Cond.fieldLink RX3 9 "JarCouncil$Motions" "fewest" "[I" ∈ wsG := inG (inB2 (List.mem_of_getElem? (i := 1) rfl)) rfl
theorem fl_X3_15 : Cond.fieldLink RX3 15 "JarCouncil$Motions" "rows" "[I" ∈ wsG := inG (inB2 (List.mem_of_getElem? (i := 2) rfl)) rfl
theorem fl_X3_18 : Cond.fieldLink RX3 18 "JarCouncil$Motions" "sought" "Z" ∈ wsG := inG (inB2 (List.mem_of_getElem? (i := 3) rfl)) rfl
theorem fl_X8_25 : Cond.fieldLink RX8 25 "JarCouncil" "sheets" "LJarCouncil$Sheets;" ∈ wsG := inG (inB2 (List.mem_of_getElem? (i := 19) rfl)) rfl
theorem fl_X8_32 : Cond.fieldLink RX8 32 "JarCouncil" "people" "LJarCouncil$People;" ∈ wsG := inG (inB2 (List.mem_of_getElem? (i := 20) rfl)) rfl
theorem fl_X8_45 : Cond.fieldLink RX8 45 "JarCouncil" "reader" "LJarCouncil$Reader;" ∈ wsG := inG (inB2 (List.mem_of_getElem? (i := 21) rfl)) rfl
theorem fl_X8_54 : Cond.fieldLink RX8 54 "JarCouncil" "course" "LJarCouncil$Course;" ∈ wsG := inG (inB2 (List.mem_of_getElem? (i := 22) rfl)) rfl
theorem fl_X8_63 : Cond.fieldLink RX8 63 "JarCouncil" "plan" "LJarCouncil$Plan;" ∈ wsG := inG (inB2 (List.mem_of_getElem? (i := 23) rfl)) rfl
theorem fl_X8_72 : Cond.fieldLink RX8 72 "JarCouncil" "today" "LJarCouncil$Day;" ∈ wsG := inG (inB2 (List.mem_of_getElem? (i := 24) rfl)) rfl
theorem fl_X8_76 : Cond.fieldLink RX8 76 "JarCouncil" "trial" "LJarCouncil$Course;" ∈ wsG := inG (inB2 (List.mem_of_getElem? (i := 25) rfl)) rfl
theorem fl_X8_79 : Cond.fieldLink RX8 79 "JarCouncil" "trialPlan" "LJarCouncil$Plan;" ∈ wsG := inG (inB2 (List.mem_of_getElem? (i := 26) rfl)) rfl
theorem fl_X8_82 : Cond.fieldLink RX8 82 "JarCouncil" "trialDay" "LJarCouncil$Day;" ∈ wsG := inG (inB2 (List.mem_of_getElem? (i := 27) rfl)) rfl
theorem fl_X8_88 : Cond.fieldLink RX8 88 "JarCouncil" "log" "LJarCouncil$Log;" ∈ wsG := inG (inB2 (List.mem_of_getElem? (i := 28) rfl)) rfl
theorem fl_X8_97 : Cond.fieldLink RX8 97 "JarCouncil" "motions" "LJarCouncil$Motions;" ∈ wsG := inG (inB2 (List.mem_of_getElem? (i := 29) rfl)) rfl
theorem fl_X8_11 : Cond.fieldLink RX8 11 "JarCouncil" "planned" "Z" ∈ wsG := inG (inB2 (List.mem_of_getElem? (i := 30) rfl)) rfl
theorem fl_X8_15 : Cond.fieldLink RX8 15 "JarCouncil" "traced" "I" ∈ wsG := inG (inB2 (List.mem_of_getElem? (i := 31) rfl)) rfl
theorem fl_X8_19 : Cond.fieldLink RX8 19 "JarCouncil" "faulted" "I" ∈ wsG := inG (inB2 (List.mem_of_getElem? (i := 32) rfl)) rfl
theorem fl_X9_84 : Cond.fieldLink RX9 84 "JarCouncilModel" "fault" "I" ∈ wsG := inG (inB4 (List.mem_of_getElem? (i := 187) rfl)) rfl
theorem fl_X9_113 : Cond.fieldLink RX9 113 "JarCouncilModel" "speakers" "I" ∈ wsG := inG (inB4 (List.mem_of_getElem? (i := 188) rfl)) rfl
theorem fl_X9_167 : Cond.fieldLink RX9 167 "JarCouncilModel" "jar" "I" ∈ wsG := inG (inB4 (List.mem_of_getElem? (i := 189) rfl)) rfl
theorem fl_X9_170 : Cond.fieldLink RX9 170 "JarCouncilModel" "leak" "I" ∈ wsG := inG (inB4 (List.mem_of_getElem? (i := 190) rfl)) rfl
theorem fl_X9_173 : Cond.fieldLink RX9 173 "JarCouncilModel" "lawNow" "I" ∈ wsG := inG (inB4 (List.mem_of_getElem? (i := 191) rfl)) rfl
theorem fl_X9_7 : Cond.fieldLink RX9 7 "JarCouncilModel" "kindOf" "[I" ∈ wsG := inG (inB4 (List.mem_of_getElem? (i := 192) rfl)) rfl
theorem fl_X9_13 : Cond.fieldLink RX9 13 "JarCouncilModel" "wordsOf" "[I" ∈ wsG := inG (inB4 (List.mem_of_getElem? (i := 193) rfl)) rfl
theorem fl_X9_16 : Cond.fieldLink RX9 16 "JarCouncilModel" "lengthOf" "[I" ∈ wsG := inG (inB4 (List.mem_of_getElem? (i := 194) rfl)) rfl
theorem fl_X9_19 : Cond.fieldLink RX9 19 "JarCouncilModel" "ownOf" "[I" ∈ wsG := inG (inB4 (List.mem_of_getElem? (i := 195) rfl)) rfl
theorem fl_X9_22 : Cond.fieldLink RX9 22 "JarCouncilModel" "othersOf" "[I" ∈ wsG := inG (inB4 (List.mem_of_getElem? (i := 196) rfl)) rfl
theorem fl_X9_25 : Cond.fieldLink RX9 25 "JarCouncilModel" "order" "[I" ∈ wsG := inG (inB4 (List.mem_of_getElem? (i := 197) rfl)) rfl
theorem fl_X9_119 : Cond.fieldLink RX9 119 "JarCouncilModel" "readAt" "I" ∈ wsG := inG (inB4 (List.mem_of_getElem? (i := 198) rfl)) rfl
theorem fl_X9_151 : Cond.fieldLink RX9 151 "JarCouncilModel" "readJar" "I" ∈ wsG := inG (inB4 (List.mem_of_getElem? (i := 199) rfl)) rfl
theorem fl_X9_154 : Cond.fieldLink RX9 154 "JarCouncilModel" "readLeak" "I" ∈ wsG := inG (inB4 (List.mem_of_getElem? (i := 200) rfl)) rfl
theorem fl_X9_130 : Cond.fieldLink RX9 130 "JarCouncilModel" "readSpeakers" "I" ∈ wsG := inG (inB4 (List.mem_of_getElem? (i := 201) rfl)) rfl
theorem fl_X9_28 : Cond.fieldLink RX9 28 "JarCouncilModel" "readKind" "[I" ∈ wsG := inG (inB4 (List.mem_of_getElem? (i := 202) rfl)) rfl
theorem fl_X9_31 : Cond.fieldLink RX9 31 "JarCouncilModel" "readWords" "[I" ∈ wsG := inG (inB4 (List.mem_of_getElem? (i := 203) rfl)) rfl
theorem fl_X9_34 : Cond.fieldLink RX9 34 "JarCouncilModel" "readLength" "[I" ∈ wsG := inG (inB4 (List.mem_of_getElem? (i := 204) rfl)) rfl
theorem fl_X9_37 : Cond.fieldLink RX9 37 "JarCouncilModel" "readOwn" "[I" ∈ wsG := inG (inB4 (List.mem_of_getElem? (i := 205) rfl)) rfl
theorem fl_X9_40 : Cond.fieldLink RX9 40 "JarCouncilModel" "readOthers" "[I" ∈ wsG := inG (inB4 (List.mem_of_getElem? (i := 206) rfl)) rfl
theorem fl_X9_43 : Cond.fieldLink RX9 43 "JarCouncilModel" "saidIn" "[I" ∈ wsG := inG (inB4 (List.mem_of_getElem? (i := 207) rfl)) rfl
theorem fl_X9_46 : Cond.fieldLink RX9 46 "JarCouncilModel" "waterIn" "[I" ∈ wsG := inG (inB4 (List.mem_of_getElem? (i := 208) rfl)) rfl
theorem fl_X9_49 : Cond.fieldLink RX9 49 "JarCouncilModel" "worthTo" "[I" ∈ wsG := inG (inB4 (List.mem_of_getElem? (i := 209) rfl)) rfl
theorem fl_X9_194 : Cond.fieldLink RX9 194 "JarCouncilModel" "heardMany" "I" ∈ wsG := inG (inB4 (List.mem_of_getElem? (i := 210) rfl)) rfl
theorem fl_X9_197 : Cond.fieldLink RX9 197 "JarCouncilModel" "cutIn" "I" ∈ wsG := inG (inB4 (List.mem_of_getElem? (i := 211) rfl)) rfl
theorem fl_X9_52 : Cond.fieldLink RX9 52 "JarCouncilModel" "choiceIn" "[I" ∈ wsG := inG (inB4 (List.mem_of_getElem? (i := 212) rfl)) rfl
theorem fl_X9_55 : Cond.fieldLink RX9 55 "JarCouncilModel" "worthFrom" "[I" ∈ wsG := inG (inB4 (List.mem_of_getElem? (i := 213) rfl)) rfl
theorem fl_X9_58 : Cond.fieldLink RX9 58 "JarCouncilModel" "bestRow" "[I" ∈ wsG := inG (inB4 (List.mem_of_getElem? (i := 214) rfl)) rfl
theorem fl_X9_61 : Cond.fieldLink RX9 61 "JarCouncilModel" "orderWas" "[I" ∈ wsG := inG (inB4 (List.mem_of_getElem? (i := 215) rfl)) rfl
theorem fl_X9_176 : Cond.fieldLink RX9 176 "JarCouncilModel" "days" "I" ∈ wsG := inG (inB4 (List.mem_of_getElem? (i := 216) rfl)) rfl
theorem fl_X9_64 : Cond.fieldLink RX9 64 "JarCouncilModel" "dayRow" "[I" ∈ wsG := inG (inB4 (List.mem_of_getElem? (i := 217) rfl)) rfl
theorem fl_X9_67 : Cond.fieldLink RX9 67 "JarCouncilModel" "dayEnd" "[I" ∈ wsG := inG (inB4 (List.mem_of_getElem? (i := 218) rfl)) rfl
theorem fl_X9_70 : Cond.fieldLink RX9 70 "JarCouncilModel" "sheetSize" "[I" ∈ wsG := inG (inB4 (List.mem_of_getElem? (i := 219) rfl)) rfl
theorem fl_X9_73 : Cond.fieldLink RX9 73 "JarCouncilModel" "sheetLane" "[I" ∈ wsG := inG (inB4 (List.mem_of_getElem? (i := 220) rfl)) rfl
theorem fl_X9_76 : Cond.fieldLink RX9 76 "JarCouncilModel" "sheet" "[I" ∈ wsG := inG (inB4 (List.mem_of_getElem? (i := 221) rfl)) rfl
theorem fl_X9_79 : Cond.fieldLink RX9 79 "JarCouncilModel" "hands" "[I" ∈ wsG := inG (inB4 (List.mem_of_getElem? (i := 222) rfl)) rfl
theorem fl_X9_296 : Cond.fieldLink RX9 296 "JarCouncilModel" "traceNow" "I" ∈ wsG := inG (inB4 (List.mem_of_getElem? (i := 223) rfl)) rfl
theorem fn_X8_38 : Cond.fieldLinkNest RX8 38 "JarCouncil$Sheets" "cells" "[I" "JarCouncil" ∈ tables_1 := inT1 (List.mem_of_getElem? (i := 31) rfl)
theorem fn_X0_40 : Cond.fieldLinkNest RX0 40 "JarCouncil$People" "count" "I" "JarCouncil" ∈ tables_1 := inT1 (List.mem_of_getElem? (i := 47) rfl)
theorem fn_X8_132 : Cond.fieldLinkNest RX8 132 "JarCouncil$People" "count" "I" "JarCouncil" ∈ tables_1 := inT1 (List.mem_of_getElem? (i := 48) rfl)
theorem fn_X5_49 : Cond.fieldLinkNest RX5 49 "JarCouncil$People" "jar" "I" "JarCouncil" ∈ tables_1 := inT1 (List.mem_of_getElem? (i := 50) rfl)
theorem fn_X0_51 : Cond.fieldLinkNest RX0 51 "JarCouncil$People" "jar" "I" "JarCouncil" ∈ tables_1 := inT1 (List.mem_of_getElem? (i := 51) rfl)
theorem fn_X8_213 : Cond.fieldLinkNest RX8 213 "JarCouncil$People" "jar" "I" "JarCouncil" ∈ tables_1 := inT1 (List.mem_of_getElem? (i := 52) rfl)
theorem fn_X0_26 : Cond.fieldLinkNest RX0 26 "JarCouncil$People" "leak" "I" "JarCouncil" ∈ tables_1 := inT1 (List.mem_of_getElem? (i := 54) rfl)
theorem fn_X8_120 : Cond.fieldLinkNest RX8 120 "JarCouncil$Reader" "draft" "LJarCouncil$People;" "JarCouncil" ∈ tables_1 := inT1 (List.mem_of_getElem? (i := 89) rfl)
theorem fn_X5_39 : Cond.fieldLinkNest RX5 39 "JarCouncil$Course" "people" "LJarCouncil$People;" "JarCouncil" ∈ tables_1 := inT1 (List.mem_of_getElem? (i := 114) rfl)
theorem fn_X1_46 : Cond.fieldLinkNest RX1 46 "JarCouncil$Course" "people" "LJarCouncil$People;" "JarCouncil" ∈ tables_1 := inT1 (List.mem_of_getElem? (i := 115) rfl)
theorem fn_X8_160 : Cond.fieldLinkNest RX8 160 "JarCouncil$Course" "law" "I" "JarCouncil" ∈ tables_1 := inT1 (List.mem_of_getElem? (i := 118) rfl)
theorem fn_X2_29 : Cond.fieldLinkNest RX2 29 "JarCouncil$Course" "leak" "I" "JarCouncil" ∈ tables_1 := inT1 (List.mem_of_getElem? (i := 120) rfl)
theorem fn_X8_346 : Cond.fieldLinkNest RX8 346 "JarCouncil$Course" "leak" "I" "JarCouncil" ∈ tables_1 := inT1 (List.mem_of_getElem? (i := 121) rfl)
theorem fn_X1_39 : Cond.fieldLinkNest RX1 39 "JarCouncil$Plan" "course" "LJarCouncil$Course;" "JarCouncil" ∈ tables_1 := inT1 (List.mem_of_getElem? (i := 137) rfl)
theorem fn_X3_30 : Cond.fieldLinkNest RX3 30 "JarCouncil$Day" "plan" "LJarCouncil$Plan;" "JarCouncil" ∈ tables_1 := inT1 (List.mem_of_getElem? (i := 172) rfl)
theorem fn_X3_39 : Cond.fieldLinkNest RX3 39 "JarCouncil$Day" "course" "LJarCouncil$Course;" "JarCouncil" ∈ tables_1 := inT1 (List.mem_of_getElem? (i := 174) rfl)
theorem fn_X2_50 : Cond.fieldLinkNest RX2 50 "JarCouncil$Day" "course" "LJarCouncil$Course;" "JarCouncil" ∈ tables_1 := inT1 (List.mem_of_getElem? (i := 176) rfl)
theorem fn_X2_38 : Cond.fieldLinkNest RX2 38 "JarCouncil$Day" "water" "I" "JarCouncil" ∈ tables_1 := inT1 (List.mem_of_getElem? (i := 182) rfl)
theorem fn_X8_182 : Cond.fieldLinkNest RX8 182 "JarCouncil$Day" "water" "I" "JarCouncil" ∈ tables_1 := inT1 (List.mem_of_getElem? (i := 183) rfl)
theorem fn_X8_176 : Cond.fieldLinkNest RX8 176 "JarCouncil$Day" "heard" "I" "JarCouncil" ∈ tables_1 := inT1 (List.mem_of_getElem? (i := 185) rfl)
theorem fn_X8_179 : Cond.fieldLinkNest RX8 179 "JarCouncil$Day" "cut" "I" "JarCouncil" ∈ tables_1 := inT1 (List.mem_of_getElem? (i := 187) rfl)
theorem fn_X8_185 : Cond.fieldLinkNest RX8 185 "JarCouncil$Day" "worths" "J" "JarCouncil" ∈ tables_1 := inT1 (List.mem_of_getElem? (i := 189) rfl)
theorem fn_X8_274 : Cond.fieldLinkNest RX8 274 "JarCouncil$Log" "count" "I" "JarCouncil" ∈ tables_1 := inT1 (List.mem_of_getElem? (i := 221) rfl)
theorem ml_L_9 : Cond.methodLink RL 9 yX8_init ∈ wsG := inG (inB1 (List.mem_of_getElem? (i := 13) rfl)) rfl
theorem ml_X8_5 : Cond.methodLink RX8 5 objectInit ∈ wsG := inG (inB1 (List.mem_of_getElem? (i := 16) rfl)) rfl
theorem ml_X7_3 : Cond.methodLink RX7 3 objectInit ∈ wsG := inG (inB1 (List.mem_of_getElem? (i := 24) rfl)) rfl
theorem ml_X4_3 : Cond.methodLink RX4 3 objectInit ∈ wsG := inG (inB1 (List.mem_of_getElem? (i := 45) rfl)) rfl
theorem ml_X6_3 : Cond.methodLink RX6 3 objectInit ∈ wsG := inG (inB1 (List.mem_of_getElem? (i := 86) rfl)) rfl
theorem ml_X0_3 : Cond.methodLink RX0 3 objectInit ∈ wsG := inG (inB1 (List.mem_of_getElem? (i := 112) rfl)) rfl
theorem ml_X5_5 : Cond.methodLink RX5 5 objectInit ∈ wsG := inG (inB1 (List.mem_of_getElem? (i := 136) rfl)) rfl
theorem ml_X1_3 : Cond.methodLink RX1 3 objectInit ∈ wsG := inG (inB1 (List.mem_of_getElem? (i := 171) rfl)) rfl
theorem ml_X2_3 : Cond.methodLink RX2 3 objectInit ∈ wsG := inG (inB1 (List.mem_of_getElem? (i := 216) rfl)) rfl
theorem ml_X3_3 : Cond.methodLink RX3 3 objectInit ∈ wsG := inG (inB1 (List.mem_of_getElem? (i := 236) rfl)) rfl
theorem ml_L_13 : Cond.methodLink RL 13 yX8_council ∈ wsG := inG (inB2 (List.mem_of_getElem? (i := 62) rfl)) rfl
theorem ml_X7_56 : Cond.methodLink RX7 56 yX7_rowRefusal ∈ wsG := inG (inB2 (List.mem_of_getElem? (i := 70) rfl)) rfl
theorem ml_X7_50 : Cond.methodLink RX7 50 yX7_isSheet ∈ wsG := inG (inB2 (List.mem_of_getElem? (i := 74) rfl)) rfl
theorem ml_X7_53 : Cond.methodLink RX7 53 yX7_isLane ∈ wsG := inG (inB2 (List.mem_of_getElem? (i := 77) rfl)) rfl
theorem ml_X7_37 : Cond.methodLink RX7 37 yX7_isEmpty ∈ wsG := inG (inB2 (List.mem_of_getElem? (i := 80) rfl)) rfl
theorem ml_X7_29 : Cond.methodLink RX7 29 yX7_laneOf ∈ wsG := inG (inB2 (List.mem_of_getElem? (i := 84) rfl)) rfl
theorem ml_X7_59 : Cond.methodLink RX7 59 yX7_hasPart ∈ wsG := inG (inB2 (List.mem_of_getElem? (i := 91) rfl)) rfl
theorem ml_X7_47 : Cond.methodLink RX7 47 yX7_sizeOf ∈ wsG := inG (inB2 (List.mem_of_getElem? (i := 95) rfl)) rfl
theorem ml_X8_109 : Cond.methodLink RX8 109 yX8_told ∈ wsG := inG (inB2 (List.mem_of_getElem? (i := 99) rfl)) rfl
theorem ml_X6_32 : Cond.methodLink RX6 32 yX6_readJar ∈ wsG := inG (inB2 (List.mem_of_getElem? (i := 110) rfl)) rfl
theorem ml_X6_36 : Cond.methodLink RX6 36 yX6_readSign ∈ wsG := inG (inB2 (List.mem_of_getElem? (i := 114) rfl)) rfl
theorem ml_X6_64 : Cond.methodLink RX6 64 yX6_isNext ∈ wsG := inG (inB2 (List.mem_of_getElem? (i := 118) rfl)) rfl
theorem ml_X6_43 : Cond.methodLink RX6 43 yX6_readNumber ∈ wsG := inG (inB2 (List.mem_of_getElem? (i := 123) rfl)) rfl
theorem ml_X6_47 : Cond.methodLink RX6 47 yX6_readDigit ∈ wsG := inG (inB2 (List.mem_of_getElem? (i := 127) rfl)) rfl
theorem ml_X6_40 : Cond.methodLink RX6 40 yX6_readSpeaker ∈ wsG := inG (inB2 (List.mem_of_getElem? (i := 135) rfl)) rfl
theorem ml_X6_57 : Cond.methodLink RX6 57 yX6_kindOfSign ∈ wsG := inG (inB2 (List.mem_of_getElem? (i := 139) rfl)) rfl
theorem ml_X6_67 : Cond.methodLink RX6 67 yX6_readWord ∈ wsG := inG (inB2 (List.mem_of_getElem? (i := 148) rfl)) rfl
theorem ml_X4_45 : Cond.methodLink RX4 45 yX4_wordsOf ∈ wsG := inG (inB2 (List.mem_of_getElem? (i := 156) rfl)) rfl
theorem ml_X4_49 : Cond.methodLink RX4 49 yX4_placeOfWord ∈ wsG := inG (inB2 (List.mem_of_getElem? (i := 161) rfl)) rfl
theorem ml_X4_53 : Cond.methodLink RX4 53 yX4_begin ∈ wsG := inG (inB2 (List.mem_of_getElem? (i := 168) rfl)) rfl
theorem ml_X4_57 : Cond.methodLink RX4 57 yX4_kindOf ∈ wsG := inG (inB2 (List.mem_of_getElem? (i := 169) rfl)) rfl
theorem ml_X4_60 : Cond.methodLink RX4 60 yX4_addSpeaker ∈ wsG := inG (inB2 (List.mem_of_getElem? (i := 173) rfl)) rfl
theorem ml_X4_64 : Cond.methodLink RX4 64 yX4_lengthOf ∈ wsG := inG (inB2 (List.mem_of_getElem? (i := 174) rfl)) rfl
theorem ml_X4_67 : Cond.methodLink RX4 67 yX4_ownOf ∈ wsG := inG (inB2 (List.mem_of_getElem? (i := 178) rfl)) rfl
theorem ml_X4_70 : Cond.methodLink RX4 70 yX4_othersOf ∈ wsG := inG (inB2 (List.mem_of_getElem? (i := 182) rfl)) rfl
theorem ml_X4_73 : Cond.methodLink RX4 73 yX4_addWord ∈ wsG := inG (inB2 (List.mem_of_getElem? (i := 186) rfl)) rfl
theorem ml_X4_77 : Cond.methodLink RX4 77 yX4_gainOf ∈ wsG := inG (inB2 (List.mem_of_getElem? (i := 187) rfl)) rfl
theorem ml_X0_29 : Cond.methodLink RX0 29 yX0_takeFirstOrder ∈ wsG := inG (inB2 (List.mem_of_getElem? (i := 198) rfl)) rfl
theorem ml_X8_129 : Cond.methodLink RX8 129 yX8_forgetWhatWas ∈ wsG := inG (inB2 (List.mem_of_getElem? (i := 203) rfl)) rfl
theorem ml_L_18 : Cond.methodLink RL 18 yX8_ofSpeaker ∈ wsG := inG (inB2 (List.mem_of_getElem? (i := 215) rfl)) rfl
theorem ml_X0_36 : Cond.methodLink RX0 36 yX0_whoAt ∈ wsG := inG (inB2 (List.mem_of_getElem? (i := 229) rfl)) rfl
theorem ml_L_23 : Cond.methodLink RL 23 yX8_ofWord ∈ wsG := inG (inB2 (List.mem_of_getElem? (i := 234) rfl)) rfl
theorem ml_X4_89 : Cond.methodLink RX4 89 yX4_has ∈ wsG := inG (inB3 (List.mem_of_getElem? (i := 2) rfl)) rfl
theorem ml_L_28 : Cond.methodLink RL 28 yX8_law ∈ wsG := inG (inB3 (List.mem_of_getElem? (i := 6) rfl)) rfl
theorem ml_L_33 : Cond.methodLink RL 33 yX8_swap ∈ wsG := inG (inB3 (List.mem_of_getElem? (i := 10) rfl)) rfl
theorem ml_L_37 : Cond.methodLink RL 37 yX8_judge ∈ wsG := inG (inB3 (List.mem_of_getElem? (i := 18) rfl)) rfl
theorem ml_X8_173 : Cond.methodLink RX8 173 yX8_hear ∈ wsG := inG (inB3 (List.mem_of_getElem? (i := 22) rfl)) rfl
theorem ml_X8_193 : Cond.methodLink RX8 193 yX8_areWords ∈ wsG := inG (inB3 (List.mem_of_getElem? (i := 30) rfl)) rfl
theorem ml_X7_33 : Cond.methodLink RX7 33 yX7_placeOf ∈ wsG := inG (inB3 (List.mem_of_getElem? (i := 38) rfl)) rfl
theorem ml_X0_54 : Cond.methodLink RX0 54 yX0_firstWater ∈ wsG := inG (inB3 (List.mem_of_getElem? (i := 69) rfl)) rfl
theorem ml_L_42 : Cond.methodLink RL 42 yX8_worthOf ∈ wsG := inG (inB3 (List.mem_of_getElem? (i := 70) rfl)) rfl
theorem ml_X8_101 : Cond.methodLink RX8 101 yX8_worthIn ∈ wsG := inG (inB3 (List.mem_of_getElem? (i := 74) rfl)) rfl
theorem ml_L_46 : Cond.methodLink RL 46 yX8_choice ∈ wsG := inG (inB3 (List.mem_of_getElem? (i := 77) rfl)) rfl
theorem ml_X0_43 : Cond.methodLink RX0 43 yX0_turns ∈ wsG := inG (inB3 (List.mem_of_getElem? (i := 85) rfl)) rfl
theorem ml_X8_216 : Cond.methodLink RX8 216 yX8_planAhead ∈ wsG := inG (inB3 (List.mem_of_getElem? (i := 86) rfl)) rfl
theorem ml_X5_46 : Cond.methodLink RX5 46 yX5_beginMaking ∈ wsG := inG (inB3 (List.mem_of_getElem? (i := 94) rfl)) rfl
theorem ml_X5_54 : Cond.methodLink RX5 54 yX5_openState ∈ wsG := inG (inB3 (List.mem_of_getElem? (i := 99) rfl)) rfl
theorem ml_X5_92 : Cond.methodLink RX5 92 yX5_stateOf ∈ wsG := inG (inB3 (List.mem_of_getElem? (i := 103) rfl)) rfl
theorem ml_X5_58 : Cond.methodLink RX5 58 yX5_settleAll ∈ wsG := inG (inB3 (List.mem_of_getElem? (i := 108) rfl)) rfl
theorem ml_X5_99 : Cond.methodLink RX5 99 yX5_settle ∈ wsG := inG (inB3 (List.mem_of_getElem? (i := 112) rfl)) rfl
theorem ml_X5_106 : Cond.methodLink RX5 106 yX5_worthsFrom ∈ wsG := inG (inB3 (List.mem_of_getElem? (i := 120) rfl)) rfl
theorem ml_X5_121 : Cond.methodLink RX5 121 yX5_isRather ∈ wsG := inG (inB3 (List.mem_of_getElem? (i := 131) rfl)) rfl
theorem ml_L_50 : Cond.methodLink RL 50 yX8_says ∈ wsG := inG (inB3 (List.mem_of_getElem? (i := 139) rfl)) rfl
theorem ml_X1_78 : Cond.methodLink RX1 78 yX1_goForced ∈ wsG := inG (inB3 (List.mem_of_getElem? (i := 147) rfl)) rfl
theorem ml_X1_82 : Cond.methodLink RX1 82 yX1_begin ∈ wsG := inG (inB3 (List.mem_of_getElem? (i := 151) rfl)) rfl
theorem ml_X1_91 : Cond.methodLink RX1 91 yX1_speak ∈ wsG := inG (inB3 (List.mem_of_getElem? (i := 154) rfl)) rfl
theorem ml_L_54 : Cond.methodLink RL 54 yX8_water ∈ wsG := inG (inB3 (List.mem_of_getElem? (i := 160) rfl)) rfl
theorem ml_L_58 : Cond.methodLink RL 58 yX8_worth ∈ wsG := inG (inB3 (List.mem_of_getElem? (i := 168) rfl)) rfl
theorem ml_L_62 : Cond.methodLink RL 62 yX8_together ∈ wsG := inG (inB3 (List.mem_of_getElem? (i := 172) rfl)) rfl
theorem ml_X5_62 : Cond.methodLink RX5 62 yX5_openWhatIsReached ∈ wsG := inG (inB3 (List.mem_of_getElem? (i := 184) rfl)) rfl
theorem ml_X5_75 : Cond.methodLink RX5 75 yX5_openBehind ∈ wsG := inG (inB3 (List.mem_of_getElem? (i := 189) rfl)) rfl
theorem ml_X8_237 : Cond.methodLink RX8 237 yX8_worthToAll ∈ wsG := inG (inB3 (List.mem_of_getElem? (i := 193) rfl)) rfl
theorem ml_L_66 : Cond.methodLink RL 66 yX8_owed ∈ wsG := inG (inB3 (List.mem_of_getElem? (i := 194) rfl)) rfl
theorem ml_X8_244 : Cond.methodLink RX8 244 yX8_areTwo ∈ wsG := inG (inB3 (List.mem_of_getElem? (i := 198) rfl)) rfl
theorem ml_L_71 : Cond.methodLink RL 71 yX8_bargain ∈ wsG := inG (inB3 (List.mem_of_getElem? (i := 208) rfl)) rfl
theorem ml_L_75 : Cond.methodLink RL 75 yX8_motion ∈ wsG := inG (inB3 (List.mem_of_getElem? (i := 212) rfl)) rfl
theorem ml_X3_70 : Cond.methodLink RX3 70 yX3_packedOrder ∈ wsG := inG (inB3 (List.mem_of_getElem? (i := 232) rfl)) rfl
theorem ml_X3_74 : Cond.methodLink RX3 74 yX3_noteWords ∈ wsG := inG (inB3 (List.mem_of_getElem? (i := 237) rfl)) rfl
theorem ml_X0_57 : Cond.methodLink RX0 57 yX0_exchange ∈ wsG := inG (inB4 (List.mem_of_getElem? (i := 10) rfl)) rfl
theorem ml_X3_105 : Cond.methodLink RX3 105 yX3_changesFor ∈ wsG := inG (inB4 (List.mem_of_getElem? (i := 15) rfl)) rfl
theorem ml_L_79 : Cond.methodLink RL 79 yX8_dry ∈ wsG := inG (inB4 (List.mem_of_getElem? (i := 24) rfl)) rfl
theorem ml_X8_268 : Cond.methodLink RX8 268 yX8_canSilence ∈ wsG := inG (inB4 (List.mem_of_getElem? (i := 28) rfl)) rfl
theorem ml_X1_99 : Cond.methodLink RX1 99 yX1_saidIn ∈ wsG := inG (inB4 (List.mem_of_getElem? (i := 36) rfl)) rfl
theorem ml_L_83 : Cond.methodLink RL 83 yX8_day ∈ wsG := inG (inB4 (List.mem_of_getElem? (i := 37) rfl)) rfl
theorem ml_L_87 : Cond.methodLink RL 87 yX8_back ∈ wsG := inG (inB4 (List.mem_of_getElem? (i := 50) rfl)) rfl
theorem ml_L_91 : Cond.methodLink RL 91 yX8_guess ∈ wsG := inG (inB4 (List.mem_of_getElem? (i := 54) rfl)) rfl
theorem ml_X2_34 : Cond.methodLink RX2 34 yX2_goBy ∈ wsG := inG (inB4 (List.mem_of_getElem? (i := 62) rfl)) rfl
theorem ml_L_95 : Cond.methodLink RL 95 yX8_byLaw ∈ wsG := inG (inB4 (List.mem_of_getElem? (i := 74) rfl)) rfl
theorem ml_X8_287 : Cond.methodLink RX8 287 yX8_worthUnder ∈ wsG := inG (inB4 (List.mem_of_getElem? (i := 78) rfl)) rfl
theorem ml_L_99 : Cond.methodLink RL 99 yX8_share ∈ wsG := inG (inB4 (List.mem_of_getElem? (i := 83) rfl)) rfl
theorem ml_X8_296 : Cond.methodLink RX8 296 yX8_commonPart ∈ wsG := inG (inB4 (List.mem_of_getElem? (i := 91) rfl)) rfl
theorem ml_L_103 : Cond.methodLink RL 103 yX8_sheet ∈ wsG := inG (inB4 (List.mem_of_getElem? (i := 94) rfl)) rfl
theorem ml_L_107 : Cond.methodLink RL 107 yX8_lose ∈ wsG := inG (inB4 (List.mem_of_getElem? (i := 104) rfl)) rfl
theorem ml_L_111 : Cond.methodLink RL 111 yX8_put ∈ wsG := inG (inB4 (List.mem_of_getElem? (i := 112) rfl)) rfl
theorem ml_X7_41 : Cond.methodLink RX7 41 yX7_cutTo ∈ wsG := inG (inB4 (List.mem_of_getElem? (i := 122) rfl)) rfl
theorem ml_L_115 : Cond.methodLink RL 115 yX8_cell ∈ wsG := inG (inB4 (List.mem_of_getElem? (i := 125) rfl)) rfl
theorem ml_L_120 : Cond.methodLink RL 120 yX8_copy ∈ wsG := inG (inB4 (List.mem_of_getElem? (i := 130) rfl)) rfl
theorem ml_X7_44 : Cond.methodLink RX7 44 yX7_valueAt ∈ wsG := inG (inB4 (List.mem_of_getElem? (i := 140) rfl)) rfl
theorem ml_L_124 : Cond.methodLink RL 124 yX8_tell ∈ wsG := inG (inB4 (List.mem_of_getElem? (i := 141) rfl)) rfl
theorem ml_X8_334 : Cond.methodLink RX8 334 yX8_tellOld ∈ wsG := inG (inB4 (List.mem_of_getElem? (i := 145) rfl)) rfl
theorem ml_X8_343 : Cond.methodLink RX8 343 yX8_leaveTrace ∈ wsG := inG (inB4 (List.mem_of_getElem? (i := 149) rfl)) rfl
theorem ml_X8_337 : Cond.methodLink RX8 337 yX8_tellThrifty ∈ wsG := inG (inB4 (List.mem_of_getElem? (i := 153) rfl)) rfl
theorem ml_X8_340 : Cond.methodLink RX8 340 yX8_tellPlain ∈ wsG := inG (inB4 (List.mem_of_getElem? (i := 157) rfl)) rfl
theorem ml_L_128 : Cond.methodLink RL 128 yX8_call ∈ wsG := inG (inB4 (List.mem_of_getElem? (i := 161) rfl)) rfl
theorem ml_L_132 : Cond.methodLink RL 132 yX8_as ∈ wsG := inG (inB4 (List.mem_of_getElem? (i := 165) rfl)) rfl
theorem ml_L_136 : Cond.methodLink RL 136 yX8_trace ∈ wsG := inG (inB4 (List.mem_of_getElem? (i := 169) rfl)) rfl
theorem ml_L_141 : Cond.methodLink RL 141 yX8_fault ∈ wsG := inG (inB4 (List.mem_of_getElem? (i := 173) rfl)) rfl
theorem ml_L_145 : Cond.methodLink RL 145 yX8_many ∈ wsG := inG (inB4 (List.mem_of_getElem? (i := 177) rfl)) rfl
theorem ml_L_12 : Cond.methodLink RL 12 yX9_init ∈ wsG := inG (inB4 (List.mem_of_getElem? (i := 183) rfl)) rfl
theorem ml_X9_1 : Cond.methodLink RX9 1 objectInit ∈ wsG := inG (inB4 (List.mem_of_getElem? (i := 186) rfl)) rfl
theorem ml_L_17 : Cond.methodLink RL 17 yX9_council ∈ wsG := inG (inB5 (List.mem_of_getElem? (i := 59) rfl)) rfl
theorem ml_X9_160 : Cond.methodLink RX9 160 yX9_barred ∈ wsG := inG (inB5 (List.mem_of_getElem? (i := 63) rfl)) rfl
theorem ml_X9_92 : Cond.methodLink RX9 92 yX9_noSheet ∈ wsG := inG (inB5 (List.mem_of_getElem? (i := 67) rfl)) rfl
theorem ml_X9_102 : Cond.methodLink RX9 102 yX9_in ∈ wsG := inG (inB5 (List.mem_of_getElem? (i := 71) rfl)) rfl
theorem ml_X9_96 : Cond.methodLink RX9 96 yX9_refused ∈ wsG := inG (inB5 (List.mem_of_getElem? (i := 74) rfl)) rfl
theorem ml_X9_106 : Cond.methodLink RX9 106 yX9_failed ∈ wsG := inG (inB5 (List.mem_of_getElem? (i := 79) rfl)) rfl
theorem ml_X9_109 : Cond.methodLink RX9 109 yX9_isBeyond ∈ wsG := inG (inB5 (List.mem_of_getElem? (i := 83) rfl)) rfl
theorem ml_X9_164 : Cond.methodLink RX9 164 yX9_readsCouncil ∈ wsG := inG (inB5 (List.mem_of_getElem? (i := 86) rfl)) rfl
theorem ml_X9_133 : Cond.methodLink RX9 133 yX9_takes ∈ wsG := inG (inB5 (List.mem_of_getElem? (i := 90) rfl)) rfl
theorem ml_X9_137 : Cond.methodLink RX9 137 yX9_two ∈ wsG := inG (inB5 (List.mem_of_getElem? (i := 94) rfl)) rfl
theorem ml_X9_124 : Cond.methodLink RX9 124 yX9_figureAt ∈ wsG := inG (inB5 (List.mem_of_getElem? (i := 98) rfl)) rfl
theorem ml_X9_140 : Cond.methodLink RX9 140 yX9_figure ∈ wsG := inG (inB5 (List.mem_of_getElem? (i := 104) rfl)) rfl
theorem ml_X9_157 : Cond.methodLink RX9 157 yX9_readsSpeaker ∈ wsG := inG (inB5 (List.mem_of_getElem? (i := 108) rfl)) rfl
theorem ml_X9_144 : Cond.methodLink RX9 144 yX9_codeAt ∈ wsG := inG (inB5 (List.mem_of_getElem? (i := 112) rfl)) rfl
theorem ml_X9_147 : Cond.methodLink RX9 147 yX9_readsWord ∈ wsG := inG (inB5 (List.mem_of_getElem? (i := 116) rfl)) rfl
theorem ml_L_22 : Cond.methodLink RL 22 yX9_ofSpeaker ∈ wsG := inG (inB5 (List.mem_of_getElem? (i := 120) rfl)) rfl
theorem ml_X9_116 : Cond.methodLink RX9 116 yX9_noSpeaker ∈ wsG := inG (inB5 (List.mem_of_getElem? (i := 124) rfl)) rfl
theorem ml_X9_179 : Cond.methodLink RX9 179 yX9_placeOf ∈ wsG := inG (inB5 (List.mem_of_getElem? (i := 128) rfl)) rfl
theorem ml_L_27 : Cond.methodLink RL 27 yX9_ofWord ∈ wsG := inG (inB5 (List.mem_of_getElem? (i := 132) rfl)) rfl
theorem ml_X9_182 : Cond.methodLink RX9 182 yX9_noWord ∈ wsG := inG (inB5 (List.mem_of_getElem? (i := 136) rfl)) rfl
theorem ml_L_32 : Cond.methodLink RL 32 yX9_law ∈ wsG := inG (inB5 (List.mem_of_getElem? (i := 140) rfl)) rfl
theorem ml_L_36 : Cond.methodLink RL 36 yX9_swap ∈ wsG := inG (inB5 (List.mem_of_getElem? (i := 144) rfl)) rfl
theorem ml_L_41 : Cond.methodLink RL 41 yX9_judge ∈ wsG := inG (inB5 (List.mem_of_getElem? (i := 148) rfl)) rfl
theorem ml_X9_228 : Cond.methodLink RX9 228 yX9_goTold ∈ wsG := inG (inB5 (List.mem_of_getElem? (i := 152) rfl)) rfl
theorem ml_X9_215 : Cond.methodLink RX9 215 yX9_turnsNow ∈ wsG := inG (inB5 (List.mem_of_getElem? (i := 156) rfl)) rfl
theorem ml_X9_218 : Cond.methodLink RX9 218 yX9_areWords ∈ wsG := inG (inB5 (List.mem_of_getElem? (i := 160) rfl)) rfl
theorem ml_X9_200 : Cond.methodLink RX9 200 yX9_speakerOf ∈ wsG := inG (inB5 (List.mem_of_getElem? (i := 164) rfl)) rfl
theorem ml_X9_221 : Cond.methodLink RX9 221 yX9_beginDay ∈ wsG := inG (inB5 (List.mem_of_getElem? (i := 168) rfl)) rfl
theorem ml_X9_187 : Cond.methodLink RX9 187 yX9_startWater ∈ wsG := inG (inB5 (List.mem_of_getElem? (i := 172) rfl)) rfl
theorem ml_X9_224 : Cond.methodLink RX9 224 yX9_goTurn ∈ wsG := inG (inB5 (List.mem_of_getElem? (i := 176) rfl)) rfl
theorem ml_X9_203 : Cond.methodLink RX9 203 yX9_isHeard ∈ wsG := inG (inB5 (List.mem_of_getElem? (i := 180) rfl)) rfl
theorem ml_X9_206 : Cond.methodLink RX9 206 yX9_worthFor ∈ wsG := inG (inB5 (List.mem_of_getElem? (i := 184) rfl)) rfl
theorem ml_X9_209 : Cond.methodLink RX9 209 yX9_leftBy ∈ wsG := inG (inB5 (List.mem_of_getElem? (i := 188) rfl)) rfl
theorem ml_X9_212 : Cond.methodLink RX9 212 yX9_behind ∈ wsG := inG (inB5 (List.mem_of_getElem? (i := 192) rfl)) rfl
theorem ml_X9_191 : Cond.methodLink RX9 191 yX9_greater ∈ wsG := inG (inB5 (List.mem_of_getElem? (i := 196) rfl)) rfl
theorem ml_L_45 : Cond.methodLink RL 45 yX9_worthOf ∈ wsG := inG (inB5 (List.mem_of_getElem? (i := 199) rfl)) rfl
theorem ml_L_49 : Cond.methodLink RL 49 yX9_choice ∈ wsG := inG (inB5 (List.mem_of_getElem? (i := 203) rfl)) rfl
theorem ml_X9_251 : Cond.methodLink RX9 251 yX9_noTurn ∈ wsG := inG (inB5 (List.mem_of_getElem? (i := 207) rfl)) rfl
theorem ml_X9_244 : Cond.methodLink RX9 244 yX9_layChoices ∈ wsG := inG (inB5 (List.mem_of_getElem? (i := 211) rfl)) rfl
theorem ml_X9_241 : Cond.methodLink RX9 241 yX9_bestIn ∈ wsG := inG (inB5 (List.mem_of_getElem? (i := 215) rfl)) rfl
theorem ml_X9_235 : Cond.methodLink RX9 235 yX9_valueBy ∈ wsG := inG (inB5 (List.mem_of_getElem? (i := 219) rfl)) rfl
theorem ml_X9_232 : Cond.methodLink RX9 232 yX9_valueOf ∈ wsG := inG (inB5 (List.mem_of_getElem? (i := 223) rfl)) rfl
theorem ml_X9_238 : Cond.methodLink RX9 238 yX9_lengthAs ∈ wsG := inG (inB5 (List.mem_of_getElem? (i := 227) rfl)) rfl
theorem ml_L_53 : Cond.methodLink RL 53 yX9_says ∈ wsG := inG (inB5 (List.mem_of_getElem? (i := 231) rfl)) rfl
theorem ml_X9_254 : Cond.methodLink RX9 254 yX9_goFree ∈ wsG := inG (inB5 (List.mem_of_getElem? (i := 235) rfl)) rfl
theorem ml_X9_247 : Cond.methodLink RX9 247 yX9_goDay ∈ wsG := inG (inB5 (List.mem_of_getElem? (i := 239) rfl)) rfl
theorem ml_L_57 : Cond.methodLink RL 57 yX9_water ∈ wsG := inG (inB6 (List.mem_of_getElem? (i := 3) rfl)) rfl
theorem ml_L_61 : Cond.methodLink RL 61 yX9_worth ∈ wsG := inG (inB6 (List.mem_of_getElem? (i := 7) rfl)) rfl
theorem ml_L_65 : Cond.methodLink RL 65 yX9_together ∈ wsG := inG (inB6 (List.mem_of_getElem? (i := 11) rfl)) rfl
theorem ml_X9_259 : Cond.methodLink RX9 259 yX9_goRow ∈ wsG := inG (inB6 (List.mem_of_getElem? (i := 16) rfl)) rfl
theorem ml_X9_262 : Cond.methodLink RX9 262 yX9_worthToAll ∈ wsG := inG (inB6 (List.mem_of_getElem? (i := 20) rfl)) rfl
theorem ml_L_70 : Cond.methodLink RL 70 yX9_owed ∈ wsG := inG (inB6 (List.mem_of_getElem? (i := 24) rfl)) rfl
theorem ml_X9_88 : Cond.methodLink RX9 88 yX9_lost ∈ wsG := inG (inB6 (List.mem_of_getElem? (i := 28) rfl)) rfl
theorem ml_X9_265 : Cond.methodLink RX9 265 yX9_longestBy ∈ wsG := inG (inB6 (List.mem_of_getElem? (i := 32) rfl)) rfl
theorem ml_L_74 : Cond.methodLink RL 74 yX9_bargain ∈ wsG := inG (inB6 (List.mem_of_getElem? (i := 36) rfl)) rfl
theorem ml_L_78 : Cond.methodLink RL 78 yX9_motion ∈ wsG := inG (inB6 (List.mem_of_getElem? (i := 40) rfl)) rfl
theorem ml_X9_268 : Cond.methodLink RX9 268 yX9_layOrder ∈ wsG := inG (inB6 (List.mem_of_getElem? (i := 44) rfl)) rfl
theorem ml_X9_271 : Cond.methodLink RX9 271 yX9_otherPlaces ∈ wsG := inG (inB6 (List.mem_of_getElem? (i := 48) rfl)) rfl
theorem ml_X9_274 : Cond.methodLink RX9 274 yX9_isSaid ∈ wsG := inG (inB6 (List.mem_of_getElem? (i := 52) rfl)) rfl
theorem ml_L_82 : Cond.methodLink RL 82 yX9_dry ∈ wsG := inG (inB6 (List.mem_of_getElem? (i := 56) rfl)) rfl
theorem ml_L_86 : Cond.methodLink RL 86 yX9_day ∈ wsG := inG (inB6 (List.mem_of_getElem? (i := 60) rfl)) rfl
theorem ml_L_90 : Cond.methodLink RL 90 yX9_back ∈ wsG := inG (inB6 (List.mem_of_getElem? (i := 65) rfl)) rfl
theorem ml_L_94 : Cond.methodLink RL 94 yX9_guess ∈ wsG := inG (inB6 (List.mem_of_getElem? (i := 69) rfl)) rfl
theorem ml_X9_279 : Cond.methodLink RX9 279 yX9_endsSo ∈ wsG := inG (inB6 (List.mem_of_getElem? (i := 73) rfl)) rfl
theorem ml_L_98 : Cond.methodLink RL 98 yX9_byLaw ∈ wsG := inG (inB6 (List.mem_of_getElem? (i := 77) rfl)) rfl
theorem ml_X9_282 : Cond.methodLink RX9 282 yX9_worthBy ∈ wsG := inG (inB6 (List.mem_of_getElem? (i := 81) rfl)) rfl
theorem ml_L_102 : Cond.methodLink RL 102 yX9_share ∈ wsG := inG (inB6 (List.mem_of_getElem? (i := 85) rfl)) rfl
theorem ml_X9_285 : Cond.methodLink RX9 285 yX9_told ∈ wsG := inG (inB6 (List.mem_of_getElem? (i := 89) rfl)) rfl
theorem ml_L_106 : Cond.methodLink RL 106 yX9_sheet ∈ wsG := inG (inB6 (List.mem_of_getElem? (i := 92) rfl)) rfl
theorem ml_L_110 : Cond.methodLink RL 110 yX9_lose ∈ wsG := inG (inB6 (List.mem_of_getElem? (i := 96) rfl)) rfl
theorem ml_L_114 : Cond.methodLink RL 114 yX9_put ∈ wsG := inG (inB6 (List.mem_of_getElem? (i := 100) rfl)) rfl
theorem ml_X9_289 : Cond.methodLink RX9 289 yX9_noCell ∈ wsG := inG (inB6 (List.mem_of_getElem? (i := 104) rfl)) rfl
theorem ml_L_119 : Cond.methodLink RL 119 yX9_cell ∈ wsG := inG (inB6 (List.mem_of_getElem? (i := 108) rfl)) rfl
theorem ml_X9_292 : Cond.methodLink RX9 292 yX9_failedLong ∈ wsG := inG (inB6 (List.mem_of_getElem? (i := 112) rfl)) rfl
theorem ml_L_123 : Cond.methodLink RL 123 yX9_copy ∈ wsG := inG (inB6 (List.mem_of_getElem? (i := 116) rfl)) rfl
theorem ml_L_127 : Cond.methodLink RL 127 yX9_tell ∈ wsG := inG (inB6 (List.mem_of_getElem? (i := 120) rfl)) rfl
theorem ml_X9_299 : Cond.methodLink RX9 299 yX9_traced ∈ wsG := inG (inB6 (List.mem_of_getElem? (i := 124) rfl)) rfl
theorem ml_L_131 : Cond.methodLink RL 131 yX9_call ∈ wsG := inG (inB6 (List.mem_of_getElem? (i := 128) rfl)) rfl
theorem ml_L_135 : Cond.methodLink RL 135 yX9_as ∈ wsG := inG (inB6 (List.mem_of_getElem? (i := 132) rfl)) rfl
theorem ml_L_140 : Cond.methodLink RL 140 yX9_trace ∈ wsG := inG (inB6 (List.mem_of_getElem? (i := 136) rfl)) rfl
theorem ml_L_144 : Cond.methodLink RL 144 yX9_fault ∈ wsG := inG (inB6 (List.mem_of_getElem? (i := 140) rfl)) rfl
theorem ml_L_148 : Cond.methodLink RL 148 yX9_many ∈ wsG := inG (inB6 (List.mem_of_getElem? (i := 144) rfl)) rfl
theorem mn_X8_24 : Cond.methodLinkNest RX8 24 yX7_init "JarCouncil" ∈ tables_1 := inT1 (List.mem_of_getElem? (i := 21) rfl)
theorem mn_X7_21 : Cond.methodLinkNest RX7 21 yX8_set "JarCouncil" ∈ tables_1 := inT1 (List.mem_of_getElem? (i := 25) rfl)
theorem mn_X8_31 : Cond.methodLinkNest RX8 31 yX4_init "JarCouncil" ∈ tables_1 := inT1 (List.mem_of_getElem? (i := 42) rfl)
theorem mn_X8_42 : Cond.methodLinkNest RX8 42 yX6_init "JarCouncil" ∈ tables_1 := inT1 (List.mem_of_getElem? (i := 83) rfl)
theorem mn_X8_51 : Cond.methodLinkNest RX8 51 yX0_init "JarCouncil" ∈ tables_1 := inT1 (List.mem_of_getElem? (i := 109) rfl)
theorem mn_X8_60 : Cond.methodLinkNest RX8 60 yX5_init "JarCouncil" ∈ tables_1 := inT1 (List.mem_of_getElem? (i := 133) rfl)
theorem mn_X8_69 : Cond.methodLinkNest RX8 69 yX1_init "JarCouncil" ∈ tables_1 := inT1 (List.mem_of_getElem? (i := 168) rfl)
theorem mn_X8_87 : Cond.methodLinkNest RX8 87 yX2_init "JarCouncil" ∈ tables_1 := inT1 (List.mem_of_getElem? (i := 213) rfl)
theorem mn_X8_94 : Cond.methodLinkNest RX8 94 yX3_init "JarCouncil" ∈ tables_1 := inT1 (List.mem_of_getElem? (i := 233) rfl)
theorem mn_X8_105 : Cond.methodLinkNest RX8 105 yX7_partRefusal "JarCouncil" ∈ tables_1 := inT2 (List.mem_of_getElem? (i := 66) rfl)
theorem mn_X7_25 : Cond.methodLinkNest RX7 25 yX8_at "JarCouncil" ∈ tables_1 := inT2 (List.mem_of_getElem? (i := 88) rfl)
theorem mn_X8_113 : Cond.methodLinkNest RX8 113 yX7_placeOf "JarCouncil" ∈ tables_1 := inT2 (List.mem_of_getElem? (i := 103) rfl)
theorem mn_X8_117 : Cond.methodLinkNest RX8 117 yX6_firstFault "JarCouncil" ∈ tables_1 := inT2 (List.mem_of_getElem? (i := 106) rfl)
theorem mn_X6_74 : Cond.methodLinkNest RX6 74 yX8_at "JarCouncil" ∈ tables_1 := inT2 (List.mem_of_getElem? (i := 122) rfl)
theorem mn_X6_51 : Cond.methodLinkNest RX6 51 yX4_begin "JarCouncil" ∈ tables_1 := inT2 (List.mem_of_getElem? (i := 131) rfl)
theorem mn_X6_60 : Cond.methodLinkNest RX6 60 yX4_addSpeaker "JarCouncil" ∈ tables_1 := inT2 (List.mem_of_getElem? (i := 143) rfl)
theorem mn_X4_41 : Cond.methodLinkNest RX4 41 yX8_set "JarCouncil" ∈ tables_1 := inT2 (List.mem_of_getElem? (i := 147) rfl)
theorem mn_X6_70 : Cond.methodLinkNest RX6 70 yX4_addWord "JarCouncil" ∈ tables_1 := inT2 (List.mem_of_getElem? (i := 152) rfl)
theorem mn_X4_85 : Cond.methodLinkNest RX4 85 yX8_at "JarCouncil" ∈ tables_1 := inT2 (List.mem_of_getElem? (i := 160) rfl)
theorem mn_X8_123 : Cond.methodLinkNest RX8 123 yX4_become "JarCouncil" ∈ tables_1 := inT2 (List.mem_of_getElem? (i := 164) rfl)
theorem mn_X4_81 : Cond.methodLinkNest RX4 81 yX8_setLong "JarCouncil" ∈ tables_1 := inT2 (List.mem_of_getElem? (i := 191) rfl)
theorem mn_X8_126 : Cond.methodLinkNest RX8 126 yX0_beginAnew "JarCouncil" ∈ tables_1 := inT2 (List.mem_of_getElem? (i := 194) rfl)
theorem mn_X0_32 : Cond.methodLinkNest RX0 32 yX8_set "JarCouncil" ∈ tables_1 := inT2 (List.mem_of_getElem? (i := 202) rfl)
theorem mn_X8_167 : Cond.methodLinkNest RX8 167 yX3_forget "JarCouncil" ∈ tables_1 := inT2 (List.mem_of_getElem? (i := 207) rfl)
theorem mn_X8_170 : Cond.methodLinkNest RX8 170 yX2_clear "JarCouncil" ∈ tables_1 := inT2 (List.mem_of_getElem? (i := 211) rfl)
theorem mn_X8_135 : Cond.methodLinkNest RX8 135 yX4_has "JarCouncil" ∈ tables_1 := inT2 (List.mem_of_getElem? (i := 219) rfl)
theorem mn_X8_139 : Cond.methodLinkNest RX8 139 yX4_kindOf "JarCouncil" ∈ tables_1 := inT2 (List.mem_of_getElem? (i := 223) rfl)
theorem mn_X8_142 : Cond.methodLinkNest RX8 142 yX4_wordsOf "JarCouncil" ∈ tables_1 := inT2 (List.mem_of_getElem? (i := 224) rfl)
theorem mn_X8_145 : Cond.methodLinkNest RX8 145 yX0_placeOf "JarCouncil" ∈ tables_1 := inT2 (List.mem_of_getElem? (i := 225) rfl)
theorem mn_X0_47 : Cond.methodLinkNest RX0 47 yX8_at "JarCouncil" ∈ tables_1 := inT2 (List.mem_of_getElem? (i := 233) rfl)
theorem mn_X8_147 : Cond.methodLinkNest RX8 147 yX4_hasWord "JarCouncil" ∈ tables_1 := inT2 (List.mem_of_getElem? (i := 238) rfl)
theorem mn_X8_151 : Cond.methodLinkNest RX8 151 yX4_lengthOf "JarCouncil" ∈ tables_1 := inT3 (List.mem_of_getElem? (i := 3) rfl)
theorem mn_X8_154 : Cond.methodLinkNest RX8 154 yX4_ownOf "JarCouncil" ∈ tables_1 := inT3 (List.mem_of_getElem? (i := 4) rfl)
theorem mn_X8_157 : Cond.methodLinkNest RX8 157 yX4_othersOf "JarCouncil" ∈ tables_1 := inT3 (List.mem_of_getElem? (i := 5) rfl)
theorem mn_X8_163 : Cond.methodLinkNest RX8 163 yX0_exchange "JarCouncil" ∈ tables_1 := inT3 (List.mem_of_getElem? (i := 14) rfl)
theorem mn_X8_189 : Cond.methodLinkNest RX8 189 yX0_turns "JarCouncil" ∈ tables_1 := inT3 (List.mem_of_getElem? (i := 26) rfl)
theorem mn_X8_200 : Cond.methodLinkNest RX8 200 yX7_valueAt "JarCouncil" ∈ tables_1 := inT3 (List.mem_of_getElem? (i := 34) rfl)
theorem mn_X8_207 : Cond.methodLinkNest RX8 207 yX0_whoIn "JarCouncil" ∈ tables_1 := inT3 (List.mem_of_getElem? (i := 39) rfl)
theorem mn_X8_197 : Cond.methodLinkNest RX8 197 yX1_begin "JarCouncil" ∈ tables_1 := inT3 (List.mem_of_getElem? (i := 43) rfl)
theorem mn_X1_53 : Cond.methodLinkNest RX1 53 yX0_firstWater "JarCouncil" ∈ tables_1 := inT3 (List.mem_of_getElem? (i := 47) rfl)
theorem mn_X8_203 : Cond.methodLinkNest RX8 203 yX1_speak "JarCouncil" ∈ tables_1 := inT3 (List.mem_of_getElem? (i := 51) rfl)
theorem mn_X1_57 : Cond.methodLinkNest RX1 57 yX0_whoIn "JarCouncil" ∈ tables_1 := inT3 (List.mem_of_getElem? (i := 55) rfl)
theorem mn_X1_61 : Cond.methodLinkNest RX1 61 yX8_set "JarCouncil" ∈ tables_1 := inT3 (List.mem_of_getElem? (i := 56) rfl)
theorem mn_X1_65 : Cond.methodLinkNest RX1 65 yX4_lengthOf "JarCouncil" ∈ tables_1 := inT3 (List.mem_of_getElem? (i := 57) rfl)
theorem mn_X1_71 : Cond.methodLinkNest RX1 71 yX4_gainBy "JarCouncil" ∈ tables_1 := inT3 (List.mem_of_getElem? (i := 58) rfl)
theorem mn_X4_93 : Cond.methodLinkNest RX4 93 yX8_longAt "JarCouncil" ∈ tables_1 := inT3 (List.mem_of_getElem? (i := 62) rfl)
theorem mn_X1_75 : Cond.methodLinkNest RX1 75 yX0_waterBehind "JarCouncil" ∈ tables_1 := inT3 (List.mem_of_getElem? (i := 65) rfl)
theorem mn_X8_210 : Cond.methodLinkNest RX8 210 yX0_hasTurn "JarCouncil" ∈ tables_1 := inT3 (List.mem_of_getElem? (i := 81) rfl)
theorem mn_X8_241 : Cond.methodLinkNest RX8 241 yX5_makeForEach "JarCouncil" ∈ tables_1 := inT3 (List.mem_of_getElem? (i := 90) rfl)
theorem mn_X5_65 : Cond.methodLinkNest RX5 65 yX0_turns "JarCouncil" ∈ tables_1 := inT3 (List.mem_of_getElem? (i := 98) rfl)
theorem mn_X5_71 : Cond.methodLinkNest RX5 71 yX8_at "JarCouncil" ∈ tables_1 := inT3 (List.mem_of_getElem? (i := 106) rfl)
theorem mn_X5_95 : Cond.methodLinkNest RX5 95 yX8_set "JarCouncil" ∈ tables_1 := inT3 (List.mem_of_getElem? (i := 107) rfl)
theorem mn_X5_78 : Cond.methodLinkNest RX5 78 yX0_whoIn "JarCouncil" ∈ tables_1 := inT3 (List.mem_of_getElem? (i := 116) rfl)
theorem mn_X5_103 : Cond.methodLinkNest RX5 103 yX4_kindOf "JarCouncil" ∈ tables_1 := inT3 (List.mem_of_getElem? (i := 117) rfl)
theorem mn_X5_85 : Cond.methodLinkNest RX5 85 yX4_wordsOf "JarCouncil" ∈ tables_1 := inT3 (List.mem_of_getElem? (i := 118) rfl)
theorem mn_X5_82 : Cond.methodLinkNest RX5 82 yX0_waterBehind "JarCouncil" ∈ tables_1 := inT3 (List.mem_of_getElem? (i := 119) rfl)
theorem mn_X5_129 : Cond.methodLinkNest RX5 129 yX8_longAt "JarCouncil" ∈ tables_1 := inT3 (List.mem_of_getElem? (i := 124) rfl)
theorem mn_X5_88 : Cond.methodLinkNest RX5 88 yX4_lengthOf "JarCouncil" ∈ tables_1 := inT3 (List.mem_of_getElem? (i := 125) rfl)
theorem mn_X5_110 : Cond.methodLinkNest RX5 110 yX4_gainBy "JarCouncil" ∈ tables_1 := inT3 (List.mem_of_getElem? (i := 126) rfl)
theorem mn_X5_113 : Cond.methodLinkNest RX5 113 yX8_worthToAll "JarCouncil" ∈ tables_1 := inT3 (List.mem_of_getElem? (i := 127) rfl)
theorem mn_X5_117 : Cond.methodLinkNest RX5 117 yX8_worthIn "JarCouncil" ∈ tables_1 := inT3 (List.mem_of_getElem? (i := 130) rfl)
theorem mn_X5_125 : Cond.methodLinkNest RX5 125 yX8_setLong "JarCouncil" ∈ tables_1 := inT3 (List.mem_of_getElem? (i := 134) rfl)
theorem mn_X8_219 : Cond.methodLinkNest RX8 219 yX5_wordAt "JarCouncil" ∈ tables_1 := inT3 (List.mem_of_getElem? (i := 135) rfl)
theorem mn_X8_222 : Cond.methodLinkNest RX8 222 yX1_goFreely "JarCouncil" ∈ tables_1 := inT3 (List.mem_of_getElem? (i := 143) rfl)
theorem mn_X1_85 : Cond.methodLinkNest RX1 85 yX0_turns "JarCouncil" ∈ tables_1 := inT3 (List.mem_of_getElem? (i := 152) rfl)
theorem mn_X1_88 : Cond.methodLinkNest RX1 88 yX5_wordAt "JarCouncil" ∈ tables_1 := inT3 (List.mem_of_getElem? (i := 153) rfl)
theorem mn_X8_225 : Cond.methodLinkNest RX8 225 yX1_saidIn "JarCouncil" ∈ tables_1 := inT3 (List.mem_of_getElem? (i := 155) rfl)
theorem mn_X1_95 : Cond.methodLinkNest RX1 95 yX8_at "JarCouncil" ∈ tables_1 := inT3 (List.mem_of_getElem? (i := 159) rfl)
theorem mn_X8_228 : Cond.methodLinkNest RX8 228 yX1_waterIn "JarCouncil" ∈ tables_1 := inT3 (List.mem_of_getElem? (i := 164) rfl)
theorem mn_X8_231 : Cond.methodLinkNest RX8 231 yX0_follow "JarCouncil" ∈ tables_1 := inT3 (List.mem_of_getElem? (i := 176) rfl)
theorem mn_X8_234 : Cond.methodLinkNest RX8 234 yX5_makeForAll "JarCouncil" ∈ tables_1 := inT3 (List.mem_of_getElem? (i := 180) rfl)
theorem mn_X5_68 : Cond.methodLinkNest RX5 68 yX0_firstWater "JarCouncil" ∈ tables_1 := inT3 (List.mem_of_getElem? (i := 188) rfl)
theorem mn_X8_249 : Cond.methodLinkNest RX8 249 yX1_goForced "JarCouncil" ∈ tables_1 := inT3 (List.mem_of_getElem? (i := 203) rfl)
theorem mn_X8_252 : Cond.methodLinkNest RX8 252 yX4_longestWithin "JarCouncil" ∈ tables_1 := inT3 (List.mem_of_getElem? (i := 204) rfl)
theorem mn_X8_255 : Cond.methodLinkNest RX8 255 yX3_seek "JarCouncil" ∈ tables_1 := inT3 (List.mem_of_getElem? (i := 216) rfl)
theorem mn_X3_45 : Cond.methodLinkNest RX3 45 yX8_set "JarCouncil" ∈ tables_1 := inT3 (List.mem_of_getElem? (i := 220) rfl)
theorem mn_X3_49 : Cond.methodLinkNest RX3 49 yX0_follow "JarCouncil" ∈ tables_1 := inT3 (List.mem_of_getElem? (i := 221) rfl)
theorem mn_X3_55 : Cond.methodLinkNest RX3 55 yX0_takeFirstOrder "JarCouncil" ∈ tables_1 := inT3 (List.mem_of_getElem? (i := 222) rfl)
theorem mn_X3_58 : Cond.methodLinkNest RX3 58 yX5_makeForFreeDay "JarCouncil" ∈ tables_1 := inT3 (List.mem_of_getElem? (i := 223) rfl)
theorem mn_X3_63 : Cond.methodLinkNest RX3 63 yX1_goFreely "JarCouncil" ∈ tables_1 := inT3 (List.mem_of_getElem? (i := 227) rfl)
theorem mn_X3_66 : Cond.methodLinkNest RX3 66 yX0_changesFrom "JarCouncil" ∈ tables_1 := inT3 (List.mem_of_getElem? (i := 228) rfl)
theorem mn_X3_102 : Cond.methodLinkNest RX3 102 yX0_whoAt "JarCouncil" ∈ tables_1 := inT3 (List.mem_of_getElem? (i := 236) rfl)
theorem mn_X3_82 : Cond.methodLinkNest RX3 82 yX0_turns "JarCouncil" ∈ tables_1 := inT4 (List.mem_of_getElem? (i := 1) rfl)
theorem mn_X3_85 : Cond.methodLinkNest RX3 85 yX1_saidIn "JarCouncil" ∈ tables_1 := inT4 (List.mem_of_getElem? (i := 2) rfl)
theorem mn_X3_89 : Cond.methodLinkNest RX3 89 yX0_whoIn "JarCouncil" ∈ tables_1 := inT4 (List.mem_of_getElem? (i := 3) rfl)
theorem mn_X3_92 : Cond.methodLinkNest RX3 92 yX4_placeOfWord "JarCouncil" ∈ tables_1 := inT4 (List.mem_of_getElem? (i := 4) rfl)
theorem mn_X3_98 : Cond.methodLinkNest RX3 98 yX8_at "JarCouncil" ∈ tables_1 := inT4 (List.mem_of_getElem? (i := 5) rfl)
theorem mn_X3_78 : Cond.methodLinkNest RX3 78 yX0_takeNextOrder "JarCouncil" ∈ tables_1 := inT4 (List.mem_of_getElem? (i := 6) rfl)
theorem mn_X8_258 : Cond.methodLinkNest RX8 258 yX3_isFound "JarCouncil" ∈ tables_1 := inT4 (List.mem_of_getElem? (i := 11) rfl)
theorem mn_X8_261 : Cond.methodLinkNest RX8 261 yX3_changesFor "JarCouncil" ∈ tables_1 := inT4 (List.mem_of_getElem? (i := 19) rfl)
theorem mn_X8_264 : Cond.methodLinkNest RX8 264 yX3_whoFor "JarCouncil" ∈ tables_1 := inT4 (List.mem_of_getElem? (i := 20) rfl)
theorem mn_X8_271 : Cond.methodLinkNest RX8 271 yX1_hasSaid "JarCouncil" ∈ tables_1 := inT4 (List.mem_of_getElem? (i := 32) rfl)
theorem mn_X8_275 : Cond.methodLinkNest RX8 275 yX2_note "JarCouncil" ∈ tables_1 := inT4 (List.mem_of_getElem? (i := 41) rfl)
theorem mn_X2_25 : Cond.methodLinkNest RX2 25 yX8_set "JarCouncil" ∈ tables_1 := inT4 (List.mem_of_getElem? (i := 45) rfl)
theorem mn_X8_278 : Cond.methodLinkNest RX8 278 yX2_close "JarCouncil" ∈ tables_1 := inT4 (List.mem_of_getElem? (i := 46) rfl)
theorem mn_X8_281 : Cond.methodLinkNest RX8 281 yX2_compare "JarCouncil" ∈ tables_1 := inT4 (List.mem_of_getElem? (i := 58) rfl)
theorem mn_X2_47 : Cond.methodLinkNest RX2 47 yX1_begin "JarCouncil" ∈ tables_1 := inT4 (List.mem_of_getElem? (i := 66) rfl)
theorem mn_X2_54 : Cond.methodLinkNest RX2 54 yX0_turns "JarCouncil" ∈ tables_1 := inT4 (List.mem_of_getElem? (i := 67) rfl)
theorem mn_X2_43 : Cond.methodLinkNest RX2 43 yX8_at "JarCouncil" ∈ tables_1 := inT4 (List.mem_of_getElem? (i := 68) rfl)
theorem mn_X2_58 : Cond.methodLinkNest RX2 58 yX1_speak "JarCouncil" ∈ tables_1 := inT4 (List.mem_of_getElem? (i := 69) rfl)
theorem mn_X8_284 : Cond.methodLinkNest RX8 284 yX2_fits "JarCouncil" ∈ tables_1 := inT4 (List.mem_of_getElem? (i := 70) rfl)
theorem mn_X8_290 : Cond.methodLinkNest RX8 290 yX5_makeForFreeDay "JarCouncil" ∈ tables_1 := inT4 (List.mem_of_getElem? (i := 82) rfl)
theorem mn_X8_293 : Cond.methodLinkNest RX8 293 yX1_runAwayBy "JarCouncil" ∈ tables_1 := inT4 (List.mem_of_getElem? (i := 87) rfl)
theorem mn_X8_299 : Cond.methodLinkNest RX8 299 yX7_isSheet "JarCouncil" ∈ tables_1 := inT4 (List.mem_of_getElem? (i := 98) rfl)
theorem mn_X8_302 : Cond.methodLinkNest RX8 302 yX7_isLane "JarCouncil" ∈ tables_1 := inT4 (List.mem_of_getElem? (i := 99) rfl)
theorem mn_X8_305 : Cond.methodLinkNest RX8 305 yX7_renew "JarCouncil" ∈ tables_1 := inT4 (List.mem_of_getElem? (i := 100) rfl)
theorem mn_X8_309 : Cond.methodLinkNest RX8 309 yX7_drop "JarCouncil" ∈ tables_1 := inT4 (List.mem_of_getElem? (i := 108) rfl)
theorem mn_X8_312 : Cond.methodLinkNest RX8 312 yX7_isEmpty "JarCouncil" ∈ tables_1 := inT4 (List.mem_of_getElem? (i := 116) rfl)
theorem mn_X8_315 : Cond.methodLinkNest RX8 315 yX7_sizeOf "JarCouncil" ∈ tables_1 := inT4 (List.mem_of_getElem? (i := 117) rfl)
theorem mn_X8_318 : Cond.methodLinkNest RX8 318 yX7_store "JarCouncil" ∈ tables_1 := inT4 (List.mem_of_getElem? (i := 118) rfl)
theorem mn_X8_321 : Cond.methodLinkNest RX8 321 yX7_rowRefusal "JarCouncil" ∈ tables_1 := inT4 (List.mem_of_getElem? (i := 129) rfl)
theorem mn_X8_324 : Cond.methodLinkNest RX8 324 yX7_laneOf "JarCouncil" ∈ tables_1 := inT4 (List.mem_of_getElem? (i := 134) rfl)
theorem mn_X8_327 : Cond.methodLinkNest RX8 327 yX7_hasPart "JarCouncil" ∈ tables_1 := inT4 (List.mem_of_getElem? (i := 135) rfl)
theorem mn_X8_330 : Cond.methodLinkNest RX8 330 yX7_move "JarCouncil" ∈ tables_1 := inT4 (List.mem_of_getElem? (i := 136) rfl)
theorem kl_X8_247 : Cond.constantLong RX8 247 (-9223372036854775808) ∈ wsG := inG (inB3 (List.mem_of_getElem? (i := 202) rfl)) rfl
theorem kl_X9_185 : Cond.constantLong RX9 185 (3) ∈ wsG := inG (inB5 (List.mem_of_getElem? (i := 70) rfl)) rfl
theorem kl_X9_100 : Cond.constantLong RX9 100 (2) ∈ wsG := inG (inB5 (List.mem_of_getElem? (i := 78) rfl)) rfl
theorem kl_X9_122 : Cond.constantLong RX9 122 (9) ∈ wsG := inG (inB5 (List.mem_of_getElem? (i := 102) rfl)) rfl
theorem kl_X9_128 : Cond.constantLong RX9 128 (10) ∈ wsG := inG (inB5 (List.mem_of_getElem? (i := 103) rfl)) rfl
theorem kl_X9_257 : Cond.constantLong RX9 257 (-1) ∈ wsG := inG (inB6 (List.mem_of_getElem? (i := 15) rfl)) rfl
theorem kl_X9_82 : Cond.constantLong RX9 82 (-9223372036854775808) ∈ wsG := inG (inB6 (List.mem_of_getElem? (i := 31) rfl)) rfl
theorem kl_X9_277 : Cond.constantLong RX9 277 (99) ∈ wsG := inG (inB6 (List.mem_of_getElem? (i := 64) rfl)) rfl
theorem ini_L : Cond.initialized RL ∈ wsG := inG (inB1 (List.mem_of_getElem? (i := 0) rfl)) rfl
theorem ini_X8 : Cond.initialized RX8 ∈ wsG := inG (inB1 (List.mem_of_getElem? (i := 1) rfl)) rfl
theorem ini_X7 : Cond.initialized RX7 ∈ wsG := inG (inB1 (List.mem_of_getElem? (i := 2) rfl)) rfl
theorem ini_X4 : Cond.initialized RX4 ∈ wsG := inG (inB1 (List.mem_of_getElem? (i := 3) rfl)) rfl
theorem ini_X6 : Cond.initialized RX6 ∈ wsG := inG (inB1 (List.mem_of_getElem? (i := 4) rfl)) rfl
theorem ini_X0 : Cond.initialized RX0 ∈ wsG := inG (inB1 (List.mem_of_getElem? (i := 5) rfl)) rfl
theorem ini_X5 : Cond.initialized RX5 ∈ wsG := inG (inB1 (List.mem_of_getElem? (i := 6) rfl)) rfl
theorem ini_X1 : Cond.initialized RX1 ∈ wsG := inG (inB1 (List.mem_of_getElem? (i := 7) rfl)) rfl
theorem ini_X2 : Cond.initialized RX2 ∈ wsG := inG (inB1 (List.mem_of_getElem? (i := 8) rfl)) rfl
theorem ini_X3 : Cond.initialized RX3 ∈ wsG := inG (inB1 (List.mem_of_getElem? (i := 9) rfl)) rfl
theorem ini_X9 : Cond.initialized RX9 ∈ wsG := inG (inB1 (List.mem_of_getElem? (i := 10) rfl)) rfl
theorem isb_X8 : Cond.instantiable RX8 14 ∈ wsG := inG (inB1 (List.mem_of_getElem? (i := 12) rfl)) rfl
theorem isb_X7 : Cond.instantiable RX7 3 ∈ wsG := inG (inB1 (List.mem_of_getElem? (i := 20) rfl)) rfl
theorem isb_X4 : Cond.instantiable RX4 9 ∈ wsG := inG (inB1 (List.mem_of_getElem? (i := 41) rfl)) rfl
theorem isb_X6 : Cond.instantiable RX6 6 ∈ wsG := inG (inB1 (List.mem_of_getElem? (i := 82) rfl)) rfl
theorem isb_X0 : Cond.instantiable RX0 4 ∈ wsG := inG (inB1 (List.mem_of_getElem? (i := 108) rfl)) rfl
theorem isb_X5 : Cond.instantiable RX5 9 ∈ wsG := inG (inB1 (List.mem_of_getElem? (i := 132) rfl)) rfl
theorem isb_X1 : Cond.instantiable RX1 10 ∈ wsG := inG (inB1 (List.mem_of_getElem? (i := 167) rfl)) rfl
theorem isb_X2 : Cond.instantiable RX2 4 ∈ wsG := inG (inB1 (List.mem_of_getElem? (i := 212) rfl)) rfl
theorem isb_X3 : Cond.instantiable RX3 7 ∈ wsG := inG (inB1 (List.mem_of_getElem? (i := 232) rfl)) rfl
theorem isb_X9 : Cond.instantiable RX9 37 ∈ wsG := inG (inB4 (List.mem_of_getElem? (i := 182) rfl)) rfl
theorem ck_L_7 : Cond.classLink RL 7 RX8 ∈ wsG := inG (inB1 (List.mem_of_getElem? (i := 11) rfl)) rfl
theorem ck_X8_22 : Cond.classLink RX8 22 RX7 ∈ wsG := inG (inB1 (List.mem_of_getElem? (i := 19) rfl)) rfl
theorem ck_X8_29 : Cond.classLink RX8 29 RX4 ∈ wsG := inG (inB1 (List.mem_of_getElem? (i := 40) rfl)) rfl
theorem ck_X8_36 : Cond.classLink RX8 36 RX6 ∈ wsG := inG (inB1 (List.mem_of_getElem? (i := 81) rfl)) rfl
theorem ck_X8_49 : Cond.classLink RX8 49 RX0 ∈ wsG := inG (inB1 (List.mem_of_getElem? (i := 107) rfl)) rfl
theorem ck_X8_58 : Cond.classLink RX8 58 RX5 ∈ wsG := inG (inB1 (List.mem_of_getElem? (i := 131) rfl)) rfl
theorem ck_X8_67 : Cond.classLink RX8 67 RX1 ∈ wsG := inG (inB1 (List.mem_of_getElem? (i := 166) rfl)) rfl
theorem ck_X8_85 : Cond.classLink RX8 85 RX2 ∈ wsG := inG (inB1 (List.mem_of_getElem? (i := 211) rfl)) rfl
theorem ck_X8_92 : Cond.classLink RX8 92 RX3 ∈ wsG := inG (inB1 (List.mem_of_getElem? (i := 231) rfl)) rfl
theorem ck_L_10 : Cond.classLink RL 10 RX9 ∈ wsG := inG (inB4 (List.mem_of_getElem? (i := 181) rfl)) rfl
theorem arc_int : Cond.arrayClass .int ∈ wsG := inG (inB1 (List.mem_of_getElem? (i := 39) rfl)) rfl
theorem arc_long : Cond.arrayClass .long ∈ wsG := inG (inB1 (List.mem_of_getElem? (i := 80) rfl)) rfl
theorem lay_X0_0 : u_lay RX0 TX0 0 ∈ wsG := inG (inB1 (List.mem_of_getElem? (i := 122) rfl)) rfl
theorem lay_X0_1 : u_lay RX0 TX0 1 ∈ wsG := inG (inB1 (List.mem_of_getElem? (i := 124) rfl)) rfl
theorem lay_X0_2 : u_lay RX0 TX0 2 ∈ wsG := inG (inB1 (List.mem_of_getElem? (i := 126) rfl)) rfl
theorem lay_X0_3 : u_lay RX0 TX0 3 ∈ wsG := inG (inB1 (List.mem_of_getElem? (i := 128) rfl)) rfl
theorem uw_X0 : ∀ w ∈ u_ws RX0 TX0 4, w ∈ wsG := by
  intro w hw
  obtain ⟨k, hk, rfl⟩ := List.mem_map.mp hw
  have hk := List.mem_range.mp hk
  match k, hk with
  | 0, _ => exact lay_X0_0
  | 1, _ => exact lay_X0_1
  | 2, _ => exact lay_X0_2
  | 3, _ => exact lay_X0_3
  | k + 4, hk => exact absurd hk (by omega)
theorem lay_X1_0 : u_lay RX1 TX1 0 ∈ wsG := inG (inB1 (List.mem_of_getElem? (i := 190) rfl)) rfl
theorem lay_X1_1 : u_lay RX1 TX1 1 ∈ wsG := inG (inB1 (List.mem_of_getElem? (i := 192) rfl)) rfl
theorem lay_X1_2 : u_lay RX1 TX1 2 ∈ wsG := inG (inB1 (List.mem_of_getElem? (i := 194) rfl)) rfl
theorem lay_X1_3 : u_lay RX1 TX1 3 ∈ wsG := inG (inB1 (List.mem_of_getElem? (i := 196) rfl)) rfl
theorem lay_X1_4 : u_lay RX1 TX1 4 ∈ wsG := inG (inB1 (List.mem_of_getElem? (i := 198) rfl)) rfl
theorem lay_X1_5 : u_lay RX1 TX1 5 ∈ wsG := inG (inB1 (List.mem_of_getElem? (i := 200) rfl)) rfl
theorem lay_X1_6 : u_lay RX1 TX1 6 ∈ wsG := inG (inB1 (List.mem_of_getElem? (i := 202) rfl)) rfl
theorem lay_X1_7 : u_lay RX1 TX1 7 ∈ wsG := inG (inB1 (List.mem_of_getElem? (i := 204) rfl)) rfl
theorem lay_X1_8 : u_lay RX1 TX1 8 ∈ wsG := inG (inB1 (List.mem_of_getElem? (i := 206) rfl)) rfl
theorem lay_X1_9 : u_lay RX1 TX1 9 ∈ wsG := inG (inB1 (List.mem_of_getElem? (i := 208) rfl)) rfl
theorem uw_X1 : ∀ w ∈ u_ws RX1 TX1 10, w ∈ wsG := by
  intro w hw
  obtain ⟨k, hk, rfl⟩ := List.mem_map.mp hw
  have hk := List.mem_range.mp hk
  match k, hk with
  | 0, _ => exact lay_X1_0
  | 1, _ => exact lay_X1_1
  | 2, _ => exact lay_X1_2
  | 3, _ => exact lay_X1_3
  | 4, _ => exact lay_X1_4
  | 5, _ => exact lay_X1_5
  | 6, _ => exact lay_X1_6
  | 7, _ => exact lay_X1_7
  | 8, _ => exact lay_X1_8
  | 9, _ => exact lay_X1_9
  | k + 10, hk => exact absurd hk (by omega)
theorem lay_X2_0 : u_lay RX2 TX2 0 ∈ wsG := inG (inB1 (List.mem_of_getElem? (i := 222) rfl)) rfl
theorem lay_X2_1 : u_lay RX2 TX2 1 ∈ wsG := inG (inB1 (List.mem_of_getElem? (i := 224) rfl)) rfl
theorem lay_X2_2 : u_lay RX2 TX2 2 ∈ wsG := inG (inB1 (List.mem_of_getElem? (i := 226) rfl)) rfl
theorem lay_X2_3 : u_lay RX2 TX2 3 ∈ wsG := inG (inB1 (List.mem_of_getElem? (i := 228) rfl)) rfl
theorem uw_X2 : ∀ w ∈ u_ws RX2 TX2 4, w ∈ wsG := by
  intro w hw
  obtain ⟨k, hk, rfl⟩ := List.mem_map.mp hw
  have hk := List.mem_range.mp hk
  match k, hk with
  | 0, _ => exact lay_X2_0
  | 1, _ => exact lay_X2_1
  | 2, _ => exact lay_X2_2
  | 3, _ => exact lay_X2_3
  | k + 4, hk => exact absurd hk (by omega)
theorem lay_X3_0 : u_lay RX3 TX3 0 ∈ wsG := inG (inB2 (List.mem_of_getElem? (i := 4) rfl)) rfl
theorem lay_X3_1 : u_lay RX3 TX3 1 ∈ wsG := inG (inB2 (List.mem_of_getElem? (i := 6) rfl)) rfl
theorem lay_X3_2 : u_lay RX3 TX3 2 ∈ wsG := inG (inB2 (List.mem_of_getElem? (i := 8) rfl)) rfl
theorem lay_X3_3 : u_lay RX3 TX3 3 ∈ wsG := inG (inB2 (List.mem_of_getElem? (i := 10) rfl)) rfl
theorem lay_X3_4 : u_lay RX3 TX3 4 ∈ wsG := inG (inB2 (List.mem_of_getElem? (i := 12) rfl)) rfl
theorem lay_X3_5 : u_lay RX3 TX3 5 ∈ wsG := inG (inB2 (List.mem_of_getElem? (i := 14) rfl)) rfl
theorem lay_X3_6 : u_lay RX3 TX3 6 ∈ wsG := inG (inB2 (List.mem_of_getElem? (i := 16) rfl)) rfl
theorem uw_X3 : ∀ w ∈ u_ws RX3 TX3 7, w ∈ wsG := by
  intro w hw
  obtain ⟨k, hk, rfl⟩ := List.mem_map.mp hw
  have hk := List.mem_range.mp hk
  match k, hk with
  | 0, _ => exact lay_X3_0
  | 1, _ => exact lay_X3_1
  | 2, _ => exact lay_X3_2
  | 3, _ => exact lay_X3_3
  | 4, _ => exact lay_X3_4
  | 5, _ => exact lay_X3_5
  | 6, _ => exact lay_X3_6
  | k + 7, hk => exact absurd hk (by omega)
theorem lay_X4_0 : u_lay RX4 TX4 0 ∈ wsG := inG (inB1 (List.mem_of_getElem? (i := 61) rfl)) rfl
theorem lay_X4_1 : u_lay RX4 TX4 1 ∈ wsG := inG (inB1 (List.mem_of_getElem? (i := 63) rfl)) rfl
theorem lay_X4_2 : u_lay RX4 TX4 2 ∈ wsG := inG (inB1 (List.mem_of_getElem? (i := 65) rfl)) rfl
theorem lay_X4_3 : u_lay RX4 TX4 3 ∈ wsG := inG (inB1 (List.mem_of_getElem? (i := 67) rfl)) rfl
theorem lay_X4_4 : u_lay RX4 TX4 4 ∈ wsG := inG (inB1 (List.mem_of_getElem? (i := 69) rfl)) rfl
theorem lay_X4_5 : u_lay RX4 TX4 5 ∈ wsG := inG (inB1 (List.mem_of_getElem? (i := 71) rfl)) rfl
theorem lay_X4_6 : u_lay RX4 TX4 6 ∈ wsG := inG (inB1 (List.mem_of_getElem? (i := 73) rfl)) rfl
theorem lay_X4_7 : u_lay RX4 TX4 7 ∈ wsG := inG (inB1 (List.mem_of_getElem? (i := 75) rfl)) rfl
theorem lay_X4_8 : u_lay RX4 TX4 8 ∈ wsG := inG (inB1 (List.mem_of_getElem? (i := 77) rfl)) rfl
theorem uw_X4 : ∀ w ∈ u_ws RX4 TX4 9, w ∈ wsG := by
  intro w hw
  obtain ⟨k, hk, rfl⟩ := List.mem_map.mp hw
  have hk := List.mem_range.mp hk
  match k, hk with
  | 0, _ => exact lay_X4_0
  | 1, _ => exact lay_X4_1
  | 2, _ => exact lay_X4_2
  | 3, _ => exact lay_X4_3
  | 4, _ => exact lay_X4_4
  | 5, _ => exact lay_X4_5
  | 6, _ => exact lay_X4_6
  | 7, _ => exact lay_X4_7
  | 8, _ => exact lay_X4_8
  | k + 9, hk => exact absurd hk (by omega)
theorem lay_X5_0 : u_lay RX5 TX5 0 ∈ wsG := inG (inB1 (List.mem_of_getElem? (i := 147) rfl)) rfl
theorem lay_X5_1 : u_lay RX5 TX5 1 ∈ wsG := inG (inB1 (List.mem_of_getElem? (i := 149) rfl)) rfl
theorem lay_X5_2 : u_lay RX5 TX5 2 ∈ wsG := inG (inB1 (List.mem_of_getElem? (i := 151) rfl)) rfl
theorem lay_X5_3 : u_lay RX5 TX5 3 ∈ wsG := inG (inB1 (List.mem_of_getElem? (i := 153) rfl)) rfl
theorem lay_X5_4 : u_lay RX5 TX5 4 ∈ wsG := inG (inB1 (List.mem_of_getElem? (i := 155) rfl)) rfl
theorem lay_X5_5 : u_lay RX5 TX5 5 ∈ wsG := inG (inB1 (List.mem_of_getElem? (i := 157) rfl)) rfl
theorem lay_X5_6 : u_lay RX5 TX5 6 ∈ wsG := inG (inB1 (List.mem_of_getElem? (i := 159) rfl)) rfl
theorem lay_X5_7 : u_lay RX5 TX5 7 ∈ wsG := inG (inB1 (List.mem_of_getElem? (i := 161) rfl)) rfl
theorem lay_X5_8 : u_lay RX5 TX5 8 ∈ wsG := inG (inB1 (List.mem_of_getElem? (i := 163) rfl)) rfl
theorem uw_X5 : ∀ w ∈ u_ws RX5 TX5 9, w ∈ wsG := by
  intro w hw
  obtain ⟨k, hk, rfl⟩ := List.mem_map.mp hw
  have hk := List.mem_range.mp hk
  match k, hk with
  | 0, _ => exact lay_X5_0
  | 1, _ => exact lay_X5_1
  | 2, _ => exact lay_X5_2
  | 3, _ => exact lay_X5_3
  | 4, _ => exact lay_X5_4
  | 5, _ => exact lay_X5_5
  | 6, _ => exact lay_X5_6
  | 7, _ => exact lay_X5_7
  | 8, _ => exact lay_X5_8
  | k + 9, hk => exact absurd hk (by omega)
theorem lay_X6_0 : u_lay RX6 TX6 0 ∈ wsG := inG (inB1 (List.mem_of_getElem? (i := 94) rfl)) rfl
theorem lay_X6_1 : u_lay RX6 TX6 1 ∈ wsG := inG (inB1 (List.mem_of_getElem? (i := 96) rfl)) rfl
theorem lay_X6_2 : u_lay RX6 TX6 2 ∈ wsG := inG (inB1 (List.mem_of_getElem? (i := 98) rfl)) rfl
theorem lay_X6_3 : u_lay RX6 TX6 3 ∈ wsG := inG (inB1 (List.mem_of_getElem? (i := 100) rfl)) rfl
theorem lay_X6_4 : u_lay RX6 TX6 4 ∈ wsG := inG (inB1 (List.mem_of_getElem? (i := 102) rfl)) rfl
theorem lay_X6_5 : u_lay RX6 TX6 5 ∈ wsG := inG (inB1 (List.mem_of_getElem? (i := 104) rfl)) rfl
theorem uw_X6 : ∀ w ∈ u_ws RX6 TX6 6, w ∈ wsG := by
  intro w hw
  obtain ⟨k, hk, rfl⟩ := List.mem_map.mp hw
  have hk := List.mem_range.mp hk
  match k, hk with
  | 0, _ => exact lay_X6_0
  | 1, _ => exact lay_X6_1
  | 2, _ => exact lay_X6_2
  | 3, _ => exact lay_X6_3
  | 4, _ => exact lay_X6_4
  | 5, _ => exact lay_X6_5
  | k + 6, hk => exact absurd hk (by omega)
theorem lay_X7_0 : u_lay RX7 TX7 0 ∈ wsG := inG (inB1 (List.mem_of_getElem? (i := 32) rfl)) rfl
theorem lay_X7_1 : u_lay RX7 TX7 1 ∈ wsG := inG (inB1 (List.mem_of_getElem? (i := 34) rfl)) rfl
theorem lay_X7_2 : u_lay RX7 TX7 2 ∈ wsG := inG (inB1 (List.mem_of_getElem? (i := 36) rfl)) rfl
theorem uw_X7 : ∀ w ∈ u_ws RX7 TX7 3, w ∈ wsG := by
  intro w hw
  obtain ⟨k, hk, rfl⟩ := List.mem_map.mp hw
  have hk := List.mem_range.mp hk
  match k, hk with
  | 0, _ => exact lay_X7_0
  | 1, _ => exact lay_X7_1
  | 2, _ => exact lay_X7_2
  | k + 3, hk => exact absurd hk (by omega)
theorem lay_X8_0 : u_lay RX8 TX8 0 ∈ wsG := inG (inB2 (List.mem_of_getElem? (i := 33) rfl)) rfl
theorem lay_X8_1 : u_lay RX8 TX8 1 ∈ wsG := inG (inB2 (List.mem_of_getElem? (i := 35) rfl)) rfl
theorem lay_X8_2 : u_lay RX8 TX8 2 ∈ wsG := inG (inB2 (List.mem_of_getElem? (i := 37) rfl)) rfl
theorem lay_X8_3 : u_lay RX8 TX8 3 ∈ wsG := inG (inB2 (List.mem_of_getElem? (i := 39) rfl)) rfl
theorem lay_X8_4 : u_lay RX8 TX8 4 ∈ wsG := inG (inB2 (List.mem_of_getElem? (i := 41) rfl)) rfl
theorem lay_X8_5 : u_lay RX8 TX8 5 ∈ wsG := inG (inB2 (List.mem_of_getElem? (i := 43) rfl)) rfl
theorem lay_X8_6 : u_lay RX8 TX8 6 ∈ wsG := inG (inB2 (List.mem_of_getElem? (i := 45) rfl)) rfl
theorem lay_X8_7 : u_lay RX8 TX8 7 ∈ wsG := inG (inB2 (List.mem_of_getElem? (i := 47) rfl)) rfl
theorem lay_X8_8 : u_lay RX8 TX8 8 ∈ wsG := inG (inB2 (List.mem_of_getElem? (i := 49) rfl)) rfl
theorem lay_X8_9 : u_lay RX8 TX8 9 ∈ wsG := inG (inB2 (List.mem_of_getElem? (i := 51) rfl)) rfl
theorem lay_X8_10 : u_lay RX8 TX8 10 ∈ wsG := inG (inB2 (List.mem_of_getElem? (i := 53) rfl)) rfl
theorem lay_X8_11 : u_lay RX8 TX8 11 ∈ wsG := inG (inB2 (List.mem_of_getElem? (i := 55) rfl)) rfl
theorem lay_X8_12 : u_lay RX8 TX8 12 ∈ wsG := inG (inB2 (List.mem_of_getElem? (i := 57) rfl)) rfl
theorem lay_X8_13 : u_lay RX8 TX8 13 ∈ wsG := inG (inB2 (List.mem_of_getElem? (i := 59) rfl)) rfl
theorem uw_X8 : ∀ w ∈ u_ws RX8 TX8 14, w ∈ wsG := by
  intro w hw
  obtain ⟨k, hk, rfl⟩ := List.mem_map.mp hw
  have hk := List.mem_range.mp hk
  match k, hk with
  | 0, _ => exact lay_X8_0
  | 1, _ => exact lay_X8_1
  | 2, _ => exact lay_X8_2
  | 3, _ => exact lay_X8_3
  | 4, _ => exact lay_X8_4
  | 5, _ => exact lay_X8_5
  | 6, _ => exact lay_X8_6
  | 7, _ => exact lay_X8_7
  | 8, _ => exact lay_X8_8
  | 9, _ => exact lay_X8_9
  | 10, _ => exact lay_X8_10
  | 11, _ => exact lay_X8_11
  | 12, _ => exact lay_X8_12
  | 13, _ => exact lay_X8_13
  | k + 14, hk => exact absurd hk (by omega)
theorem lay_X9_0 : u_lay RX9 TX9 0 ∈ wsG := inG (inB4 (List.mem_of_getElem? (i := 224) rfl)) rfl
theorem lay_X9_1 : u_lay RX9 TX9 1 ∈ wsG := inG (inB4 (List.mem_of_getElem? (i := 226) rfl)) rfl
theorem lay_X9_2 : u_lay RX9 TX9 2 ∈ wsG := inG (inB4 (List.mem_of_getElem? (i := 228) rfl)) rfl
theorem lay_X9_3 : u_lay RX9 TX9 3 ∈ wsG := inG (inB4 (List.mem_of_getElem? (i := 230) rfl)) rfl
theorem lay_X9_4 : u_lay RX9 TX9 4 ∈ wsG := inG (inB4 (List.mem_of_getElem? (i := 232) rfl)) rfl
theorem lay_X9_5 : u_lay RX9 TX9 5 ∈ wsG := inG (inB4 (List.mem_of_getElem? (i := 234) rfl)) rfl
theorem lay_X9_6 : u_lay RX9 TX9 6 ∈ wsG := inG (inB4 (List.mem_of_getElem? (i := 236) rfl)) rfl
theorem lay_X9_7 : u_lay RX9 TX9 7 ∈ wsG := inG (inB4 (List.mem_of_getElem? (i := 238) rfl)) rfl
theorem lay_X9_8 : u_lay RX9 TX9 8 ∈ wsG := inG (inB5 (List.mem_of_getElem? (i := 0) rfl)) rfl
theorem lay_X9_9 : u_lay RX9 TX9 9 ∈ wsG := inG (inB5 (List.mem_of_getElem? (i := 2) rfl)) rfl
theorem lay_X9_10 : u_lay RX9 TX9 10 ∈ wsG := inG (inB5 (List.mem_of_getElem? (i := 4) rfl)) rfl
theorem lay_X9_11 : u_lay RX9 TX9 11 ∈ wsG := inG (inB5 (List.mem_of_getElem? (i := 6) rfl)) rfl
theorem lay_X9_12 : u_lay RX9 TX9 12 ∈ wsG := inG (inB5 (List.mem_of_getElem? (i := 8) rfl)) rfl
theorem lay_X9_13 : u_lay RX9 TX9 13 ∈ wsG := inG (inB5 (List.mem_of_getElem? (i := 10) rfl)) rfl
theorem lay_X9_14 : u_lay RX9 TX9 14 ∈ wsG := inG (inB5 (List.mem_of_getElem? (i := 12) rfl)) rfl
theorem lay_X9_15 : u_lay RX9 TX9 15 ∈ wsG := inG (inB5 (List.mem_of_getElem? (i := 14) rfl)) rfl
theorem lay_X9_16 : u_lay RX9 TX9 16 ∈ wsG := inG (inB5 (List.mem_of_getElem? (i := 16) rfl)) rfl
theorem lay_X9_17 : u_lay RX9 TX9 17 ∈ wsG := inG (inB5 (List.mem_of_getElem? (i := 18) rfl)) rfl
theorem lay_X9_18 : u_lay RX9 TX9 18 ∈ wsG := inG (inB5 (List.mem_of_getElem? (i := 20) rfl)) rfl
theorem lay_X9_19 : u_lay RX9 TX9 19 ∈ wsG := inG (inB5 (List.mem_of_getElem? (i := 22) rfl)) rfl
theorem lay_X9_20 : u_lay RX9 TX9 20 ∈ wsG := inG (inB5 (List.mem_of_getElem? (i := 24) rfl)) rfl
theorem lay_X9_21 : u_lay RX9 TX9 21 ∈ wsG := inG (inB5 (List.mem_of_getElem? (i := 26) rfl)) rfl
theorem lay_X9_22 : u_lay RX9 TX9 22 ∈ wsG := inG (inB5 (List.mem_of_getElem? (i := 28) rfl)) rfl
theorem lay_X9_23 : u_lay RX9 TX9 23 ∈ wsG := inG (inB5 (List.mem_of_getElem? (i := 30) rfl)) rfl
theorem lay_X9_24 : u_lay RX9 TX9 24 ∈ wsG := inG (inB5 (List.mem_of_getElem? (i := 32) rfl)) rfl
theorem lay_X9_25 : u_lay RX9 TX9 25 ∈ wsG := inG (inB5 (List.mem_of_getElem? (i := 34) rfl)) rfl
theorem lay_X9_26 : u_lay RX9 TX9 26 ∈ wsG := inG (inB5 (List.mem_of_getElem? (i := 36) rfl)) rfl
theorem lay_X9_27 : u_lay RX9 TX9 27 ∈ wsG := inG (inB5 (List.mem_of_getElem? (i := 38) rfl)) rfl
theorem lay_X9_28 : u_lay RX9 TX9 28 ∈ wsG := inG (inB5 (List.mem_of_getElem? (i := 40) rfl)) rfl
theorem lay_X9_29 : u_lay RX9 TX9 29 ∈ wsG := inG (inB5 (List.mem_of_getElem? (i := 42) rfl)) rfl
theorem lay_X9_30 : u_lay RX9 TX9 30 ∈ wsG := inG (inB5 (List.mem_of_getElem? (i := 44) rfl)) rfl
theorem lay_X9_31 : u_lay RX9 TX9 31 ∈ wsG := inG (inB5 (List.mem_of_getElem? (i := 46) rfl)) rfl
theorem lay_X9_32 : u_lay RX9 TX9 32 ∈ wsG := inG (inB5 (List.mem_of_getElem? (i := 48) rfl)) rfl
theorem lay_X9_33 : u_lay RX9 TX9 33 ∈ wsG := inG (inB5 (List.mem_of_getElem? (i := 50) rfl)) rfl
theorem lay_X9_34 : u_lay RX9 TX9 34 ∈ wsG := inG (inB5 (List.mem_of_getElem? (i := 52) rfl)) rfl
theorem lay_X9_35 : u_lay RX9 TX9 35 ∈ wsG := inG (inB5 (List.mem_of_getElem? (i := 54) rfl)) rfl
theorem lay_X9_36 : u_lay RX9 TX9 36 ∈ wsG := inG (inB5 (List.mem_of_getElem? (i := 56) rfl)) rfl
theorem uw_X9 : ∀ w ∈ u_ws RX9 TX9 37, w ∈ wsG := by
  intro w hw
  obtain ⟨k, hk, rfl⟩ := List.mem_map.mp hw
  have hk := List.mem_range.mp hk
  match k, hk with
  | 0, _ => exact lay_X9_0
  | 1, _ => exact lay_X9_1
  | 2, _ => exact lay_X9_2
  | 3, _ => exact lay_X9_3
  | 4, _ => exact lay_X9_4
  | 5, _ => exact lay_X9_5
  | 6, _ => exact lay_X9_6
  | 7, _ => exact lay_X9_7
  | 8, _ => exact lay_X9_8
  | 9, _ => exact lay_X9_9
  | 10, _ => exact lay_X9_10
  | 11, _ => exact lay_X9_11
  | 12, _ => exact lay_X9_12
  | 13, _ => exact lay_X9_13
  | 14, _ => exact lay_X9_14
  | 15, _ => exact lay_X9_15
  | 16, _ => exact lay_X9_16
  | 17, _ => exact lay_X9_17
  | 18, _ => exact lay_X9_18
  | 19, _ => exact lay_X9_19
  | 20, _ => exact lay_X9_20
  | 21, _ => exact lay_X9_21
  | 22, _ => exact lay_X9_22
  | 23, _ => exact lay_X9_23
  | 24, _ => exact lay_X9_24
  | 25, _ => exact lay_X9_25
  | 26, _ => exact lay_X9_26
  | 27, _ => exact lay_X9_27
  | 28, _ => exact lay_X9_28
  | 29, _ => exact lay_X9_29
  | 30, _ => exact lay_X9_30
  | 31, _ => exact lay_X9_31
  | 32, _ => exact lay_X9_32
  | 33, _ => exact lay_X9_33
  | 34, _ => exact lay_X9_34
  | 35, _ => exact lay_X9_35
  | 36, _ => exact lay_X9_36
  | k + 37, hk => exact absurd hk (by omega)
theorem oi_code : Cond.code objectInit ⟨#[0xb1]⟩ 1 none ∈ wsG := inG (inB1 (List.mem_of_getElem? (i := 18) rfl)) rfl
theorem oi_inst : Cond.instanceMethod objectInit ∈ wsG := inG (inB1 (List.mem_of_getElem? (i := 17) rfl)) rfl
theorem cd_X0_init : Cond.code yX0_init cX0_init 2 none ∈ wsG := inG (inB1 (List.mem_of_getElem? (i := 111) rfl)) rfl
theorem im_X0_init : Cond.instanceMethod yX0_init ∈ wsG := inG (inB1 (List.mem_of_getElem? (i := 110) rfl)) rfl
theorem cd_X0_beginAnew : Cond.code yX0_beginAnew cX0_beginAnew 1 none ∈ wsG := inG (inB2 (List.mem_of_getElem? (i := 197) rfl)) rfl
theorem im_X0_beginAnew : Cond.instanceMethod yX0_beginAnew ∈ wsG := inG (inB2 (List.mem_of_getElem? (i := 196) rfl)) rfl
theorem se_X0_beginAnew : Cond.selects (yX0_beginAnew).cls yX0_beginAnew yX0_beginAnew ∈ wsG := inG (inS2 (q := (yX0_beginAnew, 4)) (List.mem_of_getElem? (i := 10) rfl)) rfl
theorem cd_X0_takeFirstOrder : Cond.code yX0_takeFirstOrder cX0_takeFirstOrder 2 none ∈ wsG := inG (inB2 (List.mem_of_getElem? (i := 201) rfl)) rfl
theorem im_X0_takeFirstOrder : Cond.instanceMethod yX0_takeFirstOrder ∈ wsG := inG (inB2 (List.mem_of_getElem? (i := 200) rfl)) rfl
theorem se_X0_takeFirstOrder : Cond.selects (yX0_takeFirstOrder).cls yX0_takeFirstOrder yX0_takeFirstOrder ∈ wsG := inG (inS2 (q := (yX0_takeFirstOrder, 4)) (List.mem_of_getElem? (i := 11) rfl)) rfl
theorem cd_X0_follow : Cond.code yX0_follow cX0_follow 3 none ∈ wsG := inG (inB3 (List.mem_of_getElem? (i := 179) rfl)) rfl
theorem im_X0_follow : Cond.instanceMethod yX0_follow ∈ wsG := inG (inB3 (List.mem_of_getElem? (i := 178) rfl)) rfl
theorem se_X0_follow : Cond.selects (yX0_follow).cls yX0_follow yX0_follow ∈ wsG := inG (inS4 (q := (yX0_follow, 4)) (List.mem_of_getElem? (i := 11) rfl)) rfl
theorem cd_X0_turns : Cond.code yX0_turns cX0_turns 1 (some .int) ∈ wsG := inG (inB3 (List.mem_of_getElem? (i := 29) rfl)) rfl
theorem im_X0_turns : Cond.instanceMethod yX0_turns ∈ wsG := inG (inB3 (List.mem_of_getElem? (i := 28) rfl)) rfl
theorem se_X0_turns : Cond.selects (yX0_turns).cls yX0_turns yX0_turns ∈ wsG := inG (inS3 (q := (yX0_turns, 4)) (List.mem_of_getElem? (i := 5) rfl)) rfl
theorem cd_X0_hasTurn : Cond.code yX0_hasTurn cX0_hasTurn 2 (some .boolean) ∈ wsG := inG (inB3 (List.mem_of_getElem? (i := 84) rfl)) rfl
theorem im_X0_hasTurn : Cond.instanceMethod yX0_hasTurn ∈ wsG := inG (inB3 (List.mem_of_getElem? (i := 83) rfl)) rfl
theorem se_X0_hasTurn : Cond.selects (yX0_hasTurn).cls yX0_hasTurn yX0_hasTurn ∈ wsG := inG (inS3 (q := (yX0_hasTurn, 4)) (List.mem_of_getElem? (i := 14) rfl)) rfl
theorem cd_X0_whoAt : Cond.code yX0_whoAt cX0_whoAt 2 (some .int) ∈ wsG := inG (inB2 (List.mem_of_getElem? (i := 232) rfl)) rfl
theorem im_X0_whoAt : Cond.instanceMethod yX0_whoAt ∈ wsG := inG (inB2 (List.mem_of_getElem? (i := 231) rfl)) rfl
theorem se_X0_whoAt : Cond.selects (yX0_whoAt).cls yX0_whoAt yX0_whoAt ∈ wsG := inG (inS3 (q := (yX0_whoAt, 4)) (List.mem_of_getElem? (i := 1) rfl)) rfl
theorem cd_X0_whoIn : Cond.code yX0_whoIn cX0_whoIn 2 (some .int) ∈ wsG := inG (inB3 (List.mem_of_getElem? (i := 42) rfl)) rfl
theorem im_X0_whoIn : Cond.instanceMethod yX0_whoIn ∈ wsG := inG (inB3 (List.mem_of_getElem? (i := 41) rfl)) rfl
theorem se_X0_whoIn : Cond.selects (yX0_whoIn).cls yX0_whoIn yX0_whoIn ∈ wsG := inG (inS3 (q := (yX0_whoIn, 4)) (List.mem_of_getElem? (i := 8) rfl)) rfl
theorem cd_X0_placeOf : Cond.code yX0_placeOf cX0_placeOf 3 (some .int) ∈ wsG := inG (inB2 (List.mem_of_getElem? (i := 228) rfl)) rfl
theorem im_X0_placeOf : Cond.instanceMethod yX0_placeOf ∈ wsG := inG (inB2 (List.mem_of_getElem? (i := 227) rfl)) rfl
theorem se_X0_placeOf : Cond.selects (yX0_placeOf).cls yX0_placeOf yX0_placeOf ∈ wsG := inG (inS3 (q := (yX0_placeOf, 4)) (List.mem_of_getElem? (i := 0) rfl)) rfl
theorem cd_X0_exchange : Cond.code yX0_exchange cX0_exchange 4 none ∈ wsG := inG (inB3 (List.mem_of_getElem? (i := 17) rfl)) rfl
theorem im_X0_exchange : Cond.instanceMethod yX0_exchange ∈ wsG := inG (inB3 (List.mem_of_getElem? (i := 16) rfl)) rfl
theorem se_X0_exchange : Cond.selects (yX0_exchange).cls yX0_exchange yX0_exchange ∈ wsG := inG (inS3 (q := (yX0_exchange, 4)) (List.mem_of_getElem? (i := 3) rfl)) rfl
theorem cd_X0_firstWater : Cond.code yX0_firstWater cX0_firstWater 1 (some .int) ∈ wsG := inG (inB3 (List.mem_of_getElem? (i := 50) rfl)) rfl
theorem im_X0_firstWater : Cond.instanceMethod yX0_firstWater ∈ wsG := inG (inB3 (List.mem_of_getElem? (i := 49) rfl)) rfl
theorem se_X0_firstWater : Cond.selects (yX0_firstWater).cls yX0_firstWater yX0_firstWater ∈ wsG := inG (inS3 (q := (yX0_firstWater, 4)) (List.mem_of_getElem? (i := 10) rfl)) rfl
theorem cd_X0_waterBehind : Cond.code yX0_waterBehind cX0_waterBehind 3 (some .int) ∈ wsG := inG (inB3 (List.mem_of_getElem? (i := 68) rfl)) rfl
theorem im_X0_waterBehind : Cond.instanceMethod yX0_waterBehind ∈ wsG := inG (inB3 (List.mem_of_getElem? (i := 67) rfl)) rfl
theorem se_X0_waterBehind : Cond.selects (yX0_waterBehind).cls yX0_waterBehind yX0_waterBehind ∈ wsG := inG (inS3 (q := (yX0_waterBehind, 4)) (List.mem_of_getElem? (i := 13) rfl)) rfl
theorem cd_X0_takeNextOrder : Cond.code yX0_takeNextOrder cX0_takeNextOrder 5 (some .boolean) ∈ wsG := inG (inB4 (List.mem_of_getElem? (i := 9) rfl)) rfl
theorem im_X0_takeNextOrder : Cond.instanceMethod yX0_takeNextOrder ∈ wsG := inG (inB4 (List.mem_of_getElem? (i := 8) rfl)) rfl
theorem se_X0_takeNextOrder : Cond.selects (yX0_takeNextOrder).cls yX0_takeNextOrder yX0_takeNextOrder ∈ wsG := inG (inS5 (q := (yX0_takeNextOrder, 4)) (List.mem_of_getElem? (i := 6) rfl)) rfl
theorem cd_X0_changesFrom : Cond.code yX0_changesFrom cX0_changesFrom 4 (some .int) ∈ wsG := inG (inB3 (List.mem_of_getElem? (i := 231) rfl)) rfl
theorem im_X0_changesFrom : Cond.instanceMethod yX0_changesFrom ∈ wsG := inG (inB3 (List.mem_of_getElem? (i := 230) rfl)) rfl
theorem se_X0_changesFrom : Cond.selects (yX0_changesFrom).cls yX0_changesFrom yX0_changesFrom ∈ wsG := inG (inS5 (q := (yX0_changesFrom, 4)) (List.mem_of_getElem? (i := 3) rfl)) rfl
theorem cd_X1_init : Cond.code yX1_init cX1_init 2 none ∈ wsG := inG (inB1 (List.mem_of_getElem? (i := 170) rfl)) rfl
theorem im_X1_init : Cond.instanceMethod yX1_init ∈ wsG := inG (inB1 (List.mem_of_getElem? (i := 169) rfl)) rfl
theorem cd_X1_begin : Cond.code yX1_begin cX1_begin 1 none ∈ wsG := inG (inB3 (List.mem_of_getElem? (i := 46) rfl)) rfl
theorem im_X1_begin : Cond.instanceMethod yX1_begin ∈ wsG := inG (inB3 (List.mem_of_getElem? (i := 45) rfl)) rfl
theorem se_X1_begin : Cond.selects (yX1_begin).cls yX1_begin yX1_begin ∈ wsG := inG (inS3 (q := (yX1_begin, 10)) (List.mem_of_getElem? (i := 9) rfl)) rfl
theorem cd_X1_speak : Cond.code yX1_speak cX1_speak 4 none ∈ wsG := inG (inB3 (List.mem_of_getElem? (i := 54) rfl)) rfl
theorem im_X1_speak : Cond.instanceMethod yX1_speak ∈ wsG := inG (inB3 (List.mem_of_getElem? (i := 53) rfl)) rfl
theorem se_X1_speak : Cond.selects (yX1_speak).cls yX1_speak yX1_speak ∈ wsG := inG (inS3 (q := (yX1_speak, 10)) (List.mem_of_getElem? (i := 11) rfl)) rfl
theorem cd_X1_goFreely : Cond.code yX1_goFreely cX1_goFreely 1 none ∈ wsG := inG (inB3 (List.mem_of_getElem? (i := 146) rfl)) rfl
theorem im_X1_goFreely : Cond.instanceMethod yX1_goFreely ∈ wsG := inG (inB3 (List.mem_of_getElem? (i := 145) rfl)) rfl
theorem se_X1_goFreely : Cond.selects (yX1_goFreely).cls yX1_goFreely yX1_goFreely ∈ wsG := inG (inS4 (q := (yX1_goFreely, 10)) (List.mem_of_getElem? (i := 7) rfl)) rfl
theorem cd_X1_goForced : Cond.code yX1_goForced cX1_goForced 4 none ∈ wsG := inG (inB3 (List.mem_of_getElem? (i := 150) rfl)) rfl
theorem im_X1_goForced : Cond.instanceMethod yX1_goForced ∈ wsG := inG (inB3 (List.mem_of_getElem? (i := 149) rfl)) rfl
theorem se_X1_goForced : Cond.selects (yX1_goForced).cls yX1_goForced yX1_goForced ∈ wsG := inG (inS4 (q := (yX1_goForced, 10)) (List.mem_of_getElem? (i := 8) rfl)) rfl
theorem cd_X1_saidIn : Cond.code yX1_saidIn cX1_saidIn 2 (some .int) ∈ wsG := inG (inB3 (List.mem_of_getElem? (i := 158) rfl)) rfl
theorem im_X1_saidIn : Cond.instanceMethod yX1_saidIn ∈ wsG := inG (inB3 (List.mem_of_getElem? (i := 157) rfl)) rfl
theorem se_X1_saidIn : Cond.selects (yX1_saidIn).cls yX1_saidIn yX1_saidIn ∈ wsG := inG (inS4 (q := (yX1_saidIn, 10)) (List.mem_of_getElem? (i := 9) rfl)) rfl
theorem cd_X1_waterIn : Cond.code yX1_waterIn cX1_waterIn 2 (some .int) ∈ wsG := inG (inB3 (List.mem_of_getElem? (i := 167) rfl)) rfl
theorem im_X1_waterIn : Cond.instanceMethod yX1_waterIn ∈ wsG := inG (inB3 (List.mem_of_getElem? (i := 166) rfl)) rfl
theorem se_X1_waterIn : Cond.selects (yX1_waterIn).cls yX1_waterIn yX1_waterIn ∈ wsG := inG (inS4 (q := (yX1_waterIn, 10)) (List.mem_of_getElem? (i := 10) rfl)) rfl
theorem cd_X1_hasSaid : Cond.code yX1_hasSaid cX1_hasSaid 4 (some .boolean) ∈ wsG := inG (inB4 (List.mem_of_getElem? (i := 35) rfl)) rfl
theorem im_X1_hasSaid : Cond.instanceMethod yX1_hasSaid ∈ wsG := inG (inB4 (List.mem_of_getElem? (i := 34) rfl)) rfl
theorem se_X1_hasSaid : Cond.selects (yX1_hasSaid).cls yX1_hasSaid yX1_hasSaid ∈ wsG := inG (inS5 (q := (yX1_hasSaid, 10)) (List.mem_of_getElem? (i := 11) rfl)) rfl
theorem cd_X1_runAwayBy : Cond.code yX1_runAwayBy cX1_runAwayBy 4 (some .int) ∈ wsG := inG (inB4 (List.mem_of_getElem? (i := 90) rfl)) rfl
theorem im_X1_runAwayBy : Cond.instanceMethod yX1_runAwayBy ∈ wsG := inG (inB4 (List.mem_of_getElem? (i := 89) rfl)) rfl
theorem se_X1_runAwayBy : Cond.selects (yX1_runAwayBy).cls yX1_runAwayBy yX1_runAwayBy ∈ wsG := inG (inS6 (q := (yX1_runAwayBy, 10)) (List.mem_of_getElem? (i := 2) rfl)) rfl
theorem cd_X2_init : Cond.code yX2_init cX2_init 1 none ∈ wsG := inG (inB1 (List.mem_of_getElem? (i := 215) rfl)) rfl
theorem im_X2_init : Cond.instanceMethod yX2_init ∈ wsG := inG (inB1 (List.mem_of_getElem? (i := 214) rfl)) rfl
theorem cd_X2_clear : Cond.code yX2_clear cX2_clear 1 none ∈ wsG := inG (inB2 (List.mem_of_getElem? (i := 214) rfl)) rfl
theorem im_X2_clear : Cond.instanceMethod yX2_clear ∈ wsG := inG (inB2 (List.mem_of_getElem? (i := 213) rfl)) rfl
theorem se_X2_clear : Cond.selects (yX2_clear).cls yX2_clear yX2_clear ∈ wsG := inG (inS2 (q := (yX2_clear, 4)) (List.mem_of_getElem? (i := 14) rfl)) rfl
theorem cd_X2_note : Cond.code yX2_note cX2_note 3 none ∈ wsG := inG (inB4 (List.mem_of_getElem? (i := 44) rfl)) rfl
theorem im_X2_note : Cond.instanceMethod yX2_note ∈ wsG := inG (inB4 (List.mem_of_getElem? (i := 43) rfl)) rfl
theorem se_X2_note : Cond.selects (yX2_note).cls yX2_note yX2_note ∈ wsG := inG (inS5 (q := (yX2_note, 4)) (List.mem_of_getElem? (i := 12) rfl)) rfl
theorem cd_X2_close : Cond.code yX2_close cX2_close 3 (some .int) ∈ wsG := inG (inB4 (List.mem_of_getElem? (i := 49) rfl)) rfl
theorem im_X2_close : Cond.instanceMethod yX2_close ∈ wsG := inG (inB4 (List.mem_of_getElem? (i := 48) rfl)) rfl
theorem se_X2_close : Cond.selects (yX2_close).cls yX2_close yX2_close ∈ wsG := inG (inS5 (q := (yX2_close, 4)) (List.mem_of_getElem? (i := 13) rfl)) rfl
theorem cd_X2_compare : Cond.code yX2_compare cX2_compare 6 none ∈ wsG := inG (inB4 (List.mem_of_getElem? (i := 61) rfl)) rfl
theorem im_X2_compare : Cond.instanceMethod yX2_compare ∈ wsG := inG (inB4 (List.mem_of_getElem? (i := 60) rfl)) rfl
theorem se_X2_compare : Cond.selects (yX2_compare).cls yX2_compare yX2_compare ∈ wsG := inG (inS5 (q := (yX2_compare, 4)) (List.mem_of_getElem? (i := 14) rfl)) rfl
theorem cd_X2_goBy : Cond.code yX2_goBy cX2_goBy 4 none ∈ wsG := inG (inB4 (List.mem_of_getElem? (i := 65) rfl)) rfl
theorem im_X2_goBy : Cond.instanceMethod yX2_goBy ∈ wsG := inG (inB4 (List.mem_of_getElem? (i := 64) rfl)) rfl
theorem se_X2_goBy : Cond.selects (yX2_goBy).cls yX2_goBy yX2_goBy ∈ wsG := inG (inS5 (q := (yX2_goBy, 4)) (List.mem_of_getElem? (i := 15) rfl)) rfl
theorem cd_X2_fits : Cond.code yX2_fits cX2_fits 6 (some .boolean) ∈ wsG := inG (inB4 (List.mem_of_getElem? (i := 73) rfl)) rfl
theorem im_X2_fits : Cond.instanceMethod yX2_fits ∈ wsG := inG (inB4 (List.mem_of_getElem? (i := 72) rfl)) rfl
theorem se_X2_fits : Cond.selects (yX2_fits).cls yX2_fits yX2_fits ∈ wsG := inG (inS6 (q := (yX2_fits, 4)) (List.mem_of_getElem? (i := 0) rfl)) rfl
theorem cd_X3_init : Cond.code yX3_init cX3_init 3 none ∈ wsG := inG (inB1 (List.mem_of_getElem? (i := 235) rfl)) rfl
theorem im_X3_init : Cond.instanceMethod yX3_init ∈ wsG := inG (inB1 (List.mem_of_getElem? (i := 234) rfl)) rfl
theorem cd_X3_forget : Cond.code yX3_forget cX3_forget 1 none ∈ wsG := inG (inB2 (List.mem_of_getElem? (i := 210) rfl)) rfl
theorem im_X3_forget : Cond.instanceMethod yX3_forget ∈ wsG := inG (inB2 (List.mem_of_getElem? (i := 209) rfl)) rfl
theorem se_X3_forget : Cond.selects (yX3_forget).cls yX3_forget yX3_forget ∈ wsG := inG (inS2 (q := (yX3_forget, 7)) (List.mem_of_getElem? (i := 13) rfl)) rfl
theorem cd_X3_seek : Cond.code yX3_seek cX3_seek 3 none ∈ wsG := inG (inB3 (List.mem_of_getElem? (i := 219) rfl)) rfl
theorem im_X3_seek : Cond.instanceMethod yX3_seek ∈ wsG := inG (inB3 (List.mem_of_getElem? (i := 218) rfl)) rfl
theorem se_X3_seek : Cond.selects (yX3_seek).cls yX3_seek yX3_seek ∈ wsG := inG (inS5 (q := (yX3_seek, 7)) (List.mem_of_getElem? (i := 1) rfl)) rfl
theorem cd_X3_noteWords : Cond.code yX3_noteWords cX3_noteWords 6 none ∈ wsG := inG (inB4 (List.mem_of_getElem? (i := 0) rfl)) rfl
theorem im_X3_noteWords : Cond.instanceMethod yX3_noteWords ∈ wsG := inG (inB3 (List.mem_of_getElem? (i := 239) rfl)) rfl
theorem se_X3_noteWords : Cond.selects (yX3_noteWords).cls yX3_noteWords yX3_noteWords ∈ wsG := inG (inS5 (q := (yX3_noteWords, 7)) (List.mem_of_getElem? (i := 5) rfl)) rfl
theorem cd_X3_packedOrder : Cond.code yX3_packedOrder cX3_packedOrder 3 (some .int) ∈ wsG := inG (inB3 (List.mem_of_getElem? (i := 235) rfl)) rfl
theorem im_X3_packedOrder : Cond.instanceMethod yX3_packedOrder ∈ wsG := inG (inB3 (List.mem_of_getElem? (i := 234) rfl)) rfl
theorem se_X3_packedOrder : Cond.selects (yX3_packedOrder).cls yX3_packedOrder yX3_packedOrder ∈ wsG := inG (inS5 (q := (yX3_packedOrder, 7)) (List.mem_of_getElem? (i := 4) rfl)) rfl
theorem cd_X3_isFound : Cond.code yX3_isFound cX3_isFound 3 (some .boolean) ∈ wsG := inG (inB4 (List.mem_of_getElem? (i := 14) rfl)) rfl
theorem im_X3_isFound : Cond.instanceMethod yX3_isFound ∈ wsG := inG (inB4 (List.mem_of_getElem? (i := 13) rfl)) rfl
theorem se_X3_isFound : Cond.selects (yX3_isFound).cls yX3_isFound yX3_isFound ∈ wsG := inG (inS5 (q := (yX3_isFound, 7)) (List.mem_of_getElem? (i := 7) rfl)) rfl
theorem cd_X3_changesFor : Cond.code yX3_changesFor cX3_changesFor 3 (some .int) ∈ wsG := inG (inB4 (List.mem_of_getElem? (i := 18) rfl)) rfl
theorem im_X3_changesFor : Cond.instanceMethod yX3_changesFor ∈ wsG := inG (inB4 (List.mem_of_getElem? (i := 17) rfl)) rfl
theorem se_X3_changesFor : Cond.selects (yX3_changesFor).cls yX3_changesFor yX3_changesFor ∈ wsG := inG (inS5 (q := (yX3_changesFor, 7)) (List.mem_of_getElem? (i := 8) rfl)) rfl
theorem cd_X3_whoFor : Cond.code yX3_whoFor cX3_whoFor 5 (some .int) ∈ wsG := inG (inB4 (List.mem_of_getElem? (i := 23) rfl)) rfl
theorem im_X3_whoFor : Cond.instanceMethod yX3_whoFor ∈ wsG := inG (inB4 (List.mem_of_getElem? (i := 22) rfl)) rfl
theorem se_X3_whoFor : Cond.selects (yX3_whoFor).cls yX3_whoFor yX3_whoFor ∈ wsG := inG (inS5 (q := (yX3_whoFor, 7)) (List.mem_of_getElem? (i := 9) rfl)) rfl
theorem cd_X4_init : Cond.code yX4_init cX4_init 1 none ∈ wsG := inG (inB1 (List.mem_of_getElem? (i := 44) rfl)) rfl
theorem im_X4_init : Cond.instanceMethod yX4_init ∈ wsG := inG (inB1 (List.mem_of_getElem? (i := 43) rfl)) rfl
theorem cd_X4_begin : Cond.code yX4_begin cX4_begin 3 none ∈ wsG := inG (inB2 (List.mem_of_getElem? (i := 134) rfl)) rfl
theorem im_X4_begin : Cond.instanceMethod yX4_begin ∈ wsG := inG (inB2 (List.mem_of_getElem? (i := 133) rfl)) rfl
theorem se_X4_begin : Cond.selects (yX4_begin).cls yX4_begin yX4_begin ∈ wsG := inG (inS1 (q := (yX4_begin, 9)) (List.mem_of_getElem? (i := 13) rfl)) rfl
theorem cd_X4_addSpeaker : Cond.code yX4_addSpeaker cX4_addSpeaker 2 none ∈ wsG := inG (inB2 (List.mem_of_getElem? (i := 146) rfl)) rfl
theorem im_X4_addSpeaker : Cond.instanceMethod yX4_addSpeaker ∈ wsG := inG (inB2 (List.mem_of_getElem? (i := 145) rfl)) rfl
theorem se_X4_addSpeaker : Cond.selects (yX4_addSpeaker).cls yX4_addSpeaker yX4_addSpeaker ∈ wsG := inG (inS2 (q := (yX4_addSpeaker, 9)) (List.mem_of_getElem? (i := 0) rfl)) rfl
theorem cd_X4_addWord : Cond.code yX4_addWord cX4_addWord 7 none ∈ wsG := inG (inB2 (List.mem_of_getElem? (i := 155) rfl)) rfl
theorem im_X4_addWord : Cond.instanceMethod yX4_addWord ∈ wsG := inG (inB2 (List.mem_of_getElem? (i := 154) rfl)) rfl
theorem se_X4_addWord : Cond.selects (yX4_addWord).cls yX4_addWord yX4_addWord ∈ wsG := inG (inS2 (q := (yX4_addWord, 9)) (List.mem_of_getElem? (i := 2) rfl)) rfl
theorem cd_X4_become : Cond.code yX4_become cX4_become 4 none ∈ wsG := inG (inB2 (List.mem_of_getElem? (i := 167) rfl)) rfl
theorem im_X4_become : Cond.instanceMethod yX4_become ∈ wsG := inG (inB2 (List.mem_of_getElem? (i := 166) rfl)) rfl
theorem se_X4_become : Cond.selects (yX4_become).cls yX4_become yX4_become ∈ wsG := inG (inS2 (q := (yX4_become, 9)) (List.mem_of_getElem? (i := 4) rfl)) rfl
theorem cd_X4_gainOf : Cond.code yX4_gainOf cX4_gainOf 8 (some .long) ∈ wsG := inG (inB2 (List.mem_of_getElem? (i := 190) rfl)) rfl
theorem im_X4_gainOf : Cond.instanceMethod yX4_gainOf ∈ wsG := inG (inB2 (List.mem_of_getElem? (i := 189) rfl)) rfl
theorem se_X4_gainOf : Cond.selects (yX4_gainOf).cls yX4_gainOf yX4_gainOf ∈ wsG := inG (inS2 (q := (yX4_gainOf, 9)) (List.mem_of_getElem? (i := 9) rfl)) rfl
theorem cd_X4_has : Cond.code yX4_has cX4_has 2 (some .boolean) ∈ wsG := inG (inB2 (List.mem_of_getElem? (i := 222) rfl)) rfl
theorem im_X4_has : Cond.instanceMethod yX4_has ∈ wsG := inG (inB2 (List.mem_of_getElem? (i := 221) rfl)) rfl
theorem se_X4_has : Cond.selects (yX4_has).cls yX4_has yX4_has ∈ wsG := inG (inS2 (q := (yX4_has, 9)) (List.mem_of_getElem? (i := 15) rfl)) rfl
theorem cd_X4_hasWord : Cond.code yX4_hasWord cX4_hasWord 3 (some .boolean) ∈ wsG := inG (inB3 (List.mem_of_getElem? (i := 1) rfl)) rfl
theorem im_X4_hasWord : Cond.instanceMethod yX4_hasWord ∈ wsG := inG (inB3 (List.mem_of_getElem? (i := 0) rfl)) rfl
theorem se_X4_hasWord : Cond.selects (yX4_hasWord).cls yX4_hasWord yX4_hasWord ∈ wsG := inG (inS3 (q := (yX4_hasWord, 9)) (List.mem_of_getElem? (i := 2) rfl)) rfl
theorem cd_X4_placeOfWord : Cond.code yX4_placeOfWord cX4_placeOfWord 2 (some .int) ∈ wsG := inG (inB2 (List.mem_of_getElem? (i := 163) rfl)) rfl
theorem sm_X4_placeOfWord : Cond.static yX4_placeOfWord ∈ wsG := inG (inB2 (List.mem_of_getElem? (i := 162) rfl)) rfl
theorem cd_X4_kindOf : Cond.code yX4_kindOf cX4_kindOf 2 (some .int) ∈ wsG := inG (inB2 (List.mem_of_getElem? (i := 172) rfl)) rfl
theorem im_X4_kindOf : Cond.instanceMethod yX4_kindOf ∈ wsG := inG (inB2 (List.mem_of_getElem? (i := 171) rfl)) rfl
theorem se_X4_kindOf : Cond.selects (yX4_kindOf).cls yX4_kindOf yX4_kindOf ∈ wsG := inG (inS2 (q := (yX4_kindOf, 9)) (List.mem_of_getElem? (i := 5) rfl)) rfl
theorem cd_X4_wordsOf : Cond.code yX4_wordsOf cX4_wordsOf 2 (some .int) ∈ wsG := inG (inB2 (List.mem_of_getElem? (i := 159) rfl)) rfl
theorem im_X4_wordsOf : Cond.instanceMethod yX4_wordsOf ∈ wsG := inG (inB2 (List.mem_of_getElem? (i := 158) rfl)) rfl
theorem se_X4_wordsOf : Cond.selects (yX4_wordsOf).cls yX4_wordsOf yX4_wordsOf ∈ wsG := inG (inS2 (q := (yX4_wordsOf, 9)) (List.mem_of_getElem? (i := 3) rfl)) rfl
theorem cd_X4_lengthOf : Cond.code yX4_lengthOf cX4_lengthOf 3 (some .int) ∈ wsG := inG (inB2 (List.mem_of_getElem? (i := 177) rfl)) rfl
theorem im_X4_lengthOf : Cond.instanceMethod yX4_lengthOf ∈ wsG := inG (inB2 (List.mem_of_getElem? (i := 176) rfl)) rfl
theorem se_X4_lengthOf : Cond.selects (yX4_lengthOf).cls yX4_lengthOf yX4_lengthOf ∈ wsG := inG (inS2 (q := (yX4_lengthOf, 9)) (List.mem_of_getElem? (i := 6) rfl)) rfl
theorem cd_X4_ownOf : Cond.code yX4_ownOf cX4_ownOf 3 (some .int) ∈ wsG := inG (inB2 (List.mem_of_getElem? (i := 181) rfl)) rfl
theorem im_X4_ownOf : Cond.instanceMethod yX4_ownOf ∈ wsG := inG (inB2 (List.mem_of_getElem? (i := 180) rfl)) rfl
theorem se_X4_ownOf : Cond.selects (yX4_ownOf).cls yX4_ownOf yX4_ownOf ∈ wsG := inG (inS2 (q := (yX4_ownOf, 9)) (List.mem_of_getElem? (i := 7) rfl)) rfl
theorem cd_X4_othersOf : Cond.code yX4_othersOf cX4_othersOf 3 (some .int) ∈ wsG := inG (inB2 (List.mem_of_getElem? (i := 185) rfl)) rfl
theorem im_X4_othersOf : Cond.instanceMethod yX4_othersOf ∈ wsG := inG (inB2 (List.mem_of_getElem? (i := 184) rfl)) rfl
theorem se_X4_othersOf : Cond.selects (yX4_othersOf).cls yX4_othersOf yX4_othersOf ∈ wsG := inG (inS2 (q := (yX4_othersOf, 9)) (List.mem_of_getElem? (i := 8) rfl)) rfl
theorem cd_X4_gainBy : Cond.code yX4_gainBy cX4_gainBy 3 (some .long) ∈ wsG := inG (inB3 (List.mem_of_getElem? (i := 61) rfl)) rfl
theorem im_X4_gainBy : Cond.instanceMethod yX4_gainBy ∈ wsG := inG (inB3 (List.mem_of_getElem? (i := 60) rfl)) rfl
theorem se_X4_gainBy : Cond.selects (yX4_gainBy).cls yX4_gainBy yX4_gainBy ∈ wsG := inG (inS3 (q := (yX4_gainBy, 9)) (List.mem_of_getElem? (i := 12) rfl)) rfl
theorem cd_X4_longestWithin : Cond.code yX4_longestWithin cX4_longestWithin 7 (some .int) ∈ wsG := inG (inB3 (List.mem_of_getElem? (i := 207) rfl)) rfl
theorem im_X4_longestWithin : Cond.instanceMethod yX4_longestWithin ∈ wsG := inG (inB3 (List.mem_of_getElem? (i := 206) rfl)) rfl
theorem se_X4_longestWithin : Cond.selects (yX4_longestWithin).cls yX4_longestWithin yX4_longestWithin ∈ wsG := inG (inS5 (q := (yX4_longestWithin, 9)) (List.mem_of_getElem? (i := 0) rfl)) rfl
theorem cd_X5_init : Cond.code yX5_init cX5_init 2 none ∈ wsG := inG (inB1 (List.mem_of_getElem? (i := 135) rfl)) rfl
theorem im_X5_init : Cond.instanceMethod yX5_init ∈ wsG := inG (inB1 (List.mem_of_getElem? (i := 134) rfl)) rfl
theorem cd_X5_makeForEach : Cond.code yX5_makeForEach cX5_makeForEach 3 none ∈ wsG := inG (inB3 (List.mem_of_getElem? (i := 93) rfl)) rfl
theorem im_X5_makeForEach : Cond.instanceMethod yX5_makeForEach ∈ wsG := inG (inB3 (List.mem_of_getElem? (i := 92) rfl)) rfl
theorem se_X5_makeForEach : Cond.selects (yX5_makeForEach).cls yX5_makeForEach yX5_makeForEach ∈ wsG := inG (inS4 (q := (yX5_makeForEach, 9)) (List.mem_of_getElem? (i := 0) rfl)) rfl
theorem cd_X5_makeForFreeDay : Cond.code yX5_makeForFreeDay cX5_makeForFreeDay 1 none ∈ wsG := inG (inB3 (List.mem_of_getElem? (i := 226) rfl)) rfl
theorem im_X5_makeForFreeDay : Cond.instanceMethod yX5_makeForFreeDay ∈ wsG := inG (inB3 (List.mem_of_getElem? (i := 225) rfl)) rfl
theorem se_X5_makeForFreeDay : Cond.selects (yX5_makeForFreeDay).cls yX5_makeForFreeDay yX5_makeForFreeDay ∈ wsG := inG (inS5 (q := (yX5_makeForFreeDay, 9)) (List.mem_of_getElem? (i := 2) rfl)) rfl
theorem cd_X5_makeForAll : Cond.code yX5_makeForAll cX5_makeForAll 1 none ∈ wsG := inG (inB3 (List.mem_of_getElem? (i := 183) rfl)) rfl
theorem im_X5_makeForAll : Cond.instanceMethod yX5_makeForAll ∈ wsG := inG (inB3 (List.mem_of_getElem? (i := 182) rfl)) rfl
theorem se_X5_makeForAll : Cond.selects (yX5_makeForAll).cls yX5_makeForAll yX5_makeForAll ∈ wsG := inG (inS4 (q := (yX5_makeForAll, 9)) (List.mem_of_getElem? (i := 12) rfl)) rfl
theorem cd_X5_beginMaking : Cond.code yX5_beginMaking cX5_beginMaking 1 none ∈ wsG := inG (inB3 (List.mem_of_getElem? (i := 97) rfl)) rfl
theorem im_X5_beginMaking : Cond.instanceMethod yX5_beginMaking ∈ wsG := inG (inB3 (List.mem_of_getElem? (i := 96) rfl)) rfl
theorem se_X5_beginMaking : Cond.selects (yX5_beginMaking).cls yX5_beginMaking yX5_beginMaking ∈ wsG := inG (inS4 (q := (yX5_beginMaking, 9)) (List.mem_of_getElem? (i := 1) rfl)) rfl
theorem cd_X5_openWhatIsReached : Cond.code yX5_openWhatIsReached cX5_openWhatIsReached 3 none ∈ wsG := inG (inB3 (List.mem_of_getElem? (i := 187) rfl)) rfl
theorem im_X5_openWhatIsReached : Cond.instanceMethod yX5_openWhatIsReached ∈ wsG := inG (inB3 (List.mem_of_getElem? (i := 186) rfl)) rfl
theorem se_X5_openWhatIsReached : Cond.selects (yX5_openWhatIsReached).cls yX5_openWhatIsReached yX5_openWhatIsReached ∈ wsG := inG (inS4 (q := (yX5_openWhatIsReached, 9)) (List.mem_of_getElem? (i := 13) rfl)) rfl
theorem cd_X5_openBehind : Cond.code yX5_openBehind cX5_openBehind 6 none ∈ wsG := inG (inB3 (List.mem_of_getElem? (i := 192) rfl)) rfl
theorem im_X5_openBehind : Cond.instanceMethod yX5_openBehind ∈ wsG := inG (inB3 (List.mem_of_getElem? (i := 191) rfl)) rfl
theorem se_X5_openBehind : Cond.selects (yX5_openBehind).cls yX5_openBehind yX5_openBehind ∈ wsG := inG (inS4 (q := (yX5_openBehind, 9)) (List.mem_of_getElem? (i := 14) rfl)) rfl
theorem cd_X5_openState : Cond.code yX5_openState cX5_openState 4 none ∈ wsG := inG (inB3 (List.mem_of_getElem? (i := 102) rfl)) rfl
theorem im_X5_openState : Cond.instanceMethod yX5_openState ∈ wsG := inG (inB3 (List.mem_of_getElem? (i := 101) rfl)) rfl
theorem se_X5_openState : Cond.selects (yX5_openState).cls yX5_openState yX5_openState ∈ wsG := inG (inS4 (q := (yX5_openState, 9)) (List.mem_of_getElem? (i := 2) rfl)) rfl
theorem cd_X5_settleAll : Cond.code yX5_settleAll cX5_settleAll 4 none ∈ wsG := inG (inB3 (List.mem_of_getElem? (i := 111) rfl)) rfl
theorem im_X5_settleAll : Cond.instanceMethod yX5_settleAll ∈ wsG := inG (inB3 (List.mem_of_getElem? (i := 110) rfl)) rfl
theorem se_X5_settleAll : Cond.selects (yX5_settleAll).cls yX5_settleAll yX5_settleAll ∈ wsG := inG (inS4 (q := (yX5_settleAll, 9)) (List.mem_of_getElem? (i := 3) rfl)) rfl
theorem cd_X5_settle : Cond.code yX5_settle cX5_settle 18 none ∈ wsG := inG (inB3 (List.mem_of_getElem? (i := 115) rfl)) rfl
theorem im_X5_settle : Cond.instanceMethod yX5_settle ∈ wsG := inG (inB3 (List.mem_of_getElem? (i := 114) rfl)) rfl
theorem se_X5_settle : Cond.selects (yX5_settle).cls yX5_settle yX5_settle ∈ wsG := inG (inS4 (q := (yX5_settle, 9)) (List.mem_of_getElem? (i := 4) rfl)) rfl
theorem cd_X5_isRather : Cond.code yX5_isRather cX5_isRather 3 (some .boolean) ∈ wsG := inG (inB3 (List.mem_of_getElem? (i := 133) rfl)) rfl
theorem sm_X5_isRather : Cond.static yX5_isRather ∈ wsG := inG (inB3 (List.mem_of_getElem? (i := 132) rfl)) rfl
theorem cd_X5_worthsFrom : Cond.code yX5_worthsFrom cX5_worthsFrom 3 (some .long) ∈ wsG := inG (inB3 (List.mem_of_getElem? (i := 123) rfl)) rfl
theorem im_X5_worthsFrom : Cond.instanceMethod yX5_worthsFrom ∈ wsG := inG (inB3 (List.mem_of_getElem? (i := 122) rfl)) rfl
theorem se_X5_worthsFrom : Cond.selects (yX5_worthsFrom).cls yX5_worthsFrom yX5_worthsFrom ∈ wsG := inG (inS4 (q := (yX5_worthsFrom, 9)) (List.mem_of_getElem? (i := 5) rfl)) rfl
theorem cd_X5_wordAt : Cond.code yX5_wordAt cX5_wordAt 3 (some .int) ∈ wsG := inG (inB3 (List.mem_of_getElem? (i := 138) rfl)) rfl
theorem im_X5_wordAt : Cond.instanceMethod yX5_wordAt ∈ wsG := inG (inB3 (List.mem_of_getElem? (i := 137) rfl)) rfl
theorem se_X5_wordAt : Cond.selects (yX5_wordAt).cls yX5_wordAt yX5_wordAt ∈ wsG := inG (inS4 (q := (yX5_wordAt, 9)) (List.mem_of_getElem? (i := 6) rfl)) rfl
theorem cd_X5_stateOf : Cond.code yX5_stateOf cX5_stateOf 2 (some .int) ∈ wsG := inG (inB3 (List.mem_of_getElem? (i := 105) rfl)) rfl
theorem sm_X5_stateOf : Cond.static yX5_stateOf ∈ wsG := inG (inB3 (List.mem_of_getElem? (i := 104) rfl)) rfl
theorem cd_X6_init : Cond.code yX6_init cX6_init 3 none ∈ wsG := inG (inB1 (List.mem_of_getElem? (i := 85) rfl)) rfl
theorem im_X6_init : Cond.instanceMethod yX6_init ∈ wsG := inG (inB1 (List.mem_of_getElem? (i := 84) rfl)) rfl
theorem cd_X6_firstFault : Cond.code yX6_firstFault cX6_firstFault 4 (some .int) ∈ wsG := inG (inB2 (List.mem_of_getElem? (i := 109) rfl)) rfl
theorem im_X6_firstFault : Cond.instanceMethod yX6_firstFault ∈ wsG := inG (inB2 (List.mem_of_getElem? (i := 108) rfl)) rfl
theorem se_X6_firstFault : Cond.selects (yX6_firstFault).cls yX6_firstFault yX6_firstFault ∈ wsG := inG (inS1 (q := (yX6_firstFault, 6)) (List.mem_of_getElem? (i := 7) rfl)) rfl
theorem cd_X6_readJar : Cond.code yX6_readJar cX6_readJar 3 (some .boolean) ∈ wsG := inG (inB2 (List.mem_of_getElem? (i := 113) rfl)) rfl
theorem im_X6_readJar : Cond.instanceMethod yX6_readJar ∈ wsG := inG (inB2 (List.mem_of_getElem? (i := 112) rfl)) rfl
theorem se_X6_readJar : Cond.selects (yX6_readJar).cls yX6_readJar yX6_readJar ∈ wsG := inG (inS1 (q := (yX6_readJar, 6)) (List.mem_of_getElem? (i := 8) rfl)) rfl
theorem cd_X6_readSpeaker : Cond.code yX6_readSpeaker cX6_readSpeaker 3 (some .boolean) ∈ wsG := inG (inB2 (List.mem_of_getElem? (i := 138) rfl)) rfl
theorem im_X6_readSpeaker : Cond.instanceMethod yX6_readSpeaker ∈ wsG := inG (inB2 (List.mem_of_getElem? (i := 137) rfl)) rfl
theorem se_X6_readSpeaker : Cond.selects (yX6_readSpeaker).cls yX6_readSpeaker yX6_readSpeaker ∈ wsG := inG (inS1 (q := (yX6_readSpeaker, 6)) (List.mem_of_getElem? (i := 14) rfl)) rfl
theorem cd_X6_kindOfSign : Cond.code yX6_kindOfSign cX6_kindOfSign 1 (some .int) ∈ wsG := inG (inB2 (List.mem_of_getElem? (i := 142) rfl)) rfl
theorem im_X6_kindOfSign : Cond.instanceMethod yX6_kindOfSign ∈ wsG := inG (inB2 (List.mem_of_getElem? (i := 141) rfl)) rfl
theorem se_X6_kindOfSign : Cond.selects (yX6_kindOfSign).cls yX6_kindOfSign yX6_kindOfSign ∈ wsG := inG (inS1 (q := (yX6_kindOfSign, 6)) (List.mem_of_getElem? (i := 15) rfl)) rfl
theorem cd_X6_readWord : Cond.code yX6_readWord cX6_readWord 4 (some .boolean) ∈ wsG := inG (inB2 (List.mem_of_getElem? (i := 151) rfl)) rfl
theorem im_X6_readWord : Cond.instanceMethod yX6_readWord ∈ wsG := inG (inB2 (List.mem_of_getElem? (i := 150) rfl)) rfl
theorem se_X6_readWord : Cond.selects (yX6_readWord).cls yX6_readWord yX6_readWord ∈ wsG := inG (inS2 (q := (yX6_readWord, 6)) (List.mem_of_getElem? (i := 1) rfl)) rfl
theorem cd_X6_readNumber : Cond.code yX6_readNumber cX6_readNumber 6 (some .int) ∈ wsG := inG (inB2 (List.mem_of_getElem? (i := 126) rfl)) rfl
theorem im_X6_readNumber : Cond.instanceMethod yX6_readNumber ∈ wsG := inG (inB2 (List.mem_of_getElem? (i := 125) rfl)) rfl
theorem se_X6_readNumber : Cond.selects (yX6_readNumber).cls yX6_readNumber yX6_readNumber ∈ wsG := inG (inS1 (q := (yX6_readNumber, 6)) (List.mem_of_getElem? (i := 11) rfl)) rfl
theorem cd_X6_readDigit : Cond.code yX6_readDigit cX6_readDigit 2 (some .int) ∈ wsG := inG (inB2 (List.mem_of_getElem? (i := 130) rfl)) rfl
theorem im_X6_readDigit : Cond.instanceMethod yX6_readDigit ∈ wsG := inG (inB2 (List.mem_of_getElem? (i := 129) rfl)) rfl
theorem se_X6_readDigit : Cond.selects (yX6_readDigit).cls yX6_readDigit yX6_readDigit ∈ wsG := inG (inS1 (q := (yX6_readDigit, 6)) (List.mem_of_getElem? (i := 12) rfl)) rfl
theorem cd_X6_readSign : Cond.code yX6_readSign cX6_readSign 2 (some .boolean) ∈ wsG := inG (inB2 (List.mem_of_getElem? (i := 117) rfl)) rfl
theorem im_X6_readSign : Cond.instanceMethod yX6_readSign ∈ wsG := inG (inB2 (List.mem_of_getElem? (i := 116) rfl)) rfl
theorem se_X6_readSign : Cond.selects (yX6_readSign).cls yX6_readSign yX6_readSign ∈ wsG := inG (inS1 (q := (yX6_readSign, 6)) (List.mem_of_getElem? (i := 9) rfl)) rfl
theorem cd_X6_isNext : Cond.code yX6_isNext cX6_isNext 2 (some .boolean) ∈ wsG := inG (inB2 (List.mem_of_getElem? (i := 121) rfl)) rfl
theorem im_X6_isNext : Cond.instanceMethod yX6_isNext ∈ wsG := inG (inB2 (List.mem_of_getElem? (i := 120) rfl)) rfl
theorem se_X6_isNext : Cond.selects (yX6_isNext).cls yX6_isNext yX6_isNext ∈ wsG := inG (inS1 (q := (yX6_isNext, 6)) (List.mem_of_getElem? (i := 10) rfl)) rfl
theorem cd_X7_init : Cond.code yX7_init cX7_init 2 none ∈ wsG := inG (inB1 (List.mem_of_getElem? (i := 23) rfl)) rfl
theorem im_X7_init : Cond.instanceMethod yX7_init ∈ wsG := inG (inB1 (List.mem_of_getElem? (i := 22) rfl)) rfl
theorem cd_X7_isSheet : Cond.code yX7_isSheet cX7_isSheet 1 (some .boolean) ∈ wsG := inG (inB2 (List.mem_of_getElem? (i := 76) rfl)) rfl
theorem sm_X7_isSheet : Cond.static yX7_isSheet ∈ wsG := inG (inB2 (List.mem_of_getElem? (i := 75) rfl)) rfl
theorem cd_X7_isLane : Cond.code yX7_isLane cX7_isLane 1 (some .boolean) ∈ wsG := inG (inB2 (List.mem_of_getElem? (i := 79) rfl)) rfl
theorem sm_X7_isLane : Cond.static yX7_isLane ∈ wsG := inG (inB2 (List.mem_of_getElem? (i := 78) rfl)) rfl
theorem cd_X7_laneOf : Cond.code yX7_laneOf cX7_laneOf 2 (some .int) ∈ wsG := inG (inB2 (List.mem_of_getElem? (i := 87) rfl)) rfl
theorem im_X7_laneOf : Cond.instanceMethod yX7_laneOf ∈ wsG := inG (inB2 (List.mem_of_getElem? (i := 86) rfl)) rfl
theorem se_X7_laneOf : Cond.selects (yX7_laneOf).cls yX7_laneOf yX7_laneOf ∈ wsG := inG (inS1 (q := (yX7_laneOf, 3)) (List.mem_of_getElem? (i := 3) rfl)) rfl
theorem cd_X7_sizeOf : Cond.code yX7_sizeOf cX7_sizeOf 2 (some .int) ∈ wsG := inG (inB2 (List.mem_of_getElem? (i := 98) rfl)) rfl
theorem im_X7_sizeOf : Cond.instanceMethod yX7_sizeOf ∈ wsG := inG (inB2 (List.mem_of_getElem? (i := 97) rfl)) rfl
theorem se_X7_sizeOf : Cond.selects (yX7_sizeOf).cls yX7_sizeOf yX7_sizeOf ∈ wsG := inG (inS1 (q := (yX7_sizeOf, 3)) (List.mem_of_getElem? (i := 5) rfl)) rfl
theorem cd_X7_isEmpty : Cond.code yX7_isEmpty cX7_isEmpty 2 (some .boolean) ∈ wsG := inG (inB2 (List.mem_of_getElem? (i := 83) rfl)) rfl
theorem im_X7_isEmpty : Cond.instanceMethod yX7_isEmpty ∈ wsG := inG (inB2 (List.mem_of_getElem? (i := 82) rfl)) rfl
theorem se_X7_isEmpty : Cond.selects (yX7_isEmpty).cls yX7_isEmpty yX7_isEmpty ∈ wsG := inG (inS1 (q := (yX7_isEmpty, 3)) (List.mem_of_getElem? (i := 2) rfl)) rfl
theorem cd_X7_placeOf : Cond.code yX7_placeOf cX7_placeOf 2 (some .int) ∈ wsG := inG (inB2 (List.mem_of_getElem? (i := 105) rfl)) rfl
theorem sm_X7_placeOf : Cond.static yX7_placeOf ∈ wsG := inG (inB2 (List.mem_of_getElem? (i := 104) rfl)) rfl
theorem cd_X7_valueAt : Cond.code yX7_valueAt cX7_valueAt 3 (some .int) ∈ wsG := inG (inB3 (List.mem_of_getElem? (i := 37) rfl)) rfl
theorem im_X7_valueAt : Cond.instanceMethod yX7_valueAt ∈ wsG := inG (inB3 (List.mem_of_getElem? (i := 36) rfl)) rfl
theorem se_X7_valueAt : Cond.selects (yX7_valueAt).cls yX7_valueAt yX7_valueAt ∈ wsG := inG (inS3 (q := (yX7_valueAt, 3)) (List.mem_of_getElem? (i := 7) rfl)) rfl
theorem cd_X7_renew : Cond.code yX7_renew cX7_renew 5 none ∈ wsG := inG (inB4 (List.mem_of_getElem? (i := 103) rfl)) rfl
theorem im_X7_renew : Cond.instanceMethod yX7_renew ∈ wsG := inG (inB4 (List.mem_of_getElem? (i := 102) rfl)) rfl
theorem se_X7_renew : Cond.selects (yX7_renew).cls yX7_renew yX7_renew ∈ wsG := inG (inS6 (q := (yX7_renew, 3)) (List.mem_of_getElem? (i := 3) rfl)) rfl
theorem cd_X7_drop : Cond.code yX7_drop cX7_drop 3 (some .boolean) ∈ wsG := inG (inB4 (List.mem_of_getElem? (i := 111) rfl)) rfl
theorem im_X7_drop : Cond.instanceMethod yX7_drop ∈ wsG := inG (inB4 (List.mem_of_getElem? (i := 110) rfl)) rfl
theorem se_X7_drop : Cond.selects (yX7_drop).cls yX7_drop yX7_drop ∈ wsG := inG (inS6 (q := (yX7_drop, 3)) (List.mem_of_getElem? (i := 4) rfl)) rfl
theorem cd_X7_store : Cond.code yX7_store cX7_store 4 none ∈ wsG := inG (inB4 (List.mem_of_getElem? (i := 121) rfl)) rfl
theorem im_X7_store : Cond.instanceMethod yX7_store ∈ wsG := inG (inB4 (List.mem_of_getElem? (i := 120) rfl)) rfl
theorem se_X7_store : Cond.selects (yX7_store).cls yX7_store yX7_store ∈ wsG := inG (inS6 (q := (yX7_store, 3)) (List.mem_of_getElem? (i := 5) rfl)) rfl
theorem cd_X7_cutTo : Cond.code yX7_cutTo cX7_cutTo 2 (some .int) ∈ wsG := inG (inB4 (List.mem_of_getElem? (i := 124) rfl)) rfl
theorem sm_X7_cutTo : Cond.static yX7_cutTo ∈ wsG := inG (inB4 (List.mem_of_getElem? (i := 123) rfl)) rfl
theorem cd_X7_move : Cond.code yX7_move cX7_move 9 none ∈ wsG := inG (inB4 (List.mem_of_getElem? (i := 139) rfl)) rfl
theorem im_X7_move : Cond.instanceMethod yX7_move ∈ wsG := inG (inB4 (List.mem_of_getElem? (i := 138) rfl)) rfl
theorem se_X7_move : Cond.selects (yX7_move).cls yX7_move yX7_move ∈ wsG := inG (inS6 (q := (yX7_move, 3)) (List.mem_of_getElem? (i := 6) rfl)) rfl
theorem cd_X7_hasPart : Cond.code yX7_hasPart cX7_hasPart 4 (some .boolean) ∈ wsG := inG (inB2 (List.mem_of_getElem? (i := 94) rfl)) rfl
theorem im_X7_hasPart : Cond.instanceMethod yX7_hasPart ∈ wsG := inG (inB2 (List.mem_of_getElem? (i := 93) rfl)) rfl
theorem se_X7_hasPart : Cond.selects (yX7_hasPart).cls yX7_hasPart yX7_hasPart ∈ wsG := inG (inS1 (q := (yX7_hasPart, 3)) (List.mem_of_getElem? (i := 4) rfl)) rfl
theorem cd_X7_rowRefusal : Cond.code yX7_rowRefusal cX7_rowRefusal 3 (some .int) ∈ wsG := inG (inB2 (List.mem_of_getElem? (i := 73) rfl)) rfl
theorem im_X7_rowRefusal : Cond.instanceMethod yX7_rowRefusal ∈ wsG := inG (inB2 (List.mem_of_getElem? (i := 72) rfl)) rfl
theorem se_X7_rowRefusal : Cond.selects (yX7_rowRefusal).cls yX7_rowRefusal yX7_rowRefusal ∈ wsG := inG (inS1 (q := (yX7_rowRefusal, 3)) (List.mem_of_getElem? (i := 1) rfl)) rfl
theorem cd_X7_partRefusal : Cond.code yX7_partRefusal cX7_partRefusal 6 (some .int) ∈ wsG := inG (inB2 (List.mem_of_getElem? (i := 69) rfl)) rfl
theorem im_X7_partRefusal : Cond.instanceMethod yX7_partRefusal ∈ wsG := inG (inB2 (List.mem_of_getElem? (i := 68) rfl)) rfl
theorem se_X7_partRefusal : Cond.selects (yX7_partRefusal).cls yX7_partRefusal yX7_partRefusal ∈ wsG := inG (inS1 (q := (yX7_partRefusal, 3)) (List.mem_of_getElem? (i := 0) rfl)) rfl
theorem cd_X8_init : Cond.code yX8_init cX8_init 1 none ∈ wsG := inG (inB1 (List.mem_of_getElem? (i := 15) rfl)) rfl
theorem im_X8_init : Cond.instanceMethod yX8_init ∈ wsG := inG (inB1 (List.mem_of_getElem? (i := 14) rfl)) rfl
theorem cd_X8_at : Cond.code yX8_at cX8_at 2 (some .int) ∈ wsG := inG (inB2 (List.mem_of_getElem? (i := 90) rfl)) rfl
theorem sm_X8_at : Cond.static yX8_at ∈ wsG := inG (inB2 (List.mem_of_getElem? (i := 89) rfl)) rfl
theorem cd_X8_set : Cond.code yX8_set cX8_set 3 none ∈ wsG := inG (inB1 (List.mem_of_getElem? (i := 27) rfl)) rfl
theorem sm_X8_set : Cond.static yX8_set ∈ wsG := inG (inB1 (List.mem_of_getElem? (i := 26) rfl)) rfl
theorem cd_X8_longAt : Cond.code yX8_longAt cX8_longAt 2 (some .long) ∈ wsG := inG (inB3 (List.mem_of_getElem? (i := 64) rfl)) rfl
theorem sm_X8_longAt : Cond.static yX8_longAt ∈ wsG := inG (inB3 (List.mem_of_getElem? (i := 63) rfl)) rfl
theorem cd_X8_setLong : Cond.code yX8_setLong cX8_setLong 4 none ∈ wsG := inG (inB2 (List.mem_of_getElem? (i := 193) rfl)) rfl
theorem sm_X8_setLong : Cond.static yX8_setLong ∈ wsG := inG (inB2 (List.mem_of_getElem? (i := 192) rfl)) rfl
theorem cd_X8_worthIn : Cond.code yX8_worthIn cX8_worthIn 3 (some .int) ∈ wsG := inG (inB3 (List.mem_of_getElem? (i := 76) rfl)) rfl
theorem sm_X8_worthIn : Cond.static yX8_worthIn ∈ wsG := inG (inB3 (List.mem_of_getElem? (i := 75) rfl)) rfl
theorem cd_X8_worthToAll : Cond.code yX8_worthToAll cX8_worthToAll 4 (some .int) ∈ wsG := inG (inB3 (List.mem_of_getElem? (i := 129) rfl)) rfl
theorem sm_X8_worthToAll : Cond.static yX8_worthToAll ∈ wsG := inG (inB3 (List.mem_of_getElem? (i := 128) rfl)) rfl
theorem cd_X8_council : Cond.code yX8_council cX8_council 7 (some .int) ∈ wsG := inG (inB2 (List.mem_of_getElem? (i := 65) rfl)) rfl
theorem im_X8_council : Cond.instanceMethod yX8_council ∈ wsG := inG (inB2 (List.mem_of_getElem? (i := 63) rfl)) rfl
theorem se_X8_council : Cond.selects (yX8_council).cls yX8_council yX8_council ∈ wsG := inG (inB2 (List.mem_of_getElem? (i := 64) rfl)) rfl
theorem cd_X8_ofSpeaker : Cond.code yX8_ofSpeaker cX8_ofSpeaker 3 (some .int) ∈ wsG := inG (inB2 (List.mem_of_getElem? (i := 218) rfl)) rfl
theorem im_X8_ofSpeaker : Cond.instanceMethod yX8_ofSpeaker ∈ wsG := inG (inB2 (List.mem_of_getElem? (i := 216) rfl)) rfl
theorem se_X8_ofSpeaker : Cond.selects (yX8_ofSpeaker).cls yX8_ofSpeaker yX8_ofSpeaker ∈ wsG := inG (inB2 (List.mem_of_getElem? (i := 217) rfl)) rfl
theorem cd_X8_ofWord : Cond.code yX8_ofWord cX8_ofWord 4 (some .int) ∈ wsG := inG (inB2 (List.mem_of_getElem? (i := 237) rfl)) rfl
theorem im_X8_ofWord : Cond.instanceMethod yX8_ofWord ∈ wsG := inG (inB2 (List.mem_of_getElem? (i := 235) rfl)) rfl
theorem se_X8_ofWord : Cond.selects (yX8_ofWord).cls yX8_ofWord yX8_ofWord ∈ wsG := inG (inB2 (List.mem_of_getElem? (i := 236) rfl)) rfl
theorem cd_X8_law : Cond.code yX8_law cX8_law 3 (some .int) ∈ wsG := inG (inB3 (List.mem_of_getElem? (i := 9) rfl)) rfl
theorem im_X8_law : Cond.instanceMethod yX8_law ∈ wsG := inG (inB3 (List.mem_of_getElem? (i := 7) rfl)) rfl
theorem se_X8_law : Cond.selects (yX8_law).cls yX8_law yX8_law ∈ wsG := inG (inB3 (List.mem_of_getElem? (i := 8) rfl)) rfl
theorem cd_X8_swap : Cond.code yX8_swap cX8_swap 3 (some .int) ∈ wsG := inG (inB3 (List.mem_of_getElem? (i := 13) rfl)) rfl
theorem im_X8_swap : Cond.instanceMethod yX8_swap ∈ wsG := inG (inB3 (List.mem_of_getElem? (i := 11) rfl)) rfl
theorem se_X8_swap : Cond.selects (yX8_swap).cls yX8_swap yX8_swap ∈ wsG := inG (inB3 (List.mem_of_getElem? (i := 12) rfl)) rfl
theorem cd_X8_forgetWhatWas : Cond.code yX8_forgetWhatWas cX8_forgetWhatWas 1 none ∈ wsG := inG (inB2 (List.mem_of_getElem? (i := 206) rfl)) rfl
theorem im_X8_forgetWhatWas : Cond.instanceMethod yX8_forgetWhatWas ∈ wsG := inG (inB2 (List.mem_of_getElem? (i := 205) rfl)) rfl
theorem se_X8_forgetWhatWas : Cond.selects (yX8_forgetWhatWas).cls yX8_forgetWhatWas yX8_forgetWhatWas ∈ wsG := inG (inS2 (q := (yX8_forgetWhatWas, 14)) (List.mem_of_getElem? (i := 12) rfl)) rfl
theorem cd_X8_judge : Cond.code yX8_judge cX8_judge 7 (some .int) ∈ wsG := inG (inB3 (List.mem_of_getElem? (i := 21) rfl)) rfl
theorem im_X8_judge : Cond.instanceMethod yX8_judge ∈ wsG := inG (inB3 (List.mem_of_getElem? (i := 19) rfl)) rfl
theorem se_X8_judge : Cond.selects (yX8_judge).cls yX8_judge yX8_judge ∈ wsG := inG (inB3 (List.mem_of_getElem? (i := 20) rfl)) rfl
theorem cd_X8_worthOf : Cond.code yX8_worthOf cX8_worthOf 7 (some .int) ∈ wsG := inG (inB3 (List.mem_of_getElem? (i := 73) rfl)) rfl
theorem im_X8_worthOf : Cond.instanceMethod yX8_worthOf ∈ wsG := inG (inB3 (List.mem_of_getElem? (i := 71) rfl)) rfl
theorem se_X8_worthOf : Cond.selects (yX8_worthOf).cls yX8_worthOf yX8_worthOf ∈ wsG := inG (inB3 (List.mem_of_getElem? (i := 72) rfl)) rfl
theorem cd_X8_hear : Cond.code yX8_hear cX8_hear 7 (some .int) ∈ wsG := inG (inB3 (List.mem_of_getElem? (i := 25) rfl)) rfl
theorem im_X8_hear : Cond.instanceMethod yX8_hear ∈ wsG := inG (inB3 (List.mem_of_getElem? (i := 24) rfl)) rfl
theorem se_X8_hear : Cond.selects (yX8_hear).cls yX8_hear yX8_hear ∈ wsG := inG (inS3 (q := (yX8_hear, 14)) (List.mem_of_getElem? (i := 4) rfl)) rfl
theorem cd_X8_areWords : Cond.code yX8_areWords cX8_areWords 6 (some .boolean) ∈ wsG := inG (inB3 (List.mem_of_getElem? (i := 33) rfl)) rfl
theorem im_X8_areWords : Cond.instanceMethod yX8_areWords ∈ wsG := inG (inB3 (List.mem_of_getElem? (i := 32) rfl)) rfl
theorem se_X8_areWords : Cond.selects (yX8_areWords).cls yX8_areWords yX8_areWords ∈ wsG := inG (inS3 (q := (yX8_areWords, 14)) (List.mem_of_getElem? (i := 6) rfl)) rfl
theorem cd_X8_choice : Cond.code yX8_choice cX8_choice 3 (some .int) ∈ wsG := inG (inB3 (List.mem_of_getElem? (i := 80) rfl)) rfl
theorem im_X8_choice : Cond.instanceMethod yX8_choice ∈ wsG := inG (inB3 (List.mem_of_getElem? (i := 78) rfl)) rfl
theorem se_X8_choice : Cond.selects (yX8_choice).cls yX8_choice yX8_choice ∈ wsG := inG (inB3 (List.mem_of_getElem? (i := 79) rfl)) rfl
theorem cd_X8_says : Cond.code yX8_says cX8_says 2 (some .int) ∈ wsG := inG (inB3 (List.mem_of_getElem? (i := 142) rfl)) rfl
theorem im_X8_says : Cond.instanceMethod yX8_says ∈ wsG := inG (inB3 (List.mem_of_getElem? (i := 140) rfl)) rfl
theorem se_X8_says : Cond.selects (yX8_says).cls yX8_says yX8_says ∈ wsG := inG (inB3 (List.mem_of_getElem? (i := 141) rfl)) rfl
theorem cd_X8_water : Cond.code yX8_water cX8_water 2 (some .int) ∈ wsG := inG (inB3 (List.mem_of_getElem? (i := 163) rfl)) rfl
theorem im_X8_water : Cond.instanceMethod yX8_water ∈ wsG := inG (inB3 (List.mem_of_getElem? (i := 161) rfl)) rfl
theorem se_X8_water : Cond.selects (yX8_water).cls yX8_water yX8_water ∈ wsG := inG (inB3 (List.mem_of_getElem? (i := 162) rfl)) rfl
theorem cd_X8_worth : Cond.code yX8_worth cX8_worth 2 (some .int) ∈ wsG := inG (inB3 (List.mem_of_getElem? (i := 171) rfl)) rfl
theorem im_X8_worth : Cond.instanceMethod yX8_worth ∈ wsG := inG (inB3 (List.mem_of_getElem? (i := 169) rfl)) rfl
theorem se_X8_worth : Cond.selects (yX8_worth).cls yX8_worth yX8_worth ∈ wsG := inG (inB3 (List.mem_of_getElem? (i := 170) rfl)) rfl
theorem cd_X8_together : Cond.code yX8_together cX8_together 2 (some .int) ∈ wsG := inG (inB3 (List.mem_of_getElem? (i := 175) rfl)) rfl
theorem im_X8_together : Cond.instanceMethod yX8_together ∈ wsG := inG (inB3 (List.mem_of_getElem? (i := 173) rfl)) rfl
theorem se_X8_together : Cond.selects (yX8_together).cls yX8_together yX8_together ∈ wsG := inG (inB3 (List.mem_of_getElem? (i := 174) rfl)) rfl
theorem cd_X8_planAhead : Cond.code yX8_planAhead cX8_planAhead 1 none ∈ wsG := inG (inB3 (List.mem_of_getElem? (i := 89) rfl)) rfl
theorem im_X8_planAhead : Cond.instanceMethod yX8_planAhead ∈ wsG := inG (inB3 (List.mem_of_getElem? (i := 88) rfl)) rfl
theorem se_X8_planAhead : Cond.selects (yX8_planAhead).cls yX8_planAhead yX8_planAhead ∈ wsG := inG (inS3 (q := (yX8_planAhead, 14)) (List.mem_of_getElem? (i := 15) rfl)) rfl
theorem cd_X8_owed : Cond.code yX8_owed cX8_owed 5 (some .long) ∈ wsG := inG (inB3 (List.mem_of_getElem? (i := 197) rfl)) rfl
theorem im_X8_owed : Cond.instanceMethod yX8_owed ∈ wsG := inG (inB3 (List.mem_of_getElem? (i := 195) rfl)) rfl
theorem se_X8_owed : Cond.selects (yX8_owed).cls yX8_owed yX8_owed ∈ wsG := inG (inB3 (List.mem_of_getElem? (i := 196) rfl)) rfl
theorem cd_X8_bargain : Cond.code yX8_bargain cX8_bargain 4 (some .long) ∈ wsG := inG (inB3 (List.mem_of_getElem? (i := 211) rfl)) rfl
theorem im_X8_bargain : Cond.instanceMethod yX8_bargain ∈ wsG := inG (inB3 (List.mem_of_getElem? (i := 209) rfl)) rfl
theorem se_X8_bargain : Cond.selects (yX8_bargain).cls yX8_bargain yX8_bargain ∈ wsG := inG (inB3 (List.mem_of_getElem? (i := 210) rfl)) rfl
theorem cd_X8_areTwo : Cond.code yX8_areTwo cX8_areTwo 3 (some .boolean) ∈ wsG := inG (inB3 (List.mem_of_getElem? (i := 201) rfl)) rfl
theorem im_X8_areTwo : Cond.instanceMethod yX8_areTwo ∈ wsG := inG (inB3 (List.mem_of_getElem? (i := 200) rfl)) rfl
theorem se_X8_areTwo : Cond.selects (yX8_areTwo).cls yX8_areTwo yX8_areTwo ∈ wsG := inG (inS4 (q := (yX8_areTwo, 14)) (List.mem_of_getElem? (i := 15) rfl)) rfl
theorem cd_X8_motion : Cond.code yX8_motion cX8_motion 4 (some .int) ∈ wsG := inG (inB3 (List.mem_of_getElem? (i := 215) rfl)) rfl
theorem im_X8_motion : Cond.instanceMethod yX8_motion ∈ wsG := inG (inB3 (List.mem_of_getElem? (i := 213) rfl)) rfl
theorem se_X8_motion : Cond.selects (yX8_motion).cls yX8_motion yX8_motion ∈ wsG := inG (inB3 (List.mem_of_getElem? (i := 214) rfl)) rfl
theorem cd_X8_dry : Cond.code yX8_dry cX8_dry 5 (some .int) ∈ wsG := inG (inB4 (List.mem_of_getElem? (i := 27) rfl)) rfl
theorem im_X8_dry : Cond.instanceMethod yX8_dry ∈ wsG := inG (inB4 (List.mem_of_getElem? (i := 25) rfl)) rfl
theorem se_X8_dry : Cond.selects (yX8_dry).cls yX8_dry yX8_dry ∈ wsG := inG (inB4 (List.mem_of_getElem? (i := 26) rfl)) rfl
theorem cd_X8_canSilence : Cond.code yX8_canSilence cX8_canSilence 7 (some .boolean) ∈ wsG := inG (inB4 (List.mem_of_getElem? (i := 31) rfl)) rfl
theorem im_X8_canSilence : Cond.instanceMethod yX8_canSilence ∈ wsG := inG (inB4 (List.mem_of_getElem? (i := 30) rfl)) rfl
theorem se_X8_canSilence : Cond.selects (yX8_canSilence).cls yX8_canSilence yX8_canSilence ∈ wsG := inG (inS5 (q := (yX8_canSilence, 14)) (List.mem_of_getElem? (i := 10) rfl)) rfl
theorem cd_X8_day : Cond.code yX8_day cX8_day 8 (some .int) ∈ wsG := inG (inB4 (List.mem_of_getElem? (i := 40) rfl)) rfl
theorem im_X8_day : Cond.instanceMethod yX8_day ∈ wsG := inG (inB4 (List.mem_of_getElem? (i := 38) rfl)) rfl
theorem se_X8_day : Cond.selects (yX8_day).cls yX8_day yX8_day ∈ wsG := inG (inB4 (List.mem_of_getElem? (i := 39) rfl)) rfl
theorem cd_X8_back : Cond.code yX8_back cX8_back 2 (some .int) ∈ wsG := inG (inB4 (List.mem_of_getElem? (i := 53) rfl)) rfl
theorem im_X8_back : Cond.instanceMethod yX8_back ∈ wsG := inG (inB4 (List.mem_of_getElem? (i := 51) rfl)) rfl
theorem se_X8_back : Cond.selects (yX8_back).cls yX8_back yX8_back ∈ wsG := inG (inB4 (List.mem_of_getElem? (i := 52) rfl)) rfl
theorem cd_X8_guess : Cond.code yX8_guess cX8_guess 6 (some .int) ∈ wsG := inG (inB4 (List.mem_of_getElem? (i := 57) rfl)) rfl
theorem im_X8_guess : Cond.instanceMethod yX8_guess ∈ wsG := inG (inB4 (List.mem_of_getElem? (i := 55) rfl)) rfl
theorem se_X8_guess : Cond.selects (yX8_guess).cls yX8_guess yX8_guess ∈ wsG := inG (inB4 (List.mem_of_getElem? (i := 56) rfl)) rfl
theorem cd_X8_byLaw : Cond.code yX8_byLaw cX8_byLaw 6 (some .int) ∈ wsG := inG (inB4 (List.mem_of_getElem? (i := 77) rfl)) rfl
theorem im_X8_byLaw : Cond.instanceMethod yX8_byLaw ∈ wsG := inG (inB4 (List.mem_of_getElem? (i := 75) rfl)) rfl
theorem se_X8_byLaw : Cond.selects (yX8_byLaw).cls yX8_byLaw yX8_byLaw ∈ wsG := inG (inB4 (List.mem_of_getElem? (i := 76) rfl)) rfl
theorem cd_X8_worthUnder : Cond.code yX8_worthUnder cX8_worthUnder 2 (some .int) ∈ wsG := inG (inB4 (List.mem_of_getElem? (i := 81) rfl)) rfl
theorem im_X8_worthUnder : Cond.instanceMethod yX8_worthUnder ∈ wsG := inG (inB4 (List.mem_of_getElem? (i := 80) rfl)) rfl
theorem se_X8_worthUnder : Cond.selects (yX8_worthUnder).cls yX8_worthUnder yX8_worthUnder ∈ wsG := inG (inS6 (q := (yX8_worthUnder, 14)) (List.mem_of_getElem? (i := 1) rfl)) rfl
theorem cd_X8_share : Cond.code yX8_share cX8_share 6 (some .long) ∈ wsG := inG (inB4 (List.mem_of_getElem? (i := 86) rfl)) rfl
theorem im_X8_share : Cond.instanceMethod yX8_share ∈ wsG := inG (inB4 (List.mem_of_getElem? (i := 84) rfl)) rfl
theorem se_X8_share : Cond.selects (yX8_share).cls yX8_share yX8_share ∈ wsG := inG (inB4 (List.mem_of_getElem? (i := 85) rfl)) rfl
theorem cd_X8_commonPart : Cond.code yX8_commonPart cX8_commonPart 6 (some .int) ∈ wsG := inG (inB4 (List.mem_of_getElem? (i := 93) rfl)) rfl
theorem sm_X8_commonPart : Cond.static yX8_commonPart ∈ wsG := inG (inB4 (List.mem_of_getElem? (i := 92) rfl)) rfl
theorem cd_X8_sheet : Cond.code yX8_sheet cX8_sheet 4 (some .int) ∈ wsG := inG (inB4 (List.mem_of_getElem? (i := 97) rfl)) rfl
theorem im_X8_sheet : Cond.instanceMethod yX8_sheet ∈ wsG := inG (inB4 (List.mem_of_getElem? (i := 95) rfl)) rfl
theorem se_X8_sheet : Cond.selects (yX8_sheet).cls yX8_sheet yX8_sheet ∈ wsG := inG (inB4 (List.mem_of_getElem? (i := 96) rfl)) rfl
theorem cd_X8_lose : Cond.code yX8_lose cX8_lose 2 (some .int) ∈ wsG := inG (inB4 (List.mem_of_getElem? (i := 107) rfl)) rfl
theorem im_X8_lose : Cond.instanceMethod yX8_lose ∈ wsG := inG (inB4 (List.mem_of_getElem? (i := 105) rfl)) rfl
theorem se_X8_lose : Cond.selects (yX8_lose).cls yX8_lose yX8_lose ∈ wsG := inG (inB4 (List.mem_of_getElem? (i := 106) rfl)) rfl
theorem cd_X8_put : Cond.code yX8_put cX8_put 4 (some .int) ∈ wsG := inG (inB4 (List.mem_of_getElem? (i := 115) rfl)) rfl
theorem im_X8_put : Cond.instanceMethod yX8_put ∈ wsG := inG (inB4 (List.mem_of_getElem? (i := 113) rfl)) rfl
theorem se_X8_put : Cond.selects (yX8_put).cls yX8_put yX8_put ∈ wsG := inG (inB4 (List.mem_of_getElem? (i := 114) rfl)) rfl
theorem cd_X8_cell : Cond.code yX8_cell cX8_cell 5 (some .long) ∈ wsG := inG (inB4 (List.mem_of_getElem? (i := 128) rfl)) rfl
theorem im_X8_cell : Cond.instanceMethod yX8_cell ∈ wsG := inG (inB4 (List.mem_of_getElem? (i := 126) rfl)) rfl
theorem se_X8_cell : Cond.selects (yX8_cell).cls yX8_cell yX8_cell ∈ wsG := inG (inB4 (List.mem_of_getElem? (i := 127) rfl)) rfl
theorem cd_X8_copy : Cond.code yX8_copy cX8_copy 6 (some .int) ∈ wsG := inG (inB4 (List.mem_of_getElem? (i := 133) rfl)) rfl
theorem im_X8_copy : Cond.instanceMethod yX8_copy ∈ wsG := inG (inB4 (List.mem_of_getElem? (i := 131) rfl)) rfl
theorem se_X8_copy : Cond.selects (yX8_copy).cls yX8_copy yX8_copy ∈ wsG := inG (inB4 (List.mem_of_getElem? (i := 132) rfl)) rfl
theorem cd_X8_tell : Cond.code yX8_tell cX8_tell 2 (some .int) ∈ wsG := inG (inB4 (List.mem_of_getElem? (i := 144) rfl)) rfl
theorem im_X8_tell : Cond.instanceMethod yX8_tell ∈ wsG := inG (inB4 (List.mem_of_getElem? (i := 142) rfl)) rfl
theorem se_X8_tell : Cond.selects (yX8_tell).cls yX8_tell yX8_tell ∈ wsG := inG (inB4 (List.mem_of_getElem? (i := 143) rfl)) rfl
theorem cd_X8_tellPlain : Cond.code yX8_tellPlain cX8_tellPlain 2 (some .int) ∈ wsG := inG (inB4 (List.mem_of_getElem? (i := 160) rfl)) rfl
theorem im_X8_tellPlain : Cond.instanceMethod yX8_tellPlain ∈ wsG := inG (inB4 (List.mem_of_getElem? (i := 159) rfl)) rfl
theorem se_X8_tellPlain : Cond.selects (yX8_tellPlain).cls yX8_tellPlain yX8_tellPlain ∈ wsG := inG (inS6 (q := (yX8_tellPlain, 14)) (List.mem_of_getElem? (i := 10) rfl)) rfl
theorem cd_X8_tellThrifty : Cond.code yX8_tellThrifty cX8_tellThrifty 2 (some .int) ∈ wsG := inG (inB4 (List.mem_of_getElem? (i := 156) rfl)) rfl
theorem im_X8_tellThrifty : Cond.instanceMethod yX8_tellThrifty ∈ wsG := inG (inB4 (List.mem_of_getElem? (i := 155) rfl)) rfl
theorem se_X8_tellThrifty : Cond.selects (yX8_tellThrifty).cls yX8_tellThrifty yX8_tellThrifty ∈ wsG := inG (inS6 (q := (yX8_tellThrifty, 14)) (List.mem_of_getElem? (i := 9) rfl)) rfl
theorem cd_X8_tellOld : Cond.code yX8_tellOld cX8_tellOld 3 (some .int) ∈ wsG := inG (inB4 (List.mem_of_getElem? (i := 148) rfl)) rfl
theorem im_X8_tellOld : Cond.instanceMethod yX8_tellOld ∈ wsG := inG (inB4 (List.mem_of_getElem? (i := 147) rfl)) rfl
theorem se_X8_tellOld : Cond.selects (yX8_tellOld).cls yX8_tellOld yX8_tellOld ∈ wsG := inG (inS6 (q := (yX8_tellOld, 14)) (List.mem_of_getElem? (i := 7) rfl)) rfl
theorem cd_X8_call : Cond.code yX8_call cX8_call 2 (some .int) ∈ wsG := inG (inB4 (List.mem_of_getElem? (i := 164) rfl)) rfl
theorem im_X8_call : Cond.instanceMethod yX8_call ∈ wsG := inG (inB4 (List.mem_of_getElem? (i := 162) rfl)) rfl
theorem se_X8_call : Cond.selects (yX8_call).cls yX8_call yX8_call ∈ wsG := inG (inB4 (List.mem_of_getElem? (i := 163) rfl)) rfl
theorem cd_X8_leaveTrace : Cond.code yX8_leaveTrace cX8_leaveTrace 2 none ∈ wsG := inG (inB4 (List.mem_of_getElem? (i := 152) rfl)) rfl
theorem im_X8_leaveTrace : Cond.instanceMethod yX8_leaveTrace ∈ wsG := inG (inB4 (List.mem_of_getElem? (i := 151) rfl)) rfl
theorem se_X8_leaveTrace : Cond.selects (yX8_leaveTrace).cls yX8_leaveTrace yX8_leaveTrace ∈ wsG := inG (inS6 (q := (yX8_leaveTrace, 14)) (List.mem_of_getElem? (i := 8) rfl)) rfl
theorem cd_X8_as : Cond.code yX8_as cX8_as 3 (some .int) ∈ wsG := inG (inB4 (List.mem_of_getElem? (i := 168) rfl)) rfl
theorem im_X8_as : Cond.instanceMethod yX8_as ∈ wsG := inG (inB4 (List.mem_of_getElem? (i := 166) rfl)) rfl
theorem se_X8_as : Cond.selects (yX8_as).cls yX8_as yX8_as ∈ wsG := inG (inB4 (List.mem_of_getElem? (i := 167) rfl)) rfl
theorem cd_X8_trace : Cond.code yX8_trace cX8_trace 1 (some .int) ∈ wsG := inG (inB4 (List.mem_of_getElem? (i := 172) rfl)) rfl
theorem im_X8_trace : Cond.instanceMethod yX8_trace ∈ wsG := inG (inB4 (List.mem_of_getElem? (i := 170) rfl)) rfl
theorem se_X8_trace : Cond.selects (yX8_trace).cls yX8_trace yX8_trace ∈ wsG := inG (inB4 (List.mem_of_getElem? (i := 171) rfl)) rfl
theorem cd_X8_fault : Cond.code yX8_fault cX8_fault 1 (some .int) ∈ wsG := inG (inB4 (List.mem_of_getElem? (i := 176) rfl)) rfl
theorem im_X8_fault : Cond.instanceMethod yX8_fault ∈ wsG := inG (inB4 (List.mem_of_getElem? (i := 174) rfl)) rfl
theorem se_X8_fault : Cond.selects (yX8_fault).cls yX8_fault yX8_fault ∈ wsG := inG (inB4 (List.mem_of_getElem? (i := 175) rfl)) rfl
theorem cd_X8_many : Cond.code yX8_many cX8_many 2 (some .int) ∈ wsG := inG (inB4 (List.mem_of_getElem? (i := 180) rfl)) rfl
theorem im_X8_many : Cond.instanceMethod yX8_many ∈ wsG := inG (inB4 (List.mem_of_getElem? (i := 178) rfl)) rfl
theorem se_X8_many : Cond.selects (yX8_many).cls yX8_many yX8_many ∈ wsG := inG (inB4 (List.mem_of_getElem? (i := 179) rfl)) rfl
theorem cd_X8_told : Cond.code yX8_told cX8_told 3 (some .int) ∈ wsG := inG (inB2 (List.mem_of_getElem? (i := 102) rfl)) rfl
theorem im_X8_told : Cond.instanceMethod yX8_told ∈ wsG := inG (inB2 (List.mem_of_getElem? (i := 101) rfl)) rfl
theorem se_X8_told : Cond.selects (yX8_told).cls yX8_told yX8_told ∈ wsG := inG (inS1 (q := (yX8_told, 14)) (List.mem_of_getElem? (i := 6) rfl)) rfl
theorem cd_X9_init : Cond.code yX9_init cX9_init 2 none ∈ wsG := inG (inB4 (List.mem_of_getElem? (i := 185) rfl)) rfl
theorem im_X9_init : Cond.instanceMethod yX9_init ∈ wsG := inG (inB4 (List.mem_of_getElem? (i := 184) rfl)) rfl
theorem cd_X9_in : Cond.code yX9_in cX9_in 6 (some .boolean) ∈ wsG := inG (inB5 (List.mem_of_getElem? (i := 73) rfl)) rfl
theorem sm_X9_in : Cond.static yX9_in ∈ wsG := inG (inB5 (List.mem_of_getElem? (i := 72) rfl)) rfl
theorem cd_X9_lost : Cond.code yX9_lost cX9_lost 0 (some .long) ∈ wsG := inG (inB6 (List.mem_of_getElem? (i := 30) rfl)) rfl
theorem sm_X9_lost : Cond.static yX9_lost ∈ wsG := inG (inB6 (List.mem_of_getElem? (i := 29) rfl)) rfl
theorem cd_X9_greater : Cond.code yX9_greater cX9_greater 2 (some .int) ∈ wsG := inG (inB5 (List.mem_of_getElem? (i := 198) rfl)) rfl
theorem sm_X9_greater : Cond.static yX9_greater ∈ wsG := inG (inB5 (List.mem_of_getElem? (i := 197) rfl)) rfl
theorem cd_X9_told : Cond.code yX9_told cX9_told 11 (some .long) ∈ wsG := inG (inB6 (List.mem_of_getElem? (i := 91) rfl)) rfl
theorem sm_X9_told : Cond.static yX9_told ∈ wsG := inG (inB6 (List.mem_of_getElem? (i := 90) rfl)) rfl
theorem cd_X9_refused : Cond.code yX9_refused cX9_refused 2 (some .int) ∈ wsG := inG (inB5 (List.mem_of_getElem? (i := 77) rfl)) rfl
theorem im_X9_refused : Cond.instanceMethod yX9_refused ∈ wsG := inG (inB5 (List.mem_of_getElem? (i := 76) rfl)) rfl
theorem se_X9_refused : Cond.selects (yX9_refused).cls yX9_refused yX9_refused ∈ wsG := inG (inS6 (q := (yX9_refused, 37)) (List.mem_of_getElem? (i := 12) rfl)) rfl
theorem cd_X9_failed : Cond.code yX9_failed cX9_failed 2 (some .int) ∈ wsG := inG (inB5 (List.mem_of_getElem? (i := 82) rfl)) rfl
theorem im_X9_failed : Cond.instanceMethod yX9_failed ∈ wsG := inG (inB5 (List.mem_of_getElem? (i := 81) rfl)) rfl
theorem se_X9_failed : Cond.selects (yX9_failed).cls yX9_failed yX9_failed ∈ wsG := inG (inS6 (q := (yX9_failed, 37)) (List.mem_of_getElem? (i := 13) rfl)) rfl
theorem cd_X9_failedLong : Cond.code yX9_failedLong cX9_failedLong 2 (some .long) ∈ wsG := inG (inB6 (List.mem_of_getElem? (i := 115) rfl)) rfl
theorem im_X9_failedLong : Cond.instanceMethod yX9_failedLong ∈ wsG := inG (inB6 (List.mem_of_getElem? (i := 114) rfl)) rfl
theorem se_X9_failedLong : Cond.selects (yX9_failedLong).cls yX9_failedLong yX9_failedLong ∈ wsG := inG (inS9 (q := (yX9_failedLong, 37)) (List.mem_of_getElem? (i := 5) rfl)) rfl
theorem cd_X9_barred : Cond.code yX9_barred cX9_barred 6 (some .int) ∈ wsG := inG (inB5 (List.mem_of_getElem? (i := 66) rfl)) rfl
theorem im_X9_barred : Cond.instanceMethod yX9_barred ∈ wsG := inG (inB5 (List.mem_of_getElem? (i := 65) rfl)) rfl
theorem se_X9_barred : Cond.selects (yX9_barred).cls yX9_barred yX9_barred ∈ wsG := inG (inS6 (q := (yX9_barred, 37)) (List.mem_of_getElem? (i := 11) rfl)) rfl
theorem cd_X9_noSpeaker : Cond.code yX9_noSpeaker cX9_noSpeaker 2 (some .boolean) ∈ wsG := inG (inB5 (List.mem_of_getElem? (i := 127) rfl)) rfl
theorem im_X9_noSpeaker : Cond.instanceMethod yX9_noSpeaker ∈ wsG := inG (inB5 (List.mem_of_getElem? (i := 126) rfl)) rfl
theorem se_X9_noSpeaker : Cond.selects (yX9_noSpeaker).cls yX9_noSpeaker yX9_noSpeaker ∈ wsG := inG (inS7 (q := (yX9_noSpeaker, 37)) (List.mem_of_getElem? (i := 6) rfl)) rfl
theorem cd_X9_noWord : Cond.code yX9_noWord cX9_noWord 3 (some .boolean) ∈ wsG := inG (inB5 (List.mem_of_getElem? (i := 139) rfl)) rfl
theorem im_X9_noWord : Cond.instanceMethod yX9_noWord ∈ wsG := inG (inB5 (List.mem_of_getElem? (i := 138) rfl)) rfl
theorem se_X9_noWord : Cond.selects (yX9_noWord).cls yX9_noWord yX9_noWord ∈ wsG := inG (inS7 (q := (yX9_noWord, 37)) (List.mem_of_getElem? (i := 8) rfl)) rfl
theorem cd_X9_codeAt : Cond.code yX9_codeAt cX9_codeAt 3 (some .int) ∈ wsG := inG (inB5 (List.mem_of_getElem? (i := 115) rfl)) rfl
theorem im_X9_codeAt : Cond.instanceMethod yX9_codeAt ∈ wsG := inG (inB5 (List.mem_of_getElem? (i := 114) rfl)) rfl
theorem se_X9_codeAt : Cond.selects (yX9_codeAt).cls yX9_codeAt yX9_codeAt ∈ wsG := inG (inS7 (q := (yX9_codeAt, 37)) (List.mem_of_getElem? (i := 4) rfl)) rfl
theorem cd_X9_takes : Cond.code yX9_takes cX9_takes 5 (some .boolean) ∈ wsG := inG (inB5 (List.mem_of_getElem? (i := 93) rfl)) rfl
theorem im_X9_takes : Cond.instanceMethod yX9_takes ∈ wsG := inG (inB5 (List.mem_of_getElem? (i := 92) rfl)) rfl
theorem se_X9_takes : Cond.selects (yX9_takes).cls yX9_takes yX9_takes ∈ wsG := inG (inS6 (q := (yX9_takes, 37)) (List.mem_of_getElem? (i := 15) rfl)) rfl
theorem cd_X9_figureAt : Cond.code yX9_figureAt cX9_figureAt 5 (some .int) ∈ wsG := inG (inB5 (List.mem_of_getElem? (i := 101) rfl)) rfl
theorem im_X9_figureAt : Cond.instanceMethod yX9_figureAt ∈ wsG := inG (inB5 (List.mem_of_getElem? (i := 100) rfl)) rfl
theorem se_X9_figureAt : Cond.selects (yX9_figureAt).cls yX9_figureAt yX9_figureAt ∈ wsG := inG (inS7 (q := (yX9_figureAt, 37)) (List.mem_of_getElem? (i := 1) rfl)) rfl
theorem cd_X9_figure : Cond.code yX9_figure cX9_figure 4 (some .int) ∈ wsG := inG (inB5 (List.mem_of_getElem? (i := 107) rfl)) rfl
theorem im_X9_figure : Cond.instanceMethod yX9_figure ∈ wsG := inG (inB5 (List.mem_of_getElem? (i := 106) rfl)) rfl
theorem se_X9_figure : Cond.selects (yX9_figure).cls yX9_figure yX9_figure ∈ wsG := inG (inS7 (q := (yX9_figure, 37)) (List.mem_of_getElem? (i := 2) rfl)) rfl
theorem cd_X9_two : Cond.code yX9_two cX9_two 7 (some .int) ∈ wsG := inG (inB5 (List.mem_of_getElem? (i := 97) rfl)) rfl
theorem im_X9_two : Cond.instanceMethod yX9_two ∈ wsG := inG (inB5 (List.mem_of_getElem? (i := 96) rfl)) rfl
theorem se_X9_two : Cond.selects (yX9_two).cls yX9_two yX9_two ∈ wsG := inG (inS7 (q := (yX9_two, 37)) (List.mem_of_getElem? (i := 0) rfl)) rfl
theorem cd_X9_readsWord : Cond.code yX9_readsWord cX9_readsWord 5 (some .boolean) ∈ wsG := inG (inB5 (List.mem_of_getElem? (i := 119) rfl)) rfl
theorem im_X9_readsWord : Cond.instanceMethod yX9_readsWord ∈ wsG := inG (inB5 (List.mem_of_getElem? (i := 118) rfl)) rfl
theorem se_X9_readsWord : Cond.selects (yX9_readsWord).cls yX9_readsWord yX9_readsWord ∈ wsG := inG (inS7 (q := (yX9_readsWord, 37)) (List.mem_of_getElem? (i := 5) rfl)) rfl
theorem cd_X9_readsSpeaker : Cond.code yX9_readsSpeaker cX9_readsSpeaker 6 (some .boolean) ∈ wsG := inG (inB5 (List.mem_of_getElem? (i := 111) rfl)) rfl
theorem im_X9_readsSpeaker : Cond.instanceMethod yX9_readsSpeaker ∈ wsG := inG (inB5 (List.mem_of_getElem? (i := 110) rfl)) rfl
theorem se_X9_readsSpeaker : Cond.selects (yX9_readsSpeaker).cls yX9_readsSpeaker yX9_readsSpeaker ∈ wsG := inG (inS7 (q := (yX9_readsSpeaker, 37)) (List.mem_of_getElem? (i := 3) rfl)) rfl
theorem cd_X9_readsCouncil : Cond.code yX9_readsCouncil cX9_readsCouncil 4 (some .boolean) ∈ wsG := inG (inB5 (List.mem_of_getElem? (i := 89) rfl)) rfl
theorem im_X9_readsCouncil : Cond.instanceMethod yX9_readsCouncil ∈ wsG := inG (inB5 (List.mem_of_getElem? (i := 88) rfl)) rfl
theorem se_X9_readsCouncil : Cond.selects (yX9_readsCouncil).cls yX9_readsCouncil yX9_readsCouncil ∈ wsG := inG (inS6 (q := (yX9_readsCouncil, 37)) (List.mem_of_getElem? (i := 14) rfl)) rfl
theorem cd_X9_council : Cond.code yX9_council cX9_council 7 (some .int) ∈ wsG := inG (inB5 (List.mem_of_getElem? (i := 62) rfl)) rfl
theorem im_X9_council : Cond.instanceMethod yX9_council ∈ wsG := inG (inB5 (List.mem_of_getElem? (i := 60) rfl)) rfl
theorem se_X9_council : Cond.selects (yX9_council).cls yX9_council yX9_council ∈ wsG := inG (inB5 (List.mem_of_getElem? (i := 61) rfl)) rfl
theorem cd_X9_placeOf : Cond.code yX9_placeOf cX9_placeOf 4 (some .int) ∈ wsG := inG (inB5 (List.mem_of_getElem? (i := 131) rfl)) rfl
theorem im_X9_placeOf : Cond.instanceMethod yX9_placeOf ∈ wsG := inG (inB5 (List.mem_of_getElem? (i := 130) rfl)) rfl
theorem se_X9_placeOf : Cond.selects (yX9_placeOf).cls yX9_placeOf yX9_placeOf ∈ wsG := inG (inS7 (q := (yX9_placeOf, 37)) (List.mem_of_getElem? (i := 7) rfl)) rfl
theorem cd_X9_ofSpeaker : Cond.code yX9_ofSpeaker cX9_ofSpeaker 3 (some .int) ∈ wsG := inG (inB5 (List.mem_of_getElem? (i := 123) rfl)) rfl
theorem im_X9_ofSpeaker : Cond.instanceMethod yX9_ofSpeaker ∈ wsG := inG (inB5 (List.mem_of_getElem? (i := 121) rfl)) rfl
theorem se_X9_ofSpeaker : Cond.selects (yX9_ofSpeaker).cls yX9_ofSpeaker yX9_ofSpeaker ∈ wsG := inG (inB5 (List.mem_of_getElem? (i := 122) rfl)) rfl
theorem cd_X9_ofWord : Cond.code yX9_ofWord cX9_ofWord 5 (some .int) ∈ wsG := inG (inB5 (List.mem_of_getElem? (i := 135) rfl)) rfl
theorem im_X9_ofWord : Cond.instanceMethod yX9_ofWord ∈ wsG := inG (inB5 (List.mem_of_getElem? (i := 133) rfl)) rfl
theorem se_X9_ofWord : Cond.selects (yX9_ofWord).cls yX9_ofWord yX9_ofWord ∈ wsG := inG (inB5 (List.mem_of_getElem? (i := 134) rfl)) rfl
theorem cd_X9_law : Cond.code yX9_law cX9_law 3 (some .int) ∈ wsG := inG (inB5 (List.mem_of_getElem? (i := 143) rfl)) rfl
theorem im_X9_law : Cond.instanceMethod yX9_law ∈ wsG := inG (inB5 (List.mem_of_getElem? (i := 141) rfl)) rfl
theorem se_X9_law : Cond.selects (yX9_law).cls yX9_law yX9_law ∈ wsG := inG (inB5 (List.mem_of_getElem? (i := 142) rfl)) rfl
theorem cd_X9_swap : Cond.code yX9_swap cX9_swap 5 (some .int) ∈ wsG := inG (inB5 (List.mem_of_getElem? (i := 147) rfl)) rfl
theorem im_X9_swap : Cond.instanceMethod yX9_swap ∈ wsG := inG (inB5 (List.mem_of_getElem? (i := 145) rfl)) rfl
theorem se_X9_swap : Cond.selects (yX9_swap).cls yX9_swap yX9_swap ∈ wsG := inG (inB5 (List.mem_of_getElem? (i := 146) rfl)) rfl
theorem cd_X9_turnsNow : Cond.code yX9_turnsNow cX9_turnsNow 1 (some .int) ∈ wsG := inG (inB5 (List.mem_of_getElem? (i := 159) rfl)) rfl
theorem im_X9_turnsNow : Cond.instanceMethod yX9_turnsNow ∈ wsG := inG (inB5 (List.mem_of_getElem? (i := 158) rfl)) rfl
theorem se_X9_turnsNow : Cond.selects (yX9_turnsNow).cls yX9_turnsNow yX9_turnsNow ∈ wsG := inG (inS7 (q := (yX9_turnsNow, 37)) (List.mem_of_getElem? (i := 10) rfl)) rfl
theorem cd_X9_speakerOf : Cond.code yX9_speakerOf cX9_speakerOf 2 (some .int) ∈ wsG := inG (inB5 (List.mem_of_getElem? (i := 167) rfl)) rfl
theorem im_X9_speakerOf : Cond.instanceMethod yX9_speakerOf ∈ wsG := inG (inB5 (List.mem_of_getElem? (i := 166) rfl)) rfl
theorem se_X9_speakerOf : Cond.selects (yX9_speakerOf).cls yX9_speakerOf yX9_speakerOf ∈ wsG := inG (inS7 (q := (yX9_speakerOf, 37)) (List.mem_of_getElem? (i := 12) rfl)) rfl
theorem cd_X9_startWater : Cond.code yX9_startWater cX9_startWater 1 (some .int) ∈ wsG := inG (inB5 (List.mem_of_getElem? (i := 175) rfl)) rfl
theorem im_X9_startWater : Cond.instanceMethod yX9_startWater ∈ wsG := inG (inB5 (List.mem_of_getElem? (i := 174) rfl)) rfl
theorem se_X9_startWater : Cond.selects (yX9_startWater).cls yX9_startWater yX9_startWater ∈ wsG := inG (inS7 (q := (yX9_startWater, 37)) (List.mem_of_getElem? (i := 14) rfl)) rfl
theorem cd_X9_behind : Cond.code yX9_behind cX9_behind 4 (some .int) ∈ wsG := inG (inB5 (List.mem_of_getElem? (i := 195) rfl)) rfl
theorem im_X9_behind : Cond.instanceMethod yX9_behind ∈ wsG := inG (inB5 (List.mem_of_getElem? (i := 194) rfl)) rfl
theorem se_X9_behind : Cond.selects (yX9_behind).cls yX9_behind yX9_behind ∈ wsG := inG (inS8 (q := (yX9_behind, 37)) (List.mem_of_getElem? (i := 3) rfl)) rfl
theorem cd_X9_leftBy : Cond.code yX9_leftBy cX9_leftBy 4 (some .int) ∈ wsG := inG (inB5 (List.mem_of_getElem? (i := 191) rfl)) rfl
theorem im_X9_leftBy : Cond.instanceMethod yX9_leftBy ∈ wsG := inG (inB5 (List.mem_of_getElem? (i := 190) rfl)) rfl
theorem se_X9_leftBy : Cond.selects (yX9_leftBy).cls yX9_leftBy yX9_leftBy ∈ wsG := inG (inS8 (q := (yX9_leftBy, 37)) (List.mem_of_getElem? (i := 2) rfl)) rfl
theorem cd_X9_isHeard : Cond.code yX9_isHeard cX9_isHeard 4 (some .boolean) ∈ wsG := inG (inB5 (List.mem_of_getElem? (i := 183) rfl)) rfl
theorem im_X9_isHeard : Cond.instanceMethod yX9_isHeard ∈ wsG := inG (inB5 (List.mem_of_getElem? (i := 182) rfl)) rfl
theorem se_X9_isHeard : Cond.selects (yX9_isHeard).cls yX9_isHeard yX9_isHeard ∈ wsG := inG (inS8 (q := (yX9_isHeard, 37)) (List.mem_of_getElem? (i := 0) rfl)) rfl
theorem cd_X9_worthFor : Cond.code yX9_worthFor cX9_worthFor 4 (some .int) ∈ wsG := inG (inB5 (List.mem_of_getElem? (i := 187) rfl)) rfl
theorem im_X9_worthFor : Cond.instanceMethod yX9_worthFor ∈ wsG := inG (inB5 (List.mem_of_getElem? (i := 186) rfl)) rfl
theorem se_X9_worthFor : Cond.selects (yX9_worthFor).cls yX9_worthFor yX9_worthFor ∈ wsG := inG (inS8 (q := (yX9_worthFor, 37)) (List.mem_of_getElem? (i := 1) rfl)) rfl
theorem cd_X9_beginDay : Cond.code yX9_beginDay cX9_beginDay 2 none ∈ wsG := inG (inB5 (List.mem_of_getElem? (i := 171) rfl)) rfl
theorem im_X9_beginDay : Cond.instanceMethod yX9_beginDay ∈ wsG := inG (inB5 (List.mem_of_getElem? (i := 170) rfl)) rfl
theorem se_X9_beginDay : Cond.selects (yX9_beginDay).cls yX9_beginDay yX9_beginDay ∈ wsG := inG (inS7 (q := (yX9_beginDay, 37)) (List.mem_of_getElem? (i := 13) rfl)) rfl
theorem cd_X9_goTurn : Cond.code yX9_goTurn cX9_goTurn 7 none ∈ wsG := inG (inB5 (List.mem_of_getElem? (i := 179) rfl)) rfl
theorem im_X9_goTurn : Cond.instanceMethod yX9_goTurn ∈ wsG := inG (inB5 (List.mem_of_getElem? (i := 178) rfl)) rfl
theorem se_X9_goTurn : Cond.selects (yX9_goTurn).cls yX9_goTurn yX9_goTurn ∈ wsG := inG (inS7 (q := (yX9_goTurn, 37)) (List.mem_of_getElem? (i := 15) rfl)) rfl
theorem cd_X9_areWords : Cond.code yX9_areWords cX9_areWords 5 (some .boolean) ∈ wsG := inG (inB5 (List.mem_of_getElem? (i := 163) rfl)) rfl
theorem im_X9_areWords : Cond.instanceMethod yX9_areWords ∈ wsG := inG (inB5 (List.mem_of_getElem? (i := 162) rfl)) rfl
theorem se_X9_areWords : Cond.selects (yX9_areWords).cls yX9_areWords yX9_areWords ∈ wsG := inG (inS7 (q := (yX9_areWords, 37)) (List.mem_of_getElem? (i := 11) rfl)) rfl
theorem cd_X9_goTold : Cond.code yX9_goTold cX9_goTold 8 (some .int) ∈ wsG := inG (inB5 (List.mem_of_getElem? (i := 155) rfl)) rfl
theorem im_X9_goTold : Cond.instanceMethod yX9_goTold ∈ wsG := inG (inB5 (List.mem_of_getElem? (i := 154) rfl)) rfl
theorem se_X9_goTold : Cond.selects (yX9_goTold).cls yX9_goTold yX9_goTold ∈ wsG := inG (inS7 (q := (yX9_goTold, 37)) (List.mem_of_getElem? (i := 9) rfl)) rfl
theorem cd_X9_judge : Cond.code yX9_judge cX9_judge 7 (some .int) ∈ wsG := inG (inB5 (List.mem_of_getElem? (i := 151) rfl)) rfl
theorem im_X9_judge : Cond.instanceMethod yX9_judge ∈ wsG := inG (inB5 (List.mem_of_getElem? (i := 149) rfl)) rfl
theorem se_X9_judge : Cond.selects (yX9_judge).cls yX9_judge yX9_judge ∈ wsG := inG (inB5 (List.mem_of_getElem? (i := 150) rfl)) rfl
theorem cd_X9_worthOf : Cond.code yX9_worthOf cX9_worthOf 7 (some .int) ∈ wsG := inG (inB5 (List.mem_of_getElem? (i := 202) rfl)) rfl
theorem im_X9_worthOf : Cond.instanceMethod yX9_worthOf ∈ wsG := inG (inB5 (List.mem_of_getElem? (i := 200) rfl)) rfl
theorem se_X9_worthOf : Cond.selects (yX9_worthOf).cls yX9_worthOf yX9_worthOf ∈ wsG := inG (inB5 (List.mem_of_getElem? (i := 201) rfl)) rfl
theorem cd_X9_valueOf : Cond.code yX9_valueOf cX9_valueOf 4 (some .int) ∈ wsG := inG (inB5 (List.mem_of_getElem? (i := 226) rfl)) rfl
theorem im_X9_valueOf : Cond.instanceMethod yX9_valueOf ∈ wsG := inG (inB5 (List.mem_of_getElem? (i := 225) rfl)) rfl
theorem se_X9_valueOf : Cond.selects (yX9_valueOf).cls yX9_valueOf yX9_valueOf ∈ wsG := inG (inS8 (q := (yX9_valueOf, 37)) (List.mem_of_getElem? (i := 8) rfl)) rfl
theorem cd_X9_valueBy : Cond.code yX9_valueBy cX9_valueBy 6 (some .int) ∈ wsG := inG (inB5 (List.mem_of_getElem? (i := 222) rfl)) rfl
theorem im_X9_valueBy : Cond.instanceMethod yX9_valueBy ∈ wsG := inG (inB5 (List.mem_of_getElem? (i := 221) rfl)) rfl
theorem se_X9_valueBy : Cond.selects (yX9_valueBy).cls yX9_valueBy yX9_valueBy ∈ wsG := inG (inS8 (q := (yX9_valueBy, 37)) (List.mem_of_getElem? (i := 7) rfl)) rfl
theorem cd_X9_lengthAs : Cond.code yX9_lengthAs cX9_lengthAs 3 (some .int) ∈ wsG := inG (inB5 (List.mem_of_getElem? (i := 230) rfl)) rfl
theorem im_X9_lengthAs : Cond.instanceMethod yX9_lengthAs ∈ wsG := inG (inB5 (List.mem_of_getElem? (i := 229) rfl)) rfl
theorem se_X9_lengthAs : Cond.selects (yX9_lengthAs).cls yX9_lengthAs yX9_lengthAs ∈ wsG := inG (inS8 (q := (yX9_lengthAs, 37)) (List.mem_of_getElem? (i := 9) rfl)) rfl
theorem cd_X9_bestIn : Cond.code yX9_bestIn cX9_bestIn 10 (some .int) ∈ wsG := inG (inB5 (List.mem_of_getElem? (i := 218) rfl)) rfl
theorem im_X9_bestIn : Cond.instanceMethod yX9_bestIn ∈ wsG := inG (inB5 (List.mem_of_getElem? (i := 217) rfl)) rfl
theorem se_X9_bestIn : Cond.selects (yX9_bestIn).cls yX9_bestIn yX9_bestIn ∈ wsG := inG (inS8 (q := (yX9_bestIn, 37)) (List.mem_of_getElem? (i := 6) rfl)) rfl
theorem cd_X9_layChoices : Cond.code yX9_layChoices cX9_layChoices 6 none ∈ wsG := inG (inB5 (List.mem_of_getElem? (i := 214) rfl)) rfl
theorem im_X9_layChoices : Cond.instanceMethod yX9_layChoices ∈ wsG := inG (inB5 (List.mem_of_getElem? (i := 213) rfl)) rfl
theorem se_X9_layChoices : Cond.selects (yX9_layChoices).cls yX9_layChoices yX9_layChoices ∈ wsG := inG (inS8 (q := (yX9_layChoices, 37)) (List.mem_of_getElem? (i := 5) rfl)) rfl
theorem cd_X9_goDay : Cond.code yX9_goDay cX9_goDay 4 none ∈ wsG := inG (inB6 (List.mem_of_getElem? (i := 2) rfl)) rfl
theorem im_X9_goDay : Cond.instanceMethod yX9_goDay ∈ wsG := inG (inB6 (List.mem_of_getElem? (i := 1) rfl)) rfl
theorem se_X9_goDay : Cond.selects (yX9_goDay).cls yX9_goDay yX9_goDay ∈ wsG := inG (inS8 (q := (yX9_goDay, 37)) (List.mem_of_getElem? (i := 11) rfl)) rfl
theorem cd_X9_goFree : Cond.code yX9_goFree cX9_goFree 1 none ∈ wsG := inG (inB5 (List.mem_of_getElem? (i := 238) rfl)) rfl
theorem im_X9_goFree : Cond.instanceMethod yX9_goFree ∈ wsG := inG (inB5 (List.mem_of_getElem? (i := 237) rfl)) rfl
theorem se_X9_goFree : Cond.selects (yX9_goFree).cls yX9_goFree yX9_goFree ∈ wsG := inG (inS8 (q := (yX9_goFree, 37)) (List.mem_of_getElem? (i := 10) rfl)) rfl
theorem cd_X9_noTurn : Cond.code yX9_noTurn cX9_noTurn 2 (some .boolean) ∈ wsG := inG (inB5 (List.mem_of_getElem? (i := 210) rfl)) rfl
theorem im_X9_noTurn : Cond.instanceMethod yX9_noTurn ∈ wsG := inG (inB5 (List.mem_of_getElem? (i := 209) rfl)) rfl
theorem se_X9_noTurn : Cond.selects (yX9_noTurn).cls yX9_noTurn yX9_noTurn ∈ wsG := inG (inS8 (q := (yX9_noTurn, 37)) (List.mem_of_getElem? (i := 4) rfl)) rfl
theorem cd_X9_choice : Cond.code yX9_choice cX9_choice 3 (some .int) ∈ wsG := inG (inB5 (List.mem_of_getElem? (i := 206) rfl)) rfl
theorem im_X9_choice : Cond.instanceMethod yX9_choice ∈ wsG := inG (inB5 (List.mem_of_getElem? (i := 204) rfl)) rfl
theorem se_X9_choice : Cond.selects (yX9_choice).cls yX9_choice yX9_choice ∈ wsG := inG (inB5 (List.mem_of_getElem? (i := 205) rfl)) rfl
theorem cd_X9_says : Cond.code yX9_says cX9_says 2 (some .int) ∈ wsG := inG (inB5 (List.mem_of_getElem? (i := 234) rfl)) rfl
theorem im_X9_says : Cond.instanceMethod yX9_says ∈ wsG := inG (inB5 (List.mem_of_getElem? (i := 232) rfl)) rfl
theorem se_X9_says : Cond.selects (yX9_says).cls yX9_says yX9_says ∈ wsG := inG (inB5 (List.mem_of_getElem? (i := 233) rfl)) rfl
theorem cd_X9_water : Cond.code yX9_water cX9_water 2 (some .int) ∈ wsG := inG (inB6 (List.mem_of_getElem? (i := 6) rfl)) rfl
theorem im_X9_water : Cond.instanceMethod yX9_water ∈ wsG := inG (inB6 (List.mem_of_getElem? (i := 4) rfl)) rfl
theorem se_X9_water : Cond.selects (yX9_water).cls yX9_water yX9_water ∈ wsG := inG (inB6 (List.mem_of_getElem? (i := 5) rfl)) rfl
theorem cd_X9_worth : Cond.code yX9_worth cX9_worth 2 (some .int) ∈ wsG := inG (inB6 (List.mem_of_getElem? (i := 10) rfl)) rfl
theorem im_X9_worth : Cond.instanceMethod yX9_worth ∈ wsG := inG (inB6 (List.mem_of_getElem? (i := 8) rfl)) rfl
theorem se_X9_worth : Cond.selects (yX9_worth).cls yX9_worth yX9_worth ∈ wsG := inG (inB6 (List.mem_of_getElem? (i := 9) rfl)) rfl
theorem cd_X9_worthToAll : Cond.code yX9_worthToAll cX9_worthToAll 3 (some .int) ∈ wsG := inG (inB6 (List.mem_of_getElem? (i := 23) rfl)) rfl
theorem im_X9_worthToAll : Cond.instanceMethod yX9_worthToAll ∈ wsG := inG (inB6 (List.mem_of_getElem? (i := 22) rfl)) rfl
theorem se_X9_worthToAll : Cond.selects (yX9_worthToAll).cls yX9_worthToAll yX9_worthToAll ∈ wsG := inG (inS8 (q := (yX9_worthToAll, 37)) (List.mem_of_getElem? (i := 13) rfl)) rfl
theorem cd_X9_goRow : Cond.code yX9_goRow cX9_goRow 7 (some .boolean) ∈ wsG := inG (inB6 (List.mem_of_getElem? (i := 19) rfl)) rfl
theorem im_X9_goRow : Cond.instanceMethod yX9_goRow ∈ wsG := inG (inB6 (List.mem_of_getElem? (i := 18) rfl)) rfl
theorem se_X9_goRow : Cond.selects (yX9_goRow).cls yX9_goRow yX9_goRow ∈ wsG := inG (inS8 (q := (yX9_goRow, 37)) (List.mem_of_getElem? (i := 12) rfl)) rfl
theorem cd_X9_together : Cond.code yX9_together cX9_together 7 (some .int) ∈ wsG := inG (inB6 (List.mem_of_getElem? (i := 14) rfl)) rfl
theorem im_X9_together : Cond.instanceMethod yX9_together ∈ wsG := inG (inB6 (List.mem_of_getElem? (i := 12) rfl)) rfl
theorem se_X9_together : Cond.selects (yX9_together).cls yX9_together yX9_together ∈ wsG := inG (inB6 (List.mem_of_getElem? (i := 13) rfl)) rfl
theorem cd_X9_longestBy : Cond.code yX9_longestBy cX9_longestBy 5 (some .int) ∈ wsG := inG (inB6 (List.mem_of_getElem? (i := 35) rfl)) rfl
theorem im_X9_longestBy : Cond.instanceMethod yX9_longestBy ∈ wsG := inG (inB6 (List.mem_of_getElem? (i := 34) rfl)) rfl
theorem se_X9_longestBy : Cond.selects (yX9_longestBy).cls yX9_longestBy yX9_longestBy ∈ wsG := inG (inS8 (q := (yX9_longestBy, 37)) (List.mem_of_getElem? (i := 14) rfl)) rfl
theorem cd_X9_owed : Cond.code yX9_owed cX9_owed 6 (some .long) ∈ wsG := inG (inB6 (List.mem_of_getElem? (i := 27) rfl)) rfl
theorem im_X9_owed : Cond.instanceMethod yX9_owed ∈ wsG := inG (inB6 (List.mem_of_getElem? (i := 25) rfl)) rfl
theorem se_X9_owed : Cond.selects (yX9_owed).cls yX9_owed yX9_owed ∈ wsG := inG (inB6 (List.mem_of_getElem? (i := 26) rfl)) rfl
theorem cd_X9_bargain : Cond.code yX9_bargain cX9_bargain 4 (some .long) ∈ wsG := inG (inB6 (List.mem_of_getElem? (i := 39) rfl)) rfl
theorem im_X9_bargain : Cond.instanceMethod yX9_bargain ∈ wsG := inG (inB6 (List.mem_of_getElem? (i := 37) rfl)) rfl
theorem se_X9_bargain : Cond.selects (yX9_bargain).cls yX9_bargain yX9_bargain ∈ wsG := inG (inB6 (List.mem_of_getElem? (i := 38) rfl)) rfl
theorem cd_X9_isSaid : Cond.code yX9_isSaid cX9_isSaid 5 (some .boolean) ∈ wsG := inG (inB6 (List.mem_of_getElem? (i := 55) rfl)) rfl
theorem im_X9_isSaid : Cond.instanceMethod yX9_isSaid ∈ wsG := inG (inB6 (List.mem_of_getElem? (i := 54) rfl)) rfl
theorem se_X9_isSaid : Cond.selects (yX9_isSaid).cls yX9_isSaid yX9_isSaid ∈ wsG := inG (inS9 (q := (yX9_isSaid, 37)) (List.mem_of_getElem? (i := 1) rfl)) rfl
theorem cd_X9_layOrder : Cond.code yX9_layOrder cX9_layOrder 5 (some .boolean) ∈ wsG := inG (inB6 (List.mem_of_getElem? (i := 47) rfl)) rfl
theorem im_X9_layOrder : Cond.instanceMethod yX9_layOrder ∈ wsG := inG (inB6 (List.mem_of_getElem? (i := 46) rfl)) rfl
theorem se_X9_layOrder : Cond.selects (yX9_layOrder).cls yX9_layOrder yX9_layOrder ∈ wsG := inG (inS8 (q := (yX9_layOrder, 37)) (List.mem_of_getElem? (i := 15) rfl)) rfl
theorem cd_X9_otherPlaces : Cond.code yX9_otherPlaces cX9_otherPlaces 3 (some .int) ∈ wsG := inG (inB6 (List.mem_of_getElem? (i := 51) rfl)) rfl
theorem im_X9_otherPlaces : Cond.instanceMethod yX9_otherPlaces ∈ wsG := inG (inB6 (List.mem_of_getElem? (i := 50) rfl)) rfl
theorem se_X9_otherPlaces : Cond.selects (yX9_otherPlaces).cls yX9_otherPlaces yX9_otherPlaces ∈ wsG := inG (inS9 (q := (yX9_otherPlaces, 37)) (List.mem_of_getElem? (i := 0) rfl)) rfl
theorem cd_X9_motion : Cond.code yX9_motion cX9_motion 8 (some .int) ∈ wsG := inG (inB6 (List.mem_of_getElem? (i := 43) rfl)) rfl
theorem im_X9_motion : Cond.instanceMethod yX9_motion ∈ wsG := inG (inB6 (List.mem_of_getElem? (i := 41) rfl)) rfl
theorem se_X9_motion : Cond.selects (yX9_motion).cls yX9_motion yX9_motion ∈ wsG := inG (inB6 (List.mem_of_getElem? (i := 42) rfl)) rfl
theorem cd_X9_dry : Cond.code yX9_dry cX9_dry 6 (some .int) ∈ wsG := inG (inB6 (List.mem_of_getElem? (i := 59) rfl)) rfl
theorem im_X9_dry : Cond.instanceMethod yX9_dry ∈ wsG := inG (inB6 (List.mem_of_getElem? (i := 57) rfl)) rfl
theorem se_X9_dry : Cond.selects (yX9_dry).cls yX9_dry yX9_dry ∈ wsG := inG (inB6 (List.mem_of_getElem? (i := 58) rfl)) rfl
theorem cd_X9_day : Cond.code yX9_day cX9_day 8 (some .int) ∈ wsG := inG (inB6 (List.mem_of_getElem? (i := 63) rfl)) rfl
theorem im_X9_day : Cond.instanceMethod yX9_day ∈ wsG := inG (inB6 (List.mem_of_getElem? (i := 61) rfl)) rfl
theorem se_X9_day : Cond.selects (yX9_day).cls yX9_day yX9_day ∈ wsG := inG (inB6 (List.mem_of_getElem? (i := 62) rfl)) rfl
theorem cd_X9_back : Cond.code yX9_back cX9_back 2 (some .int) ∈ wsG := inG (inB6 (List.mem_of_getElem? (i := 68) rfl)) rfl
theorem im_X9_back : Cond.instanceMethod yX9_back ∈ wsG := inG (inB6 (List.mem_of_getElem? (i := 66) rfl)) rfl
theorem se_X9_back : Cond.selects (yX9_back).cls yX9_back yX9_back ∈ wsG := inG (inB6 (List.mem_of_getElem? (i := 67) rfl)) rfl
theorem cd_X9_endsSo : Cond.code yX9_endsSo cX9_endsSo 4 (some .boolean) ∈ wsG := inG (inB6 (List.mem_of_getElem? (i := 76) rfl)) rfl
theorem im_X9_endsSo : Cond.instanceMethod yX9_endsSo ∈ wsG := inG (inB6 (List.mem_of_getElem? (i := 75) rfl)) rfl
theorem se_X9_endsSo : Cond.selects (yX9_endsSo).cls yX9_endsSo yX9_endsSo ∈ wsG := inG (inS9 (q := (yX9_endsSo, 37)) (List.mem_of_getElem? (i := 2) rfl)) rfl
theorem cd_X9_guess : Cond.code yX9_guess cX9_guess 8 (some .int) ∈ wsG := inG (inB6 (List.mem_of_getElem? (i := 72) rfl)) rfl
theorem im_X9_guess : Cond.instanceMethod yX9_guess ∈ wsG := inG (inB6 (List.mem_of_getElem? (i := 70) rfl)) rfl
theorem se_X9_guess : Cond.selects (yX9_guess).cls yX9_guess yX9_guess ∈ wsG := inG (inB6 (List.mem_of_getElem? (i := 71) rfl)) rfl
theorem cd_X9_worthBy : Cond.code yX9_worthBy cX9_worthBy 3 (some .int) ∈ wsG := inG (inB6 (List.mem_of_getElem? (i := 84) rfl)) rfl
theorem im_X9_worthBy : Cond.instanceMethod yX9_worthBy ∈ wsG := inG (inB6 (List.mem_of_getElem? (i := 83) rfl)) rfl
theorem se_X9_worthBy : Cond.selects (yX9_worthBy).cls yX9_worthBy yX9_worthBy ∈ wsG := inG (inS9 (q := (yX9_worthBy, 37)) (List.mem_of_getElem? (i := 3) rfl)) rfl
theorem cd_X9_byLaw : Cond.code yX9_byLaw cX9_byLaw 6 (some .int) ∈ wsG := inG (inB6 (List.mem_of_getElem? (i := 80) rfl)) rfl
theorem im_X9_byLaw : Cond.instanceMethod yX9_byLaw ∈ wsG := inG (inB6 (List.mem_of_getElem? (i := 78) rfl)) rfl
theorem se_X9_byLaw : Cond.selects (yX9_byLaw).cls yX9_byLaw yX9_byLaw ∈ wsG := inG (inB6 (List.mem_of_getElem? (i := 79) rfl)) rfl
theorem cd_X9_share : Cond.code yX9_share cX9_share 5 (some .long) ∈ wsG := inG (inB6 (List.mem_of_getElem? (i := 88) rfl)) rfl
theorem im_X9_share : Cond.instanceMethod yX9_share ∈ wsG := inG (inB6 (List.mem_of_getElem? (i := 86) rfl)) rfl
theorem se_X9_share : Cond.selects (yX9_share).cls yX9_share yX9_share ∈ wsG := inG (inB6 (List.mem_of_getElem? (i := 87) rfl)) rfl
theorem cd_X9_noSheet : Cond.code yX9_noSheet cX9_noSheet 1 (some .boolean) ∈ wsG := inG (inB5 (List.mem_of_getElem? (i := 69) rfl)) rfl
theorem sm_X9_noSheet : Cond.static yX9_noSheet ∈ wsG := inG (inB5 (List.mem_of_getElem? (i := 68) rfl)) rfl
theorem cd_X9_sheet : Cond.code yX9_sheet cX9_sheet 5 (some .int) ∈ wsG := inG (inB6 (List.mem_of_getElem? (i := 95) rfl)) rfl
theorem im_X9_sheet : Cond.instanceMethod yX9_sheet ∈ wsG := inG (inB6 (List.mem_of_getElem? (i := 93) rfl)) rfl
theorem se_X9_sheet : Cond.selects (yX9_sheet).cls yX9_sheet yX9_sheet ∈ wsG := inG (inB6 (List.mem_of_getElem? (i := 94) rfl)) rfl
theorem cd_X9_lose : Cond.code yX9_lose cX9_lose 3 (some .int) ∈ wsG := inG (inB6 (List.mem_of_getElem? (i := 99) rfl)) rfl
theorem im_X9_lose : Cond.instanceMethod yX9_lose ∈ wsG := inG (inB6 (List.mem_of_getElem? (i := 97) rfl)) rfl
theorem se_X9_lose : Cond.selects (yX9_lose).cls yX9_lose yX9_lose ∈ wsG := inG (inB6 (List.mem_of_getElem? (i := 98) rfl)) rfl
theorem cd_X9_noCell : Cond.code yX9_noCell cX9_noCell 3 (some .int) ∈ wsG := inG (inB6 (List.mem_of_getElem? (i := 107) rfl)) rfl
theorem im_X9_noCell : Cond.instanceMethod yX9_noCell ∈ wsG := inG (inB6 (List.mem_of_getElem? (i := 106) rfl)) rfl
theorem se_X9_noCell : Cond.selects (yX9_noCell).cls yX9_noCell yX9_noCell ∈ wsG := inG (inS9 (q := (yX9_noCell, 37)) (List.mem_of_getElem? (i := 4) rfl)) rfl
theorem cd_X9_put : Cond.code yX9_put cX9_put 4 (some .int) ∈ wsG := inG (inB6 (List.mem_of_getElem? (i := 103) rfl)) rfl
theorem im_X9_put : Cond.instanceMethod yX9_put ∈ wsG := inG (inB6 (List.mem_of_getElem? (i := 101) rfl)) rfl
theorem se_X9_put : Cond.selects (yX9_put).cls yX9_put yX9_put ∈ wsG := inG (inB6 (List.mem_of_getElem? (i := 102) rfl)) rfl
theorem cd_X9_cell : Cond.code yX9_cell cX9_cell 4 (some .long) ∈ wsG := inG (inB6 (List.mem_of_getElem? (i := 111) rfl)) rfl
theorem im_X9_cell : Cond.instanceMethod yX9_cell ∈ wsG := inG (inB6 (List.mem_of_getElem? (i := 109) rfl)) rfl
theorem se_X9_cell : Cond.selects (yX9_cell).cls yX9_cell yX9_cell ∈ wsG := inG (inB6 (List.mem_of_getElem? (i := 110) rfl)) rfl
theorem cd_X9_isBeyond : Cond.code yX9_isBeyond cX9_isBeyond 4 (some .boolean) ∈ wsG := inG (inB5 (List.mem_of_getElem? (i := 85) rfl)) rfl
theorem sm_X9_isBeyond : Cond.static yX9_isBeyond ∈ wsG := inG (inB5 (List.mem_of_getElem? (i := 84) rfl)) rfl
theorem cd_X9_copy : Cond.code yX9_copy cX9_copy 7 (some .int) ∈ wsG := inG (inB6 (List.mem_of_getElem? (i := 119) rfl)) rfl
theorem im_X9_copy : Cond.instanceMethod yX9_copy ∈ wsG := inG (inB6 (List.mem_of_getElem? (i := 117) rfl)) rfl
theorem se_X9_copy : Cond.selects (yX9_copy).cls yX9_copy yX9_copy ∈ wsG := inG (inB6 (List.mem_of_getElem? (i := 118) rfl)) rfl
theorem cd_X9_traced : Cond.code yX9_traced cX9_traced 2 none ∈ wsG := inG (inB6 (List.mem_of_getElem? (i := 127) rfl)) rfl
theorem im_X9_traced : Cond.instanceMethod yX9_traced ∈ wsG := inG (inB6 (List.mem_of_getElem? (i := 126) rfl)) rfl
theorem se_X9_traced : Cond.selects (yX9_traced).cls yX9_traced yX9_traced ∈ wsG := inG (inS9 (q := (yX9_traced, 37)) (List.mem_of_getElem? (i := 6) rfl)) rfl
theorem cd_X9_tell : Cond.code yX9_tell cX9_tell 4 (some .int) ∈ wsG := inG (inB6 (List.mem_of_getElem? (i := 123) rfl)) rfl
theorem im_X9_tell : Cond.instanceMethod yX9_tell ∈ wsG := inG (inB6 (List.mem_of_getElem? (i := 121) rfl)) rfl
theorem se_X9_tell : Cond.selects (yX9_tell).cls yX9_tell yX9_tell ∈ wsG := inG (inB6 (List.mem_of_getElem? (i := 122) rfl)) rfl
theorem cd_X9_call : Cond.code yX9_call cX9_call 2 (some .int) ∈ wsG := inG (inB6 (List.mem_of_getElem? (i := 131) rfl)) rfl
theorem im_X9_call : Cond.instanceMethod yX9_call ∈ wsG := inG (inB6 (List.mem_of_getElem? (i := 129) rfl)) rfl
theorem se_X9_call : Cond.selects (yX9_call).cls yX9_call yX9_call ∈ wsG := inG (inB6 (List.mem_of_getElem? (i := 130) rfl)) rfl
theorem cd_X9_as : Cond.code yX9_as cX9_as 3 (some .int) ∈ wsG := inG (inB6 (List.mem_of_getElem? (i := 135) rfl)) rfl
theorem im_X9_as : Cond.instanceMethod yX9_as ∈ wsG := inG (inB6 (List.mem_of_getElem? (i := 133) rfl)) rfl
theorem se_X9_as : Cond.selects (yX9_as).cls yX9_as yX9_as ∈ wsG := inG (inB6 (List.mem_of_getElem? (i := 134) rfl)) rfl
theorem cd_X9_trace : Cond.code yX9_trace cX9_trace 1 (some .int) ∈ wsG := inG (inB6 (List.mem_of_getElem? (i := 139) rfl)) rfl
theorem im_X9_trace : Cond.instanceMethod yX9_trace ∈ wsG := inG (inB6 (List.mem_of_getElem? (i := 137) rfl)) rfl
theorem se_X9_trace : Cond.selects (yX9_trace).cls yX9_trace yX9_trace ∈ wsG := inG (inB6 (List.mem_of_getElem? (i := 138) rfl)) rfl
theorem cd_X9_fault : Cond.code yX9_fault cX9_fault 1 (some .int) ∈ wsG := inG (inB6 (List.mem_of_getElem? (i := 143) rfl)) rfl
theorem im_X9_fault : Cond.instanceMethod yX9_fault ∈ wsG := inG (inB6 (List.mem_of_getElem? (i := 141) rfl)) rfl
theorem se_X9_fault : Cond.selects (yX9_fault).cls yX9_fault yX9_fault ∈ wsG := inG (inB6 (List.mem_of_getElem? (i := 142) rfl)) rfl
theorem cd_X9_many : Cond.code yX9_many cX9_many 2 (some .int) ∈ wsG := inG (inB6 (List.mem_of_getElem? (i := 147) rfl)) rfl
theorem im_X9_many : Cond.instanceMethod yX9_many ∈ wsG := inG (inB6 (List.mem_of_getElem? (i := 145) rfl)) rfl
theorem se_X9_many : Cond.selects (yX9_many).cls yX9_many yX9_many ∈ wsG := inG (inB6 (List.mem_of_getElem? (i := 146) rfl)) rfl
